/-! numbers with a point: what is no number never comes up -/
def gdD : FP.Core.Datum → Prop
  | .nan => False
  | .inf _ => True
  | .fin _ c q => c < 16777216 ∧ -149 ≤ q ∧ q ≤ 104
theorem f_t : FP.Core.Fmt.tails FP.Core.b32 = 8388608 := rfl
theorem f_e : FP.Core.Fmt.exps FP.Core.b32 = 256 := rfl
theorem f_qm : FP.Core.Fmt.qmin FP.Core.b32 = -149 := rfl
theorem f_qx : FP.Core.Fmt.qmax FP.Core.b32 = 104 := rfl
theorem f_p : (2 : Nat) ^ FP.Core.b32.p = 16777216 := rfl
theorem enc_b {d : FP.Core.Datum} (h : gdD d) : FP.Core.encode FP.Core.b32 d < 4294967296 ∧ FP.Core.encode FP.Core.b32 d % 2147483648 ≤ 2139095040 := by
  cases d with
  | nan => exact h.elim
  | inf s => cases s <;> decide
  | fin s c q =>
    obtain ⟨h1, h2, h3⟩ := h
    unfold FP.Core.encode FP.Core.assemble
    dsimp only
    rw [f_t, f_e, f_qm]
    have hs : s.toNat ≤ 1 := by cases s <;> decide
    split
    · rename_i g
      generalize s.toNat = z at *
      omega
    · rename_i g
      generalize s.toNat = z at *
      have : (q - -149).toNat ≤ 253 := by omega
      generalize (q - -149).toNat = y at *
      omega
theorem n32_of {d : FP.Core.Datum} (h : gdD d) : vf_n32 (UInt32.ofNat (FP.Core.encode FP.Core.b32 d)) := by
  obtain ⟨h1, h2⟩ := enc_b h
  unfold vf_n32
  rw [UInt32.le_iff_toNat_le, UInt32.toNat_and, UInt32.toNat_ofNat_of_lt' h1]
  show FP.Core.encode FP.Core.b32 d &&& (2 ^ 31 - 1) ≤ _
  rw [Nat.and_two_pow_sub_one_eq_mod]
  exact h2
theorem dec_nn {n : Nat} (h : n % 2147483648 ≤ 2139095040) : FP.Core.decode FP.Core.b32 n ≠ .nan := by
  unfold FP.Core.decode FP.Core.fieldE FP.Core.fieldT
  rw [f_t, f_e]
  split
  · rename_i g
    rw [if_pos (by omega)]
    intro c; cases c
  · split <;> (intro c; cases c)
def NN (x : UInt32) : Prop := FP.Core.decode FP.Core.b32 x.toNat ≠ .nan
theorem NN_of {x : UInt32} (h : vf_n32 x) : NN x := by
  unfold vf_n32 at h
  rw [UInt32.le_iff_toNat_le, UInt32.toNat_and] at h
  change x.toNat &&& (2 ^ 31 - 1) ≤ _ at h
  rw [Nat.and_two_pow_sub_one_eq_mod] at h
  exact dec_nn h
theorem rr_gd (s : Bool) (num den : Nat) (e : Int) : gdD (FP.Core.roundRatio FP.Core.b32 s num den e) := by
  unfold FP.Core.roundRatio
  split
  · exact ⟨by decide, by decide, by decide⟩
  · unfold FP.Core.roundAt FP.Core.settle FP.Core.bound
    have hq : -149 ≤ FP.Core.quantum FP.Core.b32 num den e := by
      unfold FP.Core.quantum; rw [f_qm]; omega
    rw [f_qx, f_p, f_t]
    split
    · split
      · exact ⟨by assumption, hq, by assumption⟩
      · trivial
    · split
      · exact ⟨by decide, by omega, by assumption⟩
      · trivial
theorem rd_gd {d : FP.Core.Datum} (h : d ≠ .nan) : gdD (FP.Core.round FP.Core.b32 d) := by
  cases d with
  | nan => exact absurd rfl h
  | inf s => trivial
  | fin s c q => exact rr_gd _ _ _ _
/-- a number other than 0, no infinity -/
def FN (x : UInt32) : Prop := ∃ s c q, FP.Core.decode FP.Core.b32 x.toNat = .fin s c q ∧ c ≠ 0
theorem div_gd {x y : UInt32} (hx : FN x) (hy : NN y) : vf_n32 (FP.fdiv x y) := by
  obtain ⟨s, c, q, e, hc⟩ := hx
  refine n32_of (d := FP.Core.quotient FP.Core.b32 _ _) ?_
  rw [e]
  unfold NN at hy
  cases hd : FP.Core.decode FP.Core.b32 y.toNat with
  | nan => exact absurd hd hy
  | inf t => exact ⟨by decide, by decide, by decide⟩
  | fin t d r =>
    show gdD (if d = 0 then (if c = 0 then .nan else .inf (s != t)) else FP.Core.roundRatio FP.Core.b32 (s != t) c d (q - r))
    split
    · trivial
    · exact rr_gd _ _ _ _
theorem div2_gd {x y : UInt32} (hx : NN x) (hy : FN y) : vf_n32 (FP.fdiv x y) := by
  obtain ⟨t, d, r, e, hc⟩ := hy
  refine n32_of (d := FP.Core.quotient FP.Core.b32 _ _) ?_
  rw [e]
  unfold NN at hx
  cases hd : FP.Core.decode FP.Core.b32 x.toNat with
  | nan => exact absurd hd hx
  | inf s => trivial
  | fin s c q =>
    show gdD (if d = 0 then (if c = 0 then .nan else .inf (s != t)) else FP.Core.roundRatio FP.Core.b32 (s != t) c d (q - r))
    rw [if_neg hc]
    exact rr_gd _ _ _ _
theorem mul_gd {x y : UInt32} (hx : NN x) (hy : FN y) : vf_n32 (FP.fmul x y) := by
  obtain ⟨t, d, r, e, hc⟩ := hy
  refine n32_of (d := FP.Core.round FP.Core.b32 (FP.Core.exactProduct _ _)) (rd_gd ?_)
  rw [e]
  unfold NN at hx
  cases hd : FP.Core.decode FP.Core.b32 x.toNat with
  | nan => exact absurd hd hx
  | inf s =>
    show (if d = 0 then FP.Core.Datum.nan else .inf (s != t)) ≠ .nan
    rw [if_neg hc]; intro c; cases c
  | fin s c q => intro c; cases c
theorem sub_gd {x y : UInt32} (hx : NN x) (hy : FN y) : vf_n32 (FP.fsub x y) := by
  obtain ⟨t, d, r, e, hc⟩ := hy
  refine n32_of (d := FP.Core.round FP.Core.b32 (FP.Core.exactSum _ (FP.Core.negate _))) (rd_gd ?_)
  rw [e]
  unfold NN at hx
  cases hd : FP.Core.decode FP.Core.b32 x.toNat with
  | nan => exact absurd hd hx
  | inf s => intro c; cases c
  | fin s c q => intro c; cases c
theorem FN.nn {x : UInt32} (h : FN x) : NN x := by
  obtain ⟨s, c, q, e, _⟩ := h
  unfold NN; rw [e]; intro c; cases c
theorem FN_1 : FN FP.fconst1 := ⟨false, 8388608, -23, by decide +kernel, by decide⟩
theorem FN_2 : FN FP.fconst2 := ⟨false, 8388608, -22, by decide +kernel, by decide⟩
theorem FN_23 : FN (1258291200 : UInt32) := ⟨false, 8388608, 0, by decide +kernel, by decide⟩
/-- the bits of a whole number -/
def wbF (k : Nat) : Nat := (k.log2 + 127) * 8388608 + (k * 2 ^ (23 - k.log2) - 8388608)
theorem wb_r {k : Nat} (h0 : 0 < k) (h : k < 2 ^ 24) : 8388608 ≤ k * 2 ^ (23 - k.log2) ∧ k * 2 ^ (23 - k.log2) < 16777216 ∧ k.log2 ≤ 23 := by
  have hl : k.log2 < 24 := (Nat.log2_lt (by omega)).mpr h
  have h1 : 2 ^ k.log2 ≤ k := Nat.log2_self_le (by omega)
  have h2 : k < 2 ^ (k.log2 + 1) := Nat.lt_log2_self
  have e1 : 2 ^ k.log2 * 2 ^ (23 - k.log2) = 8388608 := by rw [← Nat.pow_add, show k.log2 + (23 - k.log2) = 23 by omega]
  have e2 : 2 ^ (k.log2 + 1) * 2 ^ (23 - k.log2) = 16777216 := by rw [← Nat.pow_add, show k.log2 + 1 + (23 - k.log2) = 24 by omega]
  have hp : 0 < 2 ^ (23 - k.log2) := Nat.pow_pos (by omega)
  refine ⟨?_, ?_, by omega⟩
  · rw [← e1]; exact Nat.mul_le_mul_right _ h1
  · rw [← e2]; exact (Nat.mul_lt_mul_right hp).mpr h2
theorem i2f_b {k : Nat} (h0 : 0 < k) (h : k < 2 ^ 24) : FP.i2f (nI k) = UInt32.ofNat (wbF k) := by
  obtain ⟨w1, w2, w3⟩ := wb_r h0 h
  show UInt32.ofNat (FP.Core.encode FP.Core.b32 (FP.Core.round FP.Core.b32 (FP.Core.ofInt (nI k).toInt))) = _
  rw [nI_toInt (by omega)]
  have e1 : FP.Core.ofInt (k : Int) = .fin false k 0 := by
    unfold FP.Core.ofInt
    rw [show decide ((k : Int) < 0) = false by rw [decide_eq_false_iff_not]; omega, Int.natAbs_natCast]
  rw [e1]
  have el : FP.Core.leading k 1 = (k.log2 : Int) := by
    unfold FP.Core.leading
    have e : ((k.log2 : Int) - ((1 : Nat).log2 : Int)) = (k.log2 : Int) := by rw [show (1 : Nat).log2 = 0 by decide]; omega
    dsimp only
    rw [e, if_pos]
    rw [Int.toNat_natCast, show (-(k.log2 : Int)).toNat = 0 by omega, Nat.one_mul, Nat.pow_zero, Nat.mul_one]
    exact Nat.log2_self_le (by omega)
  have eq : FP.Core.quantum FP.Core.b32 k 1 0 = (k.log2 : Int) - 23 := by
    unfold FP.Core.quantum
    rw [el, f_qm, show ((FP.Core.b32.p : Int)) = 24 from rfl]
    omega
  have er : FP.Core.round FP.Core.b32 (.fin false k 0) = .fin false (k * 2 ^ (23 - k.log2)) ((k.log2 : Int) - 23) := by
    show FP.Core.roundRatio FP.Core.b32 false k 1 0 = _
    unfold FP.Core.roundRatio
    rw [if_neg (by omega), eq]
    unfold FP.Core.roundAt
    have en : FP.Core.nearest (FP.Core.unitsNum k 0 ((k.log2 : Int) - 23)) (FP.Core.unitsDen 1 0 ((k.log2 : Int) - 23)) = k * 2 ^ (23 - k.log2) := by
      have u1 : FP.Core.unitsNum k 0 ((k.log2 : Int) - 23) = k * 2 ^ (23 - k.log2) := by
        unfold FP.Core.unitsNum
        rw [show (0 - ((k.log2 : Int) - 23)).toNat = 23 - k.log2 by omega]
      have u2 : FP.Core.unitsDen 1 0 ((k.log2 : Int) - 23) = 1 := by
        unfold FP.Core.unitsDen
        rw [show (((k.log2 : Int) - 23) - 0).toNat = 0 by omega]
      rw [u1, u2]
      unfold FP.Core.nearest
      rw [Nat.mod_one, if_pos (by omega), Nat.div_one]
    rw [en]
    unfold FP.Core.settle FP.Core.bound
    rw [f_p, f_qx, if_pos w2, if_pos (by omega)]
  rw [er]
  unfold FP.Core.encode FP.Core.assemble
  dsimp only
  rw [f_t, f_e, f_qm, if_neg (by omega)]
  unfold wbF
  rw [show ((k.log2 : Int) - 23 - -149).toNat + 1 = k.log2 + 127 by omega]
  rw [show (false.toNat * 256 + (k.log2 + 127)) = k.log2 + 127 by show 0 * 256 + _ = _; omega]
theorem i2f_FN {k : Nat} (h0 : 0 < k) (h : k < 2 ^ 24) : FN (FP.i2f (nI k)) := by
  obtain ⟨w1, w2, w3⟩ := wb_r h0 h
  rw [i2f_b h0 h]
  refine ⟨false, k * 2 ^ (23 - k.log2), (k.log2 : Int) - 23, ?_, by omega⟩
  have hw : wbF k < 4294967296 := by unfold wbF; omega
  rw [UInt32.toNat_ofNat_of_lt' hw]
  have eT : wbF k % 8388608 = k * 2 ^ (23 - k.log2) - 8388608 := by unfold wbF; omega
  have eE : wbF k / 8388608 = k.log2 + 127 := by unfold wbF; omega
  unfold FP.Core.decode FP.Core.fieldE FP.Core.fieldT FP.Core.fieldS
  rw [f_t, f_e, f_qm, eT, eE, Nat.mod_eq_of_lt (show k.log2 + 127 < 256 by omega), if_neg (by omega), if_neg (by omega)]
  have es : ((k.log2 + 127) / 256 % 2 == 1) = false := by
    rw [Nat.div_eq_of_lt (by omega)]; rfl
  rw [es, show 8388608 + (k * 2 ^ (23 - k.log2) - 8388608) = k * 2 ^ (23 - k.log2) by omega, show -149 + (((k.log2 + 127 : Nat) : Int) - 1) = (k.log2 : Int) - 23 by omega]
