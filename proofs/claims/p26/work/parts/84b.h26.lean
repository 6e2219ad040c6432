/-! wear: the bits of a number with a point, by hand -/
def fb (E T : Nat) : UInt32 := UInt32.ofNat (E * 8388608 + T)
theorem fb_n {E T : Nat} (hE : E ≤ 254) (hT : T < 8388608) : (fb E T).toNat = E * 8388608 + T := UInt32.toNat_ofNat_of_lt' (by show _ < 4294967296; omega)
theorem dec_fb {E T : Nat} (h1 : 1 ≤ E) (hE : E ≤ 254) (hT : T < 8388608) : FP.Core.decode FP.Core.b32 (fb E T).toNat = .fin false (8388608 + T) ((E : Int) - 150) := by
  rw [fb_n hE hT]
  unfold FP.Core.decode FP.Core.fieldE FP.Core.fieldT FP.Core.fieldS
  rw [f_t, f_e, f_qm, show (E * 8388608 + T) / 8388608 = E by omega, show (E * 8388608 + T) % 8388608 = T by omega, Nat.mod_eq_of_lt (show E < 256 by omega), if_neg (by omega), if_neg (by omega), Nat.div_eq_of_lt (show E < 256 by omega), show -149 + ((E : Int) - 1) = (E : Int) - 150 by omega]
  rfl
theorem enc_fb {c : Nat} {q : Int} (h1 : 8388608 ≤ c) (h2 : c < 16777216) (hq : -149 ≤ q) (hq2 : q ≤ 104) : UInt32.ofNat (FP.Core.encode FP.Core.b32 (.fin false c q)) = fb ((q + 150).toNat) (c - 8388608) := by
  unfold FP.Core.encode FP.Core.assemble fb
  dsimp only
  rw [f_t, f_e, f_qm, if_neg (by omega), show (q - -149).toNat + 1 = (q + 150).toNat by omega, show (false.toNat * 256 + (q + 150).toNat) = (q + 150).toNat by show 0 * 256 + _ = _; omega]
theorem lg23 {c : Nat} (h1 : 8388608 ≤ c) (h2 : c < 16777216) : c.log2 = 23 := (Nat.log2_eq_iff (by omega)).mpr ⟨h1, h2⟩
/-- rounding that loses nothing -/
theorem rd_ex {num den c : Nat} {e q : Int} (h0 : num ≠ 0) (hq : FP.Core.quantum FP.Core.b32 num den e = q) (hn : FP.Core.nearest (FP.Core.unitsNum num e q) (FP.Core.unitsDen den e q) = c) (hc : c < 16777216) (h104 : q ≤ 104) : FP.Core.roundRatio FP.Core.b32 false num den e = .fin false c q := by
  unfold FP.Core.roundRatio
  rw [if_neg h0, hq]
  unfold FP.Core.roundAt
  rw [hn]
  unfold FP.Core.settle FP.Core.bound
  rw [f_p, f_qx, if_pos hc, if_pos h104]
theorem near_ex (c d : Nat) (hd : 0 < d) : FP.Core.nearest (c * d) d = c := by
  unfold FP.Core.nearest
  rw [Nat.mul_mod_left, if_pos (by omega), Nat.mul_div_cancel _ hd]
theorem quant (num den : Nat) (e : Int) : FP.Core.quantum FP.Core.b32 num den e = max (-149) (FP.Core.leading num den + e - 23) := by
  unfold FP.Core.quantum
  rw [f_qm]
  show max (-149) (FP.Core.leading num den + e - ((24 : Int) - 1)) = _
  rfl
theorem lead_1 {n : Nat} (h : n ≠ 0) : FP.Core.leading n 1 = (n.log2 : Int) := by
  unfold FP.Core.leading
  have e : ((n.log2 : Int) - ((1 : Nat).log2 : Int)) = (n.log2 : Int) := by rw [show (1 : Nat).log2 = 0 by decide]; omega
  dsimp only
  rw [e, if_pos]
  rw [Int.toNat_natCast, show (-(n.log2 : Int)).toNat = 0 by omega, Nat.one_mul, Nat.pow_zero, Nat.mul_one]
  exact Nat.log2_self_le h
theorem lead_d {c d : Nat} (h1 : 8388608 ≤ c) (h2 : c < 16777216) (d1 : 8388608 ≤ d) (d2 : d < 16777216) : FP.Core.leading c d = if d ≤ c then 0 else -1 := by
  unfold FP.Core.leading
  rw [lg23 h1 h2, lg23 d1 d2]
  show (if d * 2 ^ ((23 : Int) - 23).toNat ≤ c * 2 ^ (-((23 : Int) - 23)).toNat then ((23 : Int) - 23) else (23 : Int) - 23 - 1) = _
  rw [show ((23 : Int) - 23) = 0 by omega]
  show (if d * 2 ^ 0 ≤ c * 2 ^ 0 then (0 : Int) else 0 - 1) = _
  by_cases g : d ≤ c
  · rw [if_pos (show d * 2 ^ 0 ≤ c * 2 ^ 0 by omega), if_pos g]
  · rw [if_neg (show ¬ d * 2 ^ 0 ≤ c * 2 ^ 0 by omega), if_neg g]; rfl
theorem quo_e {c d : Nat} {q r : Int} (hd : d ≠ 0) : FP.Core.quotient FP.Core.b32 (.fin false c q) (.fin false d r) = FP.Core.roundRatio FP.Core.b32 false c d (q - r) := by
  unfold FP.Core.quotient
  dsimp only
  rw [if_neg hd]; rfl
theorem half_fb {E T : Nat} (h1 : 2 ≤ E) (hE : E ≤ 254) (hT : T < 8388608) : FP.fdiv (fb E T) FP.fconst2 = fb (E - 1) T := by
  show UInt32.ofNat (FP.Core.encode FP.Core.b32 (FP.Core.quotient FP.Core.b32 (FP.Core.decode FP.Core.b32 (fb E T).toNat) (FP.Core.decode FP.Core.b32 FP.fconst2.toNat))) = _
  rw [dec_fb (by omega) hE hT, show FP.Core.decode FP.Core.b32 FP.fconst2.toNat = .fin false 8388608 (-22) by decide +kernel]
  have er : FP.Core.roundRatio FP.Core.b32 false (8388608 + T) 8388608 ((E : Int) - 150 - -22) = .fin false (8388608 + T) ((E : Int) - 151) := by
    refine rd_ex (by omega) ?_ ?_ (by omega) (by omega)
    · rw [quant, lead_d (by omega) (by omega) (by omega) (by omega), if_pos (by omega)]; omega
    · unfold FP.Core.unitsNum FP.Core.unitsDen
      rw [show ((E : Int) - 150 - -22 - ((E : Int) - 151)).toNat = 23 by omega, show ((E : Int) - 151 - ((E : Int) - 150 - -22)).toNat = 0 by omega]
      exact near_ex (8388608 + T) 8388608 (by omega)
  rw [quo_e (by omega), er, enc_fb (by omega) (by omega) (by omega) (by omega), show ((E : Int) - 151 + 150).toNat = E - 1 by omega, show 8388608 + T - 8388608 = T by omega]
theorem lg46 {c : Nat} (h1 : 8388608 ≤ c) (h2 : c < 16777216) : (c * 8388608).log2 = 46 := (Nat.log2_eq_iff (by omega)).mpr ⟨by show 70368744177664 ≤ _; omega, by show _ < 140737488355328; omega⟩
/-- times a power of two -/
theorem mul_fb {c : Nat} {q r : Int} (h1 : 8388608 ≤ c) (h2 : c < 16777216) (ha : -149 ≤ q + r + 23) (hb : q + r + 23 ≤ 104) : FP.Core.round FP.Core.b32 (FP.Core.exactProduct (.fin false c q) (.fin false 8388608 r)) = .fin false c (q + r + 23) := by
  show FP.Core.roundRatio FP.Core.b32 false (c * 8388608) 1 (q + r) = _
  refine rd_ex (by omega) ?_ ?_ (by omega) hb
  · rw [quant, lead_1 (by omega), lg46 h1 h2]; omega
  · unfold FP.Core.unitsNum FP.Core.unitsDen
    rw [show (q + r - (q + r + 23)).toNat = 0 by omega, show (q + r + 23 - (q + r)).toNat = 23 by omega, Nat.pow_zero, Nat.mul_one, Nat.one_mul]
    exact near_ex c (2 ^ 23) (by decide)
theorem twice_fb {E T : Nat} (h1 : 1 ≤ E) (hE : E ≤ 253) (hT : T < 8388608) : FP.fmul (fb E T) FP.fconst2 = fb (E + 1) T := by
  show UInt32.ofNat (FP.Core.encode FP.Core.b32 (FP.Core.round FP.Core.b32 (FP.Core.exactProduct (FP.Core.decode FP.Core.b32 (fb E T).toNat) (FP.Core.decode FP.Core.b32 FP.fconst2.toNat)))) = _
  rw [dec_fb h1 (by omega) hT, show FP.Core.decode FP.Core.b32 FP.fconst2.toNat = .fin false 8388608 (-22) by decide +kernel, mul_fb (by omega) (by omega) (by omega) (by omega), enc_fb (by omega) (by omega) (by omega) (by omega), show ((E : Int) - 150 + -22 + 23 + 150).toNat = E + 1 by omega, show 8388608 + T - 8388608 = T by omega]
theorem cmp_fb {E T r : Nat} (h1 : 1 ≤ E) (hE : E ≤ 254) (hT : T < 8388608) (h2 : 1 ≤ r) (hr : r ≤ 254) : FP.fcmp (fb E T) (fb r 0) = some (compare (((8388608 + T) * 2 ^ (E - min E r) : Nat) : Int) ((8388608 * 2 ^ (r - min E r) : Nat) : Int)) := by
  show FP.Core.order (FP.Core.decode FP.Core.b32 (fb E T).toNat) (FP.Core.decode FP.Core.b32 (fb r 0).toNat) = _
  rw [dec_fb h1 hE hT, dec_fb h2 hr (by omega)]
  show some (compare (FP.Core.signed false (FP.Core.inUnits (8388608 + T) ((E : Int) - 150) (min ((E : Int) - 150) ((r : Int) - 150)))) (FP.Core.signed false (FP.Core.inUnits (8388608 + 0) ((r : Int) - 150) (min ((E : Int) - 150) ((r : Int) - 150))))) = _
  unfold FP.Core.signed FP.Core.inUnits
  rw [show ((E : Int) - 150 - min ((E : Int) - 150) ((r : Int) - 150)).toNat = E - min E r by omega, show ((r : Int) - 150 - min ((E : Int) - 150) ((r : Int) - 150)).toNat = r - min E r by omega]
  rfl
theorem lt_fb {E T r : Nat} (h1 : 1 ≤ E) (hE : E ≤ 254) (hT : T < 8388608) (h2 : 1 ≤ r) (hr : r ≤ 254) (h : E < r) : FP.fcmp (fb E T) (fb r 0) = some .lt := by
  rw [cmp_fb h1 hE hT h2 hr, show E - min E r = 0 by omega, Nat.pow_zero, Nat.mul_one]
  have hp : 2 ^ 1 ≤ 2 ^ (r - min E r) := Nat.pow_le_pow_right (by omega) (by omega)
  have : ((8388608 + T : Nat) : Int) < ((8388608 * 2 ^ (r - min E r) : Nat) : Int) := by
    have : 8388608 + T < 8388608 * 2 ^ (r - min E r) := by omega
    exact Int.ofNat_lt.mpr this
  congr 1
  exact Int.compare_eq_lt.mpr this
theorem ge_fb {E T r : Nat} (h1 : 1 ≤ E) (hE : E ≤ 254) (hT : T < 8388608) (h2 : 1 ≤ r) (hr : r ≤ 254) (h : r ≤ E) : FP.fcmp (fb E T) (fb r 0) ≠ some .lt := by
  rw [cmp_fb h1 hE hT h2 hr, show r - min E r = 0 by omega, Nat.pow_zero, Nat.mul_one]
  have hp : 2 ^ 0 ≤ 2 ^ (E - min E r) := Nat.pow_le_pow_right (by omega) (by omega)
  have hge : ((8388608 : Nat) : Int) ≤ (((8388608 + T) * 2 ^ (E - min E r) : Nat) : Int) := by
    have : 8388608 ≤ (8388608 + T) * 2 ^ (E - min E r) := Nat.le_trans (by omega) (Nat.mul_le_mul_left (8388608 + T) hp)
    exact Int.ofNat_le.mpr this
  intro c
  have c2 := Int.compare_eq_lt.mp (Option.some.inj c)
  omega
theorem cv_lt {o : Option Ordering} (h : o = some .lt) (k : CmpOp) : Op.cmpValue o k < 0 ∧ ¬ 0 ≤ Op.cmpValue o k := by
  subst h; cases k <;> decide
theorem cv_ge {o : Option Ordering} (h : o ≠ some .lt) (h2 : o ≠ none) (k : CmpOp) : ¬ Op.cmpValue o k < 0 ∧ 0 ≤ Op.cmpValue o k := by
  cases o with
  | none => exact absurd rfl h2
  | some r => cases r <;> first | exact absurd rfl h | (cases k <;> decide)
theorem f_1 : FP.fconst1 = fb 127 0 := by decide +kernel
theorem f_2 : FP.fconst2 = fb 128 0 := by decide +kernel
theorem f_23 : (1258291200 : UInt32) = fb 150 0 := by decide +kernel
theorem cmp_nn {E T r : Nat} (h1 : 1 ≤ E) (hE : E ≤ 254) (hT : T < 8388608) (h2 : 1 ≤ r) (hr : r ≤ 254) : FP.fcmp (fb E T) (fb r 0) ≠ none := by
  rw [cmp_fb h1 hE hT h2 hr]; intro c; cases c
/-- the last step -/
theorem last_fb {T : Nat} (hT : T < 8388608) : FP.f2i (FP.fmul (FP.fsub (fb 127 T) FP.fconst1) (1258291200 : UInt32)) = nI T := by
  have d1 : FP.Core.decode FP.Core.b32 (fb 127 T).toNat = .fin false (8388608 + T) (-23) := by rw [dec_fb (by omega) (by omega) hT]; rfl
  have d2 : FP.Core.decode FP.Core.b32 FP.fconst1.toNat = .fin false 8388608 (-23) := by rw [f_1, dec_fb (by omega) (by omega) (by omega)]; rfl
  have d3 : FP.Core.decode FP.Core.b32 (1258291200 : UInt32).toNat = .fin false 8388608 0 := by rw [f_23, dec_fb (by omega) (by omega) (by omega)]; rfl
  have es : FP.Core.sumUnits false (8388608 + T) (-23) true 8388608 (-23) (min (-23) (-23)) = (T : Int) := by
    unfold FP.Core.sumUnits FP.Core.signed FP.Core.inUnits
    show (((8388608 + T) * 2 ^ (0 : Nat) : Nat) : Int) + -((8388608 * 2 ^ (0 : Nat) : Nat) : Int) = _
    rw [Nat.pow_zero, Nat.mul_one, Nat.mul_one]; omega
  have e1 : FP.fsub (fb 127 T) FP.fconst1 = UInt32.ofNat (FP.Core.encode FP.Core.b32 (FP.Core.roundRatio FP.Core.b32 false T 1 (-23))) := by
    show UInt32.ofNat (FP.Core.encode FP.Core.b32 (FP.Core.round FP.Core.b32 (FP.Core.exactSum (FP.Core.decode FP.Core.b32 (fb 127 T).toNat) (FP.Core.negate (FP.Core.decode FP.Core.b32 FP.fconst1.toNat))))) = _
    rw [d1, d2]
    show UInt32.ofNat (FP.Core.encode FP.Core.b32 (FP.Core.roundRatio FP.Core.b32 (FP.Core.sumSign false true (FP.Core.sumUnits false (8388608 + T) (-23) true 8388608 (-23) (min (-23) (-23)))) (FP.Core.sumUnits false (8388608 + T) (-23) true 8388608 (-23) (min (-23) (-23))).natAbs 1 (min (-23) (-23)))) = _
    rw [es, Int.natAbs_natCast]
    have : FP.Core.sumSign false true (T : Int) = false := by
      unfold FP.Core.sumSign
      split
      · rfl
      · exact decide_eq_false (by omega)
    rw [this]; rfl
  by_cases h0 : T = 0
  · subst h0; rw [e1]; decide +kernel
  · have hl : T.log2 < 23 := (Nat.log2_lt h0).mpr hT
    have w1 : 2 ^ T.log2 ≤ T := Nat.log2_self_le h0
    have w2 : T < 2 ^ (T.log2 + 1) := Nat.lt_log2_self
    have p1 : 2 ^ T.log2 * 2 ^ (23 - T.log2) = 8388608 := by rw [← Nat.pow_add, show T.log2 + (23 - T.log2) = 23 by omega]
    have p2 : 2 ^ (T.log2 + 1) * 2 ^ (23 - T.log2) = 16777216 := by rw [← Nat.pow_add, show T.log2 + 1 + (23 - T.log2) = 24 by omega]
    have hp : 0 < 2 ^ (23 - T.log2) := Nat.pow_pos (by omega)
    have c1 : 8388608 ≤ T * 2 ^ (23 - T.log2) := by rw [← p1]; exact Nat.mul_le_mul_right _ w1
    have c2 : T * 2 ^ (23 - T.log2) < 16777216 := by rw [← p2]; exact (Nat.mul_lt_mul_right hp).mpr w2
    have er : FP.Core.roundRatio FP.Core.b32 false T 1 (-23) = .fin false (T * 2 ^ (23 - T.log2)) ((T.log2 : Int) - 46) := by
      refine rd_ex h0 ?_ ?_ c2 (by omega)
      · rw [quant, lead_1 h0]; omega
      · unfold FP.Core.unitsNum FP.Core.unitsDen
        rw [show (-23 - ((T.log2 : Int) - 46)).toNat = 23 - T.log2 by omega, show ((T.log2 : Int) - 46 - -23).toNat = 0 by omega]
        have := near_ex (T * 2 ^ (23 - T.log2)) 1 (by omega)
        rw [Nat.mul_one] at this
        exact this
    have e2 : FP.fsub (fb 127 T) FP.fconst1 = fb (T.log2 + 104) (T * 2 ^ (23 - T.log2) - 8388608) := by
      rw [e1, er, enc_fb c1 c2 (by omega) (by omega), show ((T.log2 : Int) - 46 + 150).toNat = T.log2 + 104 by omega]
    have e3 : FP.fmul (FP.fsub (fb 127 T) FP.fconst1) (1258291200 : UInt32) = fb (T.log2 + 127) (T * 2 ^ (23 - T.log2) - 8388608) := by
      rw [e2]
      show UInt32.ofNat (FP.Core.encode FP.Core.b32 (FP.Core.round FP.Core.b32 (FP.Core.exactProduct (FP.Core.decode FP.Core.b32 (fb (T.log2 + 104) (T * 2 ^ (23 - T.log2) - 8388608)).toNat) (FP.Core.decode FP.Core.b32 (1258291200 : UInt32).toNat)))) = _
      rw [dec_fb (by omega) (by omega) (by omega), d3, mul_fb (by omega) (by omega) (by omega) (by omega), enc_fb (by omega) (by omega) (by omega) (by omega), show (((T.log2 + 104 : Nat) : Int) - 150 + 0 + 23 + 150).toNat = T.log2 + 127 by omega, show 8388608 + (T * 2 ^ (23 - T.log2) - 8388608) - 8388608 = T * 2 ^ (23 - T.log2) - 8388608 by omega]
    rw [e3]
    show FP.Core.toI (FP.Core.decode FP.Core.b32 (fb (T.log2 + 127) (T * 2 ^ (23 - T.log2) - 8388608)).toNat) = _
    rw [dec_fb (by omega) (by omega) (by omega), show 8388608 + (T * 2 ^ (23 - T.log2) - 8388608) = T * 2 ^ (23 - T.log2) by omega]
    have et : FP.Core.truncate false (T * 2 ^ (23 - T.log2)) (((T.log2 + 127 : Nat) : Int) - 150) = (T : Int) := by
      unfold FP.Core.truncate FP.Core.signed
      rw [show (((T.log2 + 127 : Nat) : Int) - 150).toNat = 0 by omega, show (-(((T.log2 + 127 : Nat) : Int) - 150)).toNat = 23 - T.log2 by omega, Nat.pow_zero, Nat.mul_one, Nat.mul_div_cancel _ hp]
      rfl
    unfold FP.Core.toI FP.Core.toInt
    dsimp only
    rw [et, show max (-2 ^ 31) (min (2 ^ 31 - 1) (T : Int)) = (T : Int) by omega]
    show Int32.ofInt (T : Int) = Int32.ofNat T
    apply Int32.toBitVec_inj.mp
    show BitVec.ofInt 32 (T : Int) = BitVec.ofNat 32 T
    exact BitVec.ofInt_natCast ..
theorem sh23 (E T : Nat) (hE : E < 255) (hT : T < 8388608) : (nI E <<< ((23 : Int32) &&& 31)) + nI T = (fb E T).toInt32 := by
  have h1 : nI E <<< ((23 : Int32) &&& 31) = nI (E * 8388608) := by
    apply Int32.toBitVec_inj.mp
    show BitVec.ofNat 32 E <<< (23 : Nat) = BitVec.ofNat 32 (E * 8388608)
    apply BitVec.eq_of_toNat_eq
    rw [BitVec.toNat_shiftLeft, BitVec.toNat_ofNat, BitVec.toNat_ofNat, Nat.shiftLeft_eq]
    omega
  rw [h1, nI_add]
  apply Int32.toBitVec_inj.mp
  show BitVec.ofNat 32 (E * 8388608 + T) = BitVec.ofNat 32 (E * 8388608 + T)
  rfl
theorem bits_fb {E T : Nat} (h1 : 60 ≤ E) (hE : E ≤ 200) (hT : T < 8388608) {Q : Int32 → Prop} (hQ : Q (fb E T).toInt32) : wp_X5_bitsOf (fb E T) Q := by
  have nn : ∀ e, 1 ≤ e → e ≤ 254 → NN (fb e T) := fun e a b => by unfold NN; rw [dec_fb a b hT]; intro c; cases c
  have c59 : wb_X5_bitsOf_59 Q (fb 127 T) (nI E) := by
    have g1 := sub_gd (nn 127 (by omega) (by omega)) FN_1
    refine ⟨g1, mul_gd (NN_of g1) FN_23, ?_⟩
    rw [last_fb hT, sh23 E T (by omega) hT]; exact hQ
  -- up to 1
  have l34 : ∀ d e j, e + d = 127 → j + d ≤ 126 → 60 ≤ e → wl_X5_bitsOf_34 Q (d + 1) (fb e T) (nI (E + d)) (nI j) := by
    intro d
    induction d with
    | zero =>
      intro e j he hj h60
      have ee : e = 127 := by omega
      subst ee
      rw [Nat.add_zero]
      refine pk_le 126 j (fun _ => c59) (fun _ => ⟨fun _ => c59, fun z => absurd ?_ z⟩) rfl rfl
      rw [f_1]
      exact (cv_ge (ge_fb (by omega) (by omega) hT (by omega) (by omega) (by omega)) (cmp_nn (by omega) (by omega) hT (by omega) (by omega)) _).2
    | succ d ih =>
      intro e j he hj h60
      refine pk_le 126 j (fun z => absurd z (by omega)) (fun _ => ⟨fun z => absurd z ?_, fun _ => ⟨mul_gd (nn e (by omega) (by omega)) FN_2, fun y ey y2 ey2 y3 ey3 => ?_⟩⟩) rfl rfl
      · rw [f_1]
        exact (cv_lt (lt_fb (by omega) (by omega) hT (by omega) (by omega) (by omega)) _).2
      · rw [twice_fb (by omega) (by omega) hT] at ey
        rw [← Int32.sub_eq_add_neg, ← Nat.add_assoc, nI_pred] at ey2
        rw [ey, ey2, ey3, i_p1]
        exact ih (e + 1) (j + 1) (by omega) (by omega) (by omega)
  have c32 : ∀ e w, 60 ≤ e → e ≤ 127 → w = nI (E + (127 - e)) → wb_X5_bitsOf_32 Q (fb e T) w := fun e w he h127 hw => by
    rw [hw]
    exact ⟨127 - e + 1, l34 (127 - e) e 0 (by omega) (by omega) he⟩
  by_cases h127 : E ≤ 127
  · -- below 2 at once
    have c := c32 E (127 : Int32) h1 h127 (by rw [show E + (127 - E) = 127 by omega]; rfl)
    refine ⟨1, pk_le 126 0 (fun z => absurd z (by omega)) (fun _ => ⟨fun _ => c, fun z => absurd ?_ z⟩) rfl rfl⟩
    rw [f_2]
    exact (cv_lt (lt_fb (by omega) (by omega) hT (by omega) (by omega) (by omega)) _).1
  · have l7 : ∀ d e j, e = 127 + d → j + d = E - 127 → wl_X5_bitsOf_7 Q (d + 1) (fb e T) (nI (127 + j)) (nI j) := by
      intro d
      induction d with
      | zero =>
        intro e j he hj
        have c := c32 127 (nI (127 + j)) (by omega) (by omega) (by rw [show 127 + j = E + (127 - 127) by omega])
        subst he
        refine pk_le 126 j (fun _ => c) (fun _ => ⟨fun _ => c, fun z => absurd ?_ z⟩) rfl rfl
        rw [f_2]
        exact (cv_lt (lt_fb (by omega) (by omega) hT (by omega) (by omega) (by omega)) _).1
      | succ d ih =>
        intro e j he hj
        refine pk_le 126 j (fun z => absurd z (by omega)) (fun _ => ⟨fun z => absurd z ?_, fun _ => ⟨div2_gd (nn e (by omega) (by omega)) FN_2, fun y ey y2 ey2 y3 ey3 => ?_⟩⟩) rfl rfl
        · rw [f_2]
          exact (cv_ge (ge_fb (by omega) (by omega) hT (by omega) (by omega) (by omega)) (cmp_nn (by omega) (by omega) hT (by omega) (by omega)) _).1
        · rw [half_fb (by omega) (by omega) hT] at ey
          rw [i_p1] at ey2 ey3
          rw [ey, ey2, ey3]
          exact ih (e - 1) (j + 1) (by omega) (by omega)
    exact ⟨E - 127 + 1, l7 (E - 127) E 0 (by omega) (by omega)⟩
/-! the quotient of two such numbers is one -/
theorem near_b {n d : Nat} (hd : 0 < d) : n / d ≤ FP.Core.nearest n d ∧ FP.Core.nearest n d ≤ n / d + 1 := by
  unfold FP.Core.nearest
  (repeat' split) <;> omega
theorem quo_fb {c d : Nat} {e : Int} (h1 : 8388608 ≤ c) (h2 : c < 16777216) (d1 : 8388608 ≤ d) (d2 : d < 16777216) (ea : -60 ≤ e) (eb : e ≤ 60) : ∃ c' q', FP.Core.roundRatio FP.Core.b32 false c d e = .fin false c' q' ∧ 8388608 ≤ c' ∧ c' < 16777216 ∧ e - 24 ≤ q' ∧ q' ≤ e - 22 := by
  have fin : ∀ (q : Int) (u : Nat), FP.Core.quantum FP.Core.b32 c d e = q → FP.Core.nearest (FP.Core.unitsNum c e q) (FP.Core.unitsDen d e q) = u → 8388608 ≤ u → u ≤ 16777216 → e - 24 ≤ q → q ≤ e - 23 → ∃ c' q', FP.Core.roundRatio FP.Core.b32 false c d e = .fin false c' q' ∧ 8388608 ≤ c' ∧ c' < 16777216 ∧ e - 24 ≤ q' ∧ q' ≤ e - 22 := by
    intro q u hq hu u1 u2 q1 q2
    by_cases g : u < 16777216
    · exact ⟨u, q, rd_ex (by omega) hq hu g (by omega), u1, g, q1, by omega⟩
    · refine ⟨8388608, q + 1, ?_, by omega, by omega, by omega, by omega⟩
      unfold FP.Core.roundRatio
      rw [if_neg (by omega), hq]
      unfold FP.Core.roundAt
      rw [hu]
      unfold FP.Core.settle FP.Core.bound
      rw [f_p, f_qx, f_t, if_neg g, if_pos (by omega)]
  have hd : 0 < d := by omega
  by_cases g : d ≤ c
  · refine fin (e - 23) (FP.Core.nearest (c * 2 ^ 23) d) ?_ ?_ ?_ ?_ (by omega) (by omega)
    · rw [quant, lead_d h1 h2 d1 d2, if_pos g]; omega
    · unfold FP.Core.unitsNum FP.Core.unitsDen
      rw [show (e - (e - 23)).toNat = 23 by omega, show (e - 23 - e).toNat = 0 by omega, Nat.pow_zero, Nat.mul_one]
    · refine Nat.le_trans ?_ (near_b hd).1
      rw [Nat.le_div_iff_mul_le hd]
      omega
    · have := (near_b (n := c * 2 ^ 23) hd).2
      have h3 : c * 2 ^ 23 / d < 16777216 := by
        rw [Nat.div_lt_iff_lt_mul hd]
        omega
      omega
  · refine fin (e - 24) (FP.Core.nearest (c * 2 ^ 24) d) ?_ ?_ ?_ ?_ (by omega) (by omega)
    · rw [quant, lead_d h1 h2 d1 d2, if_neg g]; omega
    · unfold FP.Core.unitsNum FP.Core.unitsDen
      rw [show (e - (e - 24)).toNat = 24 by omega, show (e - 24 - e).toNat = 0 by omega, Nat.pow_zero, Nat.mul_one]
    · refine Nat.le_trans ?_ (near_b hd).1
      rw [Nat.le_div_iff_mul_le hd]
      omega
    · have := (near_b (n := c * 2 ^ 24) hd).2
      have h3 : c * 2 ^ 24 / d < 16777216 := by
        rw [Nat.div_lt_iff_lt_mul hd]
        omega
      omega
theorem div_fb {E T F U : Nat} (h1 : 100 ≤ E) (hE : E ≤ 160) (hT : T < 8388608) (h2 : 100 ≤ F) (hF : F ≤ 160) (hU : U < 8388608) : ∃ G V, FP.fdiv (fb E T) (fb F U) = fb G V ∧ V < 8388608 ∧ (E : Int) - F + 126 ≤ G ∧ (G : Int) ≤ E - F + 128 := by
  obtain ⟨c', q', er, c1, c2, q1, q2⟩ := quo_fb (c := 8388608 + T) (d := 8388608 + U) (e := (E : Int) - 150 - ((F : Int) - 150)) (by omega) (by omega) (by omega) (by omega) (by omega) (by omega)
  refine ⟨(q' + 150).toNat, c' - 8388608, ?_, by omega, by omega, by omega⟩
  show UInt32.ofNat (FP.Core.encode FP.Core.b32 (FP.Core.quotient FP.Core.b32 (FP.Core.decode FP.Core.b32 (fb E T).toNat) (FP.Core.decode FP.Core.b32 (fb F U).toNat))) = _
  rw [dec_fb (by omega) (by omega) hT, dec_fb (by omega) (by omega) hU]
  rw [quo_e (by omega), er, enc_fb c1 c2 (by omega) (by omega)]
theorem i2f_fb {k : Nat} (h0 : 0 < k) (h : k < 2 ^ 24) : FP.i2f (nI k) = fb (k.log2 + 127) (k * 2 ^ (23 - k.log2) - 8388608) := by
  rw [i2f_b h0 h]; rfl
section WE
variable {σ : Rg} {μ : Ar} {σb : Rg} {μb : Ar} {X : Nat → Nat} {N : Nat}
theorem lg_le {k m : Nat} (h0 : 0 < k) (h : k < 2 ^ m) : k.log2 < m := (Nat.log2_lt (by omega)).mpr h
theorem cf_wearX (hC : RCn σ μ X) (hI : IX N X) (hN : N < 2 ^ 20) {x : Int32} {Q : Int32 → Rg → Ar → Rg → Ar → Prop} (hQ : ∀ σ' μ', RCn σ' μ' X → Q (weA X x) σ' μ' σb μb) : wp_X5_wear σ μ σb μb x Q := by
  have hB := hI.1
  have b0 := hB.1
  have b6 := hB.2.1
  have S := hC.1.1
  have B := hC.1.2
  have hq := hQ σ μ hC
  have em : exV X 1 = meN X (X 0) := by unfold exV; rw [exB_me X, show X 0 - 1 + 1 = X 0 by omega]
  have ef : exV X 0 = feN X := by unfold exV feN; rw [exB_le0 X (X 0 - 1) (by omega), show X 0 - 1 + 1 = X 0 by omega]
  unfold weA at hq
  rw [em, ef] at hq
  refine ⟨fun z => ?_, fun z => ?_, fun z => ?_, fun z => ?_, fun z => ?_, fun z => ?_⟩
  · rw [if_neg (fun c => by subst c; revert z; decide), if_neg (fun c => by subst c; revert z; decide), if_neg (fun c => by subst c; revert z; decide), if_neg (fun c => by subst c; revert z; decide), if_neg (fun c => by subst c; revert z; decide)] at hq
    exact hq
  · subst z; exact sc_mostErases S B hB (by omega) hq
  · subst z; exact sc_fewestErases S B hB (by omega) hq
  · subst z; exact sc_allErases S B hB hq
  · subst z; rw [S.2.2.1]; exact hq
  · subst z
    rw [if_neg (by decide), if_neg (by decide), if_neg (by decide), if_neg (by decide), if_pos rfl] at hq
    have hle := eaN_le hB (X 0) b6
    have hle6 : N * X 0 ≤ N * 6 := Nat.mul_le_mul_left _ b6
    have hme := meN_le hB (X 0) b6
    refine sc_allErases S B hB (pk_le (eaN X (X 0)) 0 (fun g => ?_) (fun g => ?_) rfl rfl)
    · rw [if_pos (by omega)] at hq; exact hq
    rw [if_neg (by omega)] at hq
    rw [S.1]
    refine ⟨fun _ => ?_, fun c => absurd (nI_lt (a := 0) (b := X 0) (by omega) (by omega)) c⟩
    have f1 : FN (FP.i2f (nI (eaN X (X 0)))) := i2f_FN (by omega) (by omega)
    have f2 : FN (FP.i2f (nI (X 0))) := i2f_FN (by omega) (by omega)
    have hp := me_pos X (X 0) (by omega)
    have f3 : FN (FP.i2f (nI (meN X (X 0)))) := i2f_FN (by omega) (by omega)
    have g1 := div_gd f1 f2.nn
    refine ⟨g1, fun y ey => sc_mostErases S B hB (by omega) ?_⟩
    rw [ey]
    have g2 := div_gd f3 (NN_of g1)
    refine ⟨g2, ?_⟩
    obtain ⟨a1, a2, a3⟩ := wb_r (k := eaN X (X 0)) (by omega) (by omega)
    obtain ⟨s1, s2, s3⟩ := wb_r (k := X 0) (by omega) (by omega)
    obtain ⟨m1, m2, m3⟩ := wb_r (k := meN X (X 0)) (by omega) (by omega)
    have sl : (X 0).log2 < 3 := lg_le (by omega) (by omega)
    obtain ⟨G, V, e1, hV, G1, G2⟩ := div_fb (E := (eaN X (X 0)).log2 + 127) (T := eaN X (X 0) * 2 ^ (23 - (eaN X (X 0)).log2) - 8388608) (F := (X 0).log2 + 127) (U := X 0 * 2 ^ (23 - (X 0).log2) - 8388608) (by omega) (by omega) (by omega) (by omega) (by omega) (by omega)
    have em1 : FP.fdiv (FP.i2f (nI (eaN X (X 0)))) (FP.i2f (nI (X 0))) = fb G V := by rw [i2f_fb (by omega) (by omega), i2f_fb (by omega) (by omega)]; exact e1
    obtain ⟨H, W, e2, hW, H1, H2⟩ := div_fb (E := (meN X (X 0)).log2 + 127) (T := meN X (X 0) * 2 ^ (23 - (meN X (X 0)).log2) - 8388608) (F := G) (U := V) (by omega) (by omega) (by omega) (by omega) (by omega) hV
    have em2 : FP.fdiv (FP.i2f (nI (meN X (X 0)))) (fb G V) = fb H W := by rw [i2f_fb (by omega) (by omega)]; exact e2
    rw [em1, em2] at hq ⊢
    exact bits_fb (by omega) (by omega) hW hq
end WE
