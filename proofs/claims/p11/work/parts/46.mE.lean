/-! the reference: lengths, values, which sector -/
def ln (X : Nat → Nat) (s i : Nat) : Nat := if kd X s (ps X s i) = 1 then 3 else bt X s (ps X s i + 1) % 16
def nm (X : Nat → Nat) (s p : Nat) : Nat → Nat
  | 0 => 0
  | n + 1 => nm X s p n * 256 + bt X s (p + n)
def pc8 (b : Nat) : Nat := b % 2 + b / 2 % 2 + b / 4 % 2 + b / 8 % 2 + b / 16 % 2 + b / 32 % 2 + b / 64 % 2 + b / 128 % 2
def zr (X : Nat → Nat) (s p : Nat) : Nat → Nat
  | 0 => 0
  | n + 1 => zr X s p n + (8 - pc8 (bt X s (p + n)))
def vlN (X : Nat → Nat) (s i : Nat) : Nat := if kd X s (ps X s i) = 1 then nm X s (ps X s i + 2) 3 + zr X s (ps X s i + 6) 8 else nm X s (ps X s i + 2) (ln X s i)
def vlL (X : Nat → Nat) (s i : Nat) : Int64 := if ln X s i = 0 then -4 else lN (vlN X s i)
def hv (X : Nat → Nat) (s t : Nat) : Prop := nwt X s t ≠ 0 ∧ 0 < ln X s (nwt X s t - 1)
noncomputable def vdN (X : Nat → Nat) (s : Nat) : Nat → Nat
  | 0 => 0
  | t + 1 => itp (hv X s t) (vdN X s t + 1) (vdN X s t)
/-- the sizes in the next sector of tags below t -/
noncomputable def szN (X : Nat → Nat) (s : Nat) : Nat → Nat
  | 0 => 4
  | t + 1 => itp (hv X s t) (szN X s t + (if kd X s (ps X s (nwt X s t - 1)) = 1 then 14 else 3 + ln X s (nwt X s t - 1))) (szN X s t)
section ME
variable {σ : Rg} {μ : Ar} {X : Nat → Nat} {N : Nat}
theorem bitc : ∀ b, b < 256 → ∀ Q : Int32 → Prop, Q (nI (pc8 b)) → wp_J6_bitCount_0f7a4 (nI b) Q := by
  intro b hb Q hQ y9 e9 y23 e23 y33 e33 y40 e40 y47 e47
  subst e9 e23 e33 e40 e47
  revert hQ
  have key : ∀ b, b < 256 → nI (pc8 b) = (fun x1 : Int32 => (fun y9 : Int32 => (fun y23 : Int32 => (fun y33 : Int32 => (fun y40 : Int32 => (y40 + ((y40).toUInt32 >>> (((16 : Int32)).toUInt32 &&& Int32.toUInt32 31)).toInt32) &&& (63 : Int32)) (y33 + ((y33).toUInt32 >>> (((8 : Int32)).toUInt32 &&& Int32.toUInt32 31)).toInt32)) ((y23 + ((y23).toUInt32 >>> (((4 : Int32)).toUInt32 &&& Int32.toUInt32 31)).toInt32) &&& (252645135 : Int32))) ((y9 &&& (858993459 : Int32)) + (((y9).toUInt32 >>> (((2 : Int32)).toUInt32 &&& Int32.toUInt32 31)).toInt32 &&& (858993459 : Int32)))) (x1 - (((x1).toUInt32 >>> (((1 : Int32)).toUInt32 &&& Int32.toUInt32 31)).toInt32 &&& (1431655765 : Int32)))) (nI b) := by decide +kernel
  rw [key b hb]
  exact id
theorem i_r16 (a : Nat) (ha : a < 2 ^ 30) : nI a - nI a / (16 : Int32) * (16 : Int32) = nI (a % 16) := i_rem a 16 (by omega) (by omega) (by omega) rfl rfl
theorem pc8_le (b : Nat) : pc8 b ≤ 8 := by unfold pc8; omega
theorem i_shl8 (a b : Nat) (ha : a < 2 ^ 24) (hb : b < 256) : ((lN a <<< (((8 : Int32)).toInt64 &&& 63)) ||| (nI b).toInt64) = lN (a * 256 + b) := by
  rw [nI_l (by omega)]
  apply Int64.toBitVec_inj.mp
  show BitVec.ofNat 64 a <<< (8 : Nat) ||| BitVec.ofNat 64 b = BitVec.ofNat 64 (a * 256 + b)
  apply BitVec.eq_of_toNat_eq
  rw [BitVec.toNat_or, BitVec.toNat_shiftLeft, BitVec.toNat_ofNat, BitVec.toNat_ofNat, BitVec.toNat_ofNat, Nat.shiftLeft_eq]
  rw [Nat.mod_eq_of_lt (show a < 2 ^ 64 by omega), Nat.mod_eq_of_lt (show a * 2 ^ 8 < 2 ^ 64 by omega), Nat.mod_eq_of_lt (show b < 2 ^ 64 by omega), Nat.mod_eq_of_lt (show a * 256 + b < 2 ^ 64 by omega)]
  rw [Nat.mul_comm a, ← Nat.two_pow_add_eq_or_of_lt (by omega)]
theorem nm_lt (hB : XB N X) {s p n : Nat} (hs : s < 6) (h : p + n ≤ 128) (hn : n ≤ 4) : nm X s p n < 256 ^ n := by
  induction n with
  | zero => show 0 < 1; omega
  | succ n ih =>
    have h1 := ih (by omega) (by omega)
    have h2 := hB.b (s := s) (p := p + n) hs (by omega)
    show nm X s p n * 256 + bt X s (p + n) < 256 ^ (n + 1)
    rw [Nat.pow_succ]; omega
theorem zr_le (X : Nat → Nat) (s p n : Nat) : zr X s p n ≤ 8 * n := by
  induction n with
  | zero => exact Nat.le_refl _
  | succ n ih => show zr X s p n + (8 - _) ≤ _; omega
theorem p256 {n : Nat} (h : n ≤ 3) : 256 ^ n ≤ 2 ^ 24 := by
  rcases (show n = 0 ∨ n = 1 ∨ n = 2 ∨ n = 3 by omega) with e | e | e | e <;> subst e <;> decide
theorem sm_number {s p n : Nat} (hR : RT μ X s) (hB : XB N X) (hs : s < 6) (h : p + n ≤ 128) (hn : n ≤ 4) {Q : Int64 → Rg → Ar → Prop} (hQ : Q (lN (nm X s p n)) σ μ) : wp_X6_number σ μ (nI s) (nI p) (nI n) Q := by
  have key : ∀ d k, k + d = n → wl_X6_number_6 Q (d + 1) σ μ (nI s) (nI p) (nI n) (lN (nm X s p k)) (nI (p + k)) := by
    intro d
    induction d with
    | zero =>
      intro k hk
      have e : k = n := by omega
      subst e
      exact pk_le (p + k) (p + k) (fun _ => hQ) (fun z => absurd z (by omega)) (nI_add _ _) rfl
    | succ d ih =>
      intro k hk
      refine pk_le (p + n) (p + k) (fun z => absurd z (by omega)) (fun _ => ?_) (nI_add _ _) rfl
      refine sr_byteAt hR hs (by omega) (fun y ey y2 ey2 => ?_)
      have h1 := nm_lt hB (n := k) hs (show p + k ≤ 128 by omega) (by omega)
      have h2 := hB.b (s := s) (p := p + k) hs (by omega)
      have h3 := p256 (show k ≤ 3 by omega)
      rw [ey, ey2, i_p1, i_shl8 _ _ (by omega) (by omega)]
      exact ih (k + 1) (by omega)
  exact ⟨n + 1, key n 0 (by omega)⟩
theorem sm_zeros {s p : Nat} (hR : RT μ X s) (hB : XB N X) (hs : s < 6) (h : p + 8 ≤ 128) {Q : Int32 → Rg → Ar → Prop} (hQ : Q (nI (zr X s p 8)) σ μ) : wp_X6_zeros σ μ (nI s) (nI p) Q := by
  have key : ∀ d k, k + d = 8 → wl_X6_zeros_5 Q (d + 1) σ μ (nI s) (nI p) (nI (zr X s p k)) (nI (p + k)) := by
    intro d
    induction d with
    | zero =>
      intro k hk
      have e : k = 8 := by omega
      subst e
      exact pk_le (p + 8) (p + 8) (fun _ => hQ) (fun z => absurd z (by omega)) (nI_add p 8) rfl
    | succ d ih =>
      intro k hk
      refine pk_le (p + 8) (p + k) (fun z => absurd z (by omega)) (fun _ => ?_) (nI_add p 8) rfl
      refine sr_byteAt hR hs (by omega) ?_
      have h2 := hB.b (s := s) (p := p + k) hs (by omega)
      refine bitc _ (by omega) _ (fun y ey y2 ey2 => ?_)
      have h3 := pc8_le (bt X s (p + k))
      rw [ey, ey2, i_p1, show (8 : Int32) = nI 8 from rfl, pk_sub h3, nI_add]
      exact ih (k + 1) (by omega)
  exact ⟨8 + 1, key 8 0 (by omega)⟩
/-- an entry of the reading: where its bytes lie -/
theorem ent (hB : XB N X) {s i : Nat} (hi : i < nE X s) : ps X s i + sz X s (ps X s i) ≤ X 1 ∧ kd X s (ps X s i) < 4 ∧ (kd X s (ps X s i) = 1 → sz X s (ps X s i) = 14) ∧ (kd X s (ps X s i) = 3 → sz X s (ps X s i) = 4) ∧ (kd X s (ps X s i) = 0 ∨ kd X s (ps X s i) = 2 → sz X s (ps X s i) = 3 + ln X s i ∧ ln X s i ≤ 4) ∧ (kd X s (ps X s i) ≠ 3 → bt X s (ps X s i) < 48) := by
  obtain ⟨⟨g1, g2⟩, g3, g4⟩ := (nE_spec (s := s) hB.2.2.2.1).1 i hi
  have hk := kd_ok g3
  have hr := szf_r (a := bt X s (ps X s i)) (b := bt X s (ps X s i + 1)) (by rw [← hk.2]; exact g3)
  rw [← hk.2] at hr
  have hl := kd_le X s (ps X s i)
  refine ⟨g4, by omega, hr.2.1, hr.2.2.1, fun h => ?_, fun h => kdf_tag (b := bt X s (ps X s i + 1)) (by rw [← hk.2]; exact g3) (by rw [← hk.2]; exact h)⟩
  have := hr.2.2.2 h
  unfold ln
  rw [if_neg (by omega)]
  exact this
theorem sm_lengthOf {s i : Nat} (hR : RT μ X s) (hB : XB N X) (hs : s < 6) (hP : PQ X s (nE X s) σ μ) (hi : i < nE X s) {Q : Int32 → Rg → Ar → Prop} (hQ : Q (nI (ln X s i)) σ μ) : wp_X6_lengthOf σ μ (nI s) (nI i) Q := by
  have b1 := hB.2.2.2.1
  have he := nE_le (s := s) b1
  obtain ⟨p2, p3, p4⟩ := hP.2 i hi
  obtain ⟨q1, q2, q3, q4, q5, q6⟩ := ent hB hi
  have hz := sz_ge X s (ps X s i)
  have hin : vp_in (nI i) 64 := pk_in i 64 (by omega) rfl
  refine ⟨hin, ?_⟩
  rw [nI_clamp (by omega), p2, p3]
  unfold ln at hQ
  refine ⟨fun z => ⟨hin, ?_⟩, fun z => ?_⟩
  · have e : kd X s (ps X s i) ≠ 1 := fun g => z (by rw [g]; rfl)
    rw [if_neg e] at hQ
    rw [i_p1]
    have := hB.b (s := s) (p := ps X s i + 1) hs (by omega)
    refine sr_byteAt hR hs (by omega) ?_
    show Q _ _ _
    rw [i_r16 _ (by omega)]; exact hQ
  · have e := (nI_eq (b := 1) (by omega) (by omega)).mp z
    rw [if_pos e] at hQ; exact hQ
theorem sm_valueOf {s i : Nat} (hR : RT μ X s) (hB : XB N X) (hs : s < 6) (hP : PQ X s (nE X s) σ μ) (hi : i < nE X s) (h3 : kd X s (ps X s i) ≠ 3) {Q : Int64 → Rg → Ar → Prop} (hQ : Q (vlL X s i) σ μ) : wp_X6_valueOf σ μ (nI s) (nI i) Q := by
  have b1 := hB.2.2.2.1
  have he := nE_le (s := s) b1
  obtain ⟨p2, p3, p4⟩ := hP.2 i hi
  obtain ⟨q1, q2, q3, q4, q5, q6⟩ := ent hB hi
  have hz := sz_ge X s (ps X s i)
  have hin : vp_in (nI i) 64 := pk_in i 64 (by omega) rfl
  have i2 : ∀ a, nI a + (2 : Int32) = nI (a + 2) := fun a => nI_add a 2
  have i6 : ∀ a, nI a + (6 : Int32) = nI (a + 6) := fun a => nI_add a 6
  refine ⟨hin, ?_⟩
  rw [nI_clamp (by omega), p2, p3]
  unfold vlL vlN at hQ
  refine ⟨fun z => ⟨hin, ?_⟩, fun z => ⟨hin, ?_⟩⟩
  · have e : kd X s (ps X s i) ≠ 1 := fun g => z (by rw [g]; rfl)
    have el : ln X s i = bt X s (ps X s i + 1) % 16 := by unfold ln; rw [if_neg e]
    have q7 := q5 (by omega)
    rw [if_neg e] at hQ
    rw [i_p1]
    have := hB.b (s := s) (p := ps X s i + 1) hs (by omega)
    refine sr_byteAt hR hs (by omega) (fun y ey => ?_)
    rw [i_r16 _ (by omega), ← el] at ey
    rw [ey]
    refine ⟨fun z => ⟨hin, ?_⟩, fun z => ?_⟩
    · have e0 : ln X s i ≠ 0 := fun g => z (by rw [g]; rfl)
      rw [if_neg e0] at hQ
      rw [p2, i2]
      exact sm_number hR hB hs (by omega) (by omega) hQ
    · have e0 : ln X s i = 0 := (nI_eq (b := 0) (by omega) (by omega)).mp z
      rw [if_pos e0] at hQ; exact hQ
  · have e := (nI_eq (b := 1) (by omega) (by omega)).mp z
    have q7 := q3 e
    have el : ln X s i = 3 := by unfold ln; rw [if_pos e]
    rw [if_neg (by omega), if_pos e] at hQ
    rw [i2]
    refine sm_number (n := 3) hR hB hs (by omega) (by omega) ⟨hin, ?_⟩
    rw [p2, i6]
    refine sm_zeros hR hB hs (by omega) ?_
    have h1 := nm_lt hB (n := 3) hs (show ps X s i + 2 + 3 ≤ 128 by omega) (by omega)
    have h2 := zr_le X s (ps X s i + 6) 8
    rw [nI_l (by omega)]
    have : lN (nm X s (ps X s i + 2) 3) + lN (zr X s (ps X s i + 6) 8) = lN (nm X s (ps X s i + 2) 3 + zr X s (ps X s i + 6) 8) := (Int64.ofNat_add _ _).symm
    rw [this]; exact hQ
theorem nwt_i (hB : XB N X) {s t : Nat} (h : nwt X s t ≠ 0) : nwt X s t - 1 < nE X s ∧ kd X s (ps X s (nwt X s t - 1)) ≠ 3 ∧ st1 X s (nE X s) (nwt X s t - 1) = 1 ∧ bt X s (ps X s (nwt X s t - 1)) = t := nwN_is (j := nE X s) (i := nwt X s t - 1) (show nwt X s t = _ by omega)
theorem nwI_some {n : Nat} (h : n ≠ 0) : nwI n = nI (n - 1) := if_neg h
theorem sm_hasValue {s t : Nat} (hR : RT μ X s) (hB : XB N X) (hs : s < 6) (ht : t < 48) (hD : RD X s σ μ) {Q : Int32 → Rg → Ar → Prop} (h1 : hv X s t → Q 1 σ μ) (h0 : ¬ hv X s t → Q 0 σ μ) : wp_X6_hasValue σ μ (nI s) (nI t) Q := by
  have b1 := hB.2.2.2.1
  have he := nE_le (s := s) b1
  have hin : vp_in (nI t) 48 := pk_in t 48 (by omega) rfl
  have hle := nwN_le X s (nE X s) t
  refine ⟨hin, ?_⟩
  rw [nI_clamp (by omega), hD.2.2.2.1 t ht]
  refine ⟨fun z => ?_, fun z => ⟨hin, ?_⟩⟩
  · have e := (nwI_neg (by unfold nwt; omega)).mp z
    exact ⟨bz0, h0 (fun c => c.1 e)⟩
  · have e : nwt X s t ≠ 0 := fun g => z ((nwI_neg (by unfold nwt; omega)).mpr g)
    have hi := nwt_i hB e
    rw [nwI_some e]
    refine sm_lengthOf hR hB hs hD.1 hi.1 ?_
    have hl : ln X s (nwt X s t - 1) < 16 := by unfold ln; split <;> omega
    refine pk_le (ln X s (nwt X s t - 1)) 0 (fun g => ⟨bz0, h0 (fun c => absurd c.2 (by omega))⟩) (fun g => ⟨bz1, h1 ⟨e, g⟩⟩) rfl rfl
theorem sm_valued {s : Nat} (hR : RT μ X s) (hB : XB N X) (hs : s < 6) (hD : RD X s σ μ) {Q : Int32 → Rg → Ar → Prop} (hQ : Q (nI (vdN X s 48)) σ μ) : wp_X6_valued σ μ (nI s) Q := by
  have key : ∀ d t, t + d = 48 → wl_X6_valued_4 Q (d + 1) σ μ (nI s) (nI (vdN X s t)) (nI t) := by
    intro d
    induction d with
    | zero =>
      intro t ht
      have e : t = 48 := by omega
      subst e
      exact ⟨fun _ => hQ, fun z => absurd (by decide) z⟩
    | succ d ih =>
      intro t ht
      refine pk_le 48 t (fun z => absurd z (by omega)) (fun _ => ?_) rfl rfl
      refine sm_hasValue hR hB hs (by omega) hD (fun g => ⟨fun z => absurd z (by decide), fun _ y ey y2 ey2 => ?_⟩) (fun g => ⟨fun _ y ey => ?_, fun z => absurd rfl z⟩)
      · have e : vdN X s (t + 1) = vdN X s t + 1 := itp_pos g
        rw [ey, ey2, i_p1, i_p1, ← e]; exact ih (t + 1) (by omega)
      · have e : vdN X s (t + 1) = vdN X s t := itp_neg g
        rw [ey, i_p1, ← e]; exact ih (t + 1) (by omega)
  exact ⟨48 + 1, key 48 0 (by omega)⟩
theorem sm_sizeNext {s : Nat} (hR : RT μ X s) (hB : XB N X) (hs : s < 6) (hD : RD X s σ μ) {Q : Int32 → Rg → Ar → Prop} (hQ : Q (nI (szN X s 48)) σ μ) : wp_X6_sizeNext σ μ (nI s) Q := by
  have b1 := hB.2.2.2.1
  have he := nE_le (s := s) b1
  have key : ∀ d t, t + d = 48 → wl_X6_sizeNext_4 Q (d + 1) σ μ (nI s) (nI (szN X s t)) (nI t) := by
    intro d
    induction d with
    | zero =>
      intro t ht
      have e : t = 48 := by omega
      subst e
      exact ⟨fun _ => hQ, fun z => absurd (by decide) z⟩
    | succ d ih =>
      intro t ht
      refine pk_le 48 t (fun z => absurd z (by omega)) (fun _ => ?_) rfl rfl
      refine sm_hasValue hR hB hs (by omega) hD (fun g => ⟨fun z => absurd z (by decide), fun _ => ?_⟩) (fun g => ⟨fun _ y ey => ?_, fun z => absurd rfl z⟩)
      · have hi := nwt_i hB g.1
        have hin : vp_in (nI t) 48 := pk_in t 48 (by omega) rfl
        obtain ⟨p2, p3, p4⟩ := hD.1.2 _ hi.1
        have hkl := kd_le X s (ps X s (nwt X s t - 1))
        refine ⟨hin, ?_⟩
        rw [nI_clamp (by omega), hD.2.2.2.1 t (by omega), nwI_some g.1]
        refine ⟨pk_in _ 64 (by omega) rfl, ?_⟩
        rw [nI_clamp (by omega), p3]
        refine ⟨fun z => ⟨hin, ?_⟩, fun z => ?_⟩
        · have e : kd X s (ps X s (nwt X s t - 1)) ≠ 1 := fun g => z (by rw [g]; rfl)
          refine sm_lengthOf hR hB hs hD.1 hi.1 (fun y ey y2 ey2 => ?_)
          have e2 : szN X s (t + 1) = szN X s t + (3 + ln X s (nwt X s t - 1)) := by
            show itp _ _ _ = _
            rw [itp_pos g, if_neg e]
          rw [ey, ey2, i_p1, show (3 : Int32) = nI 3 from rfl, nI_add, nI_add, ← e2]
          exact ih (t + 1) (by omega)
        · have e := (nI_eq (b := 1) (by omega) (by omega)).mp z
          intro y ey y2 ey2
          have e2 : szN X s (t + 1) = szN X s t + 14 := by
            show itp _ _ _ = _
            rw [itp_pos g, if_pos e]
          rw [ey, ey2, i_p1, show (14 : Int32) = nI 14 from rfl, nI_add, ← e2]
          exact ih (t + 1) (by omega)
      · have e : szN X s (t + 1) = szN X s t := itp_neg g
        rw [ey, i_p1, ← e]; exact ih (t + 1) (by omega)
  exact ⟨48 + 1, key 48 0 (by omega)⟩
end ME
