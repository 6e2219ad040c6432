/-! theirs: what a READING tells -/
noncomputable def vzN (X : Nat → Nat) (s t : Nat) : Nat := itp (hv X s t) (sz X s (ps X s (nwt X s t - 1))) 0
section CE
variable {σ : Rg} {μ : Ar} {X : Nat → Nat} {N : Nat}
theorem hv_3 (hB : XB N X) {s t : Nat} (h : nwt X s t ≠ 0) : hv X s t ↔ 3 < sz X s (ps X s (nwt X s t - 1)) := by
  obtain ⟨hi, h3, _, _⟩ := nwt_i hB h
  have hen := ent hB hi
  unfold hv
  by_cases k1 : kd X s (ps X s (nwt X s t - 1)) = 1
  · have := hen.2.2.1 k1
    have el : ln X s (nwt X s t - 1) = 3 := by unfold ln; rw [if_pos k1]
    rw [el, this]
    exact ⟨fun _ => by omega, fun _ => ⟨h, by omega⟩⟩
  · have := (hen.2.2.2.2.1 (by omega)).1
    rw [this]
    exact ⟨fun g => by omega, fun g => ⟨h, by omega⟩⟩
theorem sc_newestOf {s : Nat} (hD : RDc X s σ μ) {t : Nat} (ht : t < 48) {Q : Int32 → Rg → Ar → Prop} (hQ : Q (nwI (nwt X s t)) σ μ) {x : Int32} (hx : x = nI t) : wp_X3_newestOf σ μ x Q := by
  subst hx
  refine ⟨fun z => absurd z (nI_pos (by omega)), fun _ => pk_le 48 t (fun z => absurd z (by omega)) (fun _ => ⟨pk_in t 48 ht rfl, ?_⟩) rfl rfl⟩
  rw [nI_clamp (by omega), hD.2.2.2.2.1 t ht]; exact hQ
theorem tn_m1 : tn (nwI 0) = 4294967295 := by decide
/-- a case on the newest -/
theorem sc_hasN {s : Nat} (hB : XB N X) (hD : RDc X s σ μ) {t : Nat} {Q : Int32 → Rg → Ar → Prop} (h1 : nwt X s t ≠ 0 → Q 1 σ μ) (h0 : nwt X s t = 0 → Q 0 σ μ) : wp_X3_has σ μ (nwI (nwt X s t)) Q := by
  have hE := nE_le (X := X) (s := s) hB.2.2.2.1
  have hle : nwt X s t ≤ nE X s := nwN_le X s (nE X s) t
  by_cases h : nwt X s t = 0
  · refine sc_has hD.2.1.1 (by omega) (fun g => absurd g ?_) (fun _ => h0 h)
    rw [h, tn_m1]; omega
  · refine sc_has hD.2.1.1 (by omega) (fun _ => h1 h) (fun g => absurd ?_ g)
    rw [nwI_some h, tn_nI (by omega)]; omega
theorem sc_valuedSize {s : Nat} (hB : XB N X) (hD : RDc X s σ μ) {t : Nat} (ht : t < 48) {Q : Int32 → Rg → Ar → Prop} (hQ : Q (nI (vzN X s t)) σ μ) {x : Int32} (hx : x = nI t) : wp_X3_valuedSize σ μ x Q := by
  have hE := nE_le (X := X) (s := s) hB.2.2.2.1
  refine sc_newestOf hD ht (sc_hasN hB hD (fun h => ⟨fun z => absurd z (by decide), fun _ => ?_⟩) (fun h => ⟨fun _ => ?_, fun z => absurd rfl z⟩)) hx
  · obtain ⟨hi, _⟩ := nwt_i hB h
    have hsl := sz_le X s (ps X s (nwt X s t - 1))
    rw [nwI_some h]
    have vin : vp_in (nI (nwt X s t - 1)) 41 := pk_in _ 41 (by omega) rfl
    refine ⟨vin, ?_⟩
    rw [nI_clamp (by omega), (hD.2.1.2 _ hi).2.2.2]
    unfold vzN at hQ
    refine pk_le (sz X s (ps X s (nwt X s t - 1))) 3 (fun z => ?_) (fun z => ⟨vin, ?_⟩) rfl rfl
    · rw [itp_neg (fun c => by have := (hv_3 hB h).mp c; omega)] at hQ; exact hQ
    · rw [itp_pos ((hv_3 hB h).mpr z)] at hQ; exact hQ
  · unfold vzN at hQ; rw [itp_neg (fun c => c.1 h)] at hQ; exact hQ
theorem vz_hv (hB : XB N X) {s t : Nat} : (0 < vzN X s t ↔ hv X s t) := by
  unfold vzN
  by_cases h : hv X s t
  · rw [itp_pos h]
    have := sz_ge X s (ps X s (nwt X s t - 1))
    exact ⟨fun _ => h, fun _ => by omega⟩
  · rw [itp_neg h]; exact ⟨fun z => absurd z (by omega), fun z => absurd z h⟩
theorem vzN_le (X : Nat → Nat) (s t : Nat) : vzN X s t ≤ 18 := by
  unfold vzN itp
  split
  · exact sz_le _ _ _
  · omega
theorem sc_hasValue {s : Nat} (hB : XB N X) (hD : RDc X s σ μ) {t : Nat} (ht : t < 48) {Q : Int32 → Rg → Ar → Prop} (h1 : hv X s t → Q 1 σ μ) (h0 : ¬ hv X s t → Q 0 σ μ) {x : Int32} (hx : x = nI t) : wp_X3_hasValue σ μ x Q := by
  have hl := vzN_le X s t
  refine sc_valuedSize hB hD ht (pk_le (vzN X s t) 0 (fun z => ⟨bz0, h0 (fun c => by have := (vz_hv hB).mpr c; omega)⟩) (fun z => ⟨bz1, h1 ((vz_hv hB).mp z)⟩) rfl rfl) hx
theorem szN_vz (hB : XB N X) (s t : Nat) : szN X s (t + 1) = szN X s t + vzN X s t := by
  unfold vzN
  by_cases h : hv X s t
  · rw [szN_hv h, itp_pos h, hv_sz hB h]
  · rw [szN_no h, itp_neg h]; rfl
theorem sc_valuedBytes {s : Nat} (hB : XB N X) (hD : RDc X s σ μ) {Q : Int32 → Rg → Ar → Prop} (hQ : Q (nI (szN X s 48 - 4)) σ μ) : wp_X3_valuedBytes σ μ Q := by
  have key : ∀ d t, t + d = 48 → wl_X3_valuedBytes_4 Q (d + 1) σ μ (nI (szN X s t - 4)) (nI t) := by
    intro d
    induction d with
    | zero =>
      intro t ht
      have e : t = 48 := by omega
      subst e
      exact pk_le 48 48 (fun _ => hQ) (fun z => absurd z (by omega)) rfl rfl
    | succ d ih =>
      intro t ht
      have hge := szN_ge X s t
      refine pk_le 48 t (fun z => absurd z (by omega)) (fun _ => sc_valuedSize hB hD (by omega) (fun y ey y2 ey2 => ?_) rfl) rfl rfl
      rw [nI_add] at ey
      rw [ey, ey2, i_p1]
      have := ih (t + 1) (by omega)
      rw [szN_vz hB, show szN X s t + vzN X s t - 4 = szN X s t - 4 + vzN X s t by omega] at this
      exact this
  exact ⟨49, key 48 0 (by omega)⟩
theorem sc_freeBehind {s : Nat} (hB : XB N X) (hD : RDc X s σ μ) {Q : Int32 → Rg → Ar → Prop} (hQ : Q (nI (X 1 - szN X s 48)) σ μ) : wp_X3_freeBehindHandover σ μ Q := by
  have hge := szN_ge X s 48
  have hle := szN_le hB s 48
  have b1 := hB.2.2.1
  refine sc_valuedBytes hB hD ?_
  rw [hD.1.1, show (4 : Int32) = nI 4 from rfl, pk_sub (by omega), pk_sub (by omega), show X 1 - 4 - (szN X s 48 - 4) = X 1 - szN X s 48 by omega]
  exact hQ
theorem i_mul256 (a b : Nat) (hb : b < 2 ^ 31) : (lN a * (256 : Int64)) + (nI b).toInt64 = lN (a * 256 + b) := by
  rw [nI_l hb]
  show Int64.ofNat a * Int64.ofNat 256 + Int64.ofNat b = Int64.ofNat (a * 256 + b)
  rw [Int64.ofNat_add, Int64.ofNat_mul]
theorem i_addL (a b : Nat) (hb : b < 2 ^ 31) : lN a + (nI b).toInt64 = lN (a + b) := by
  rw [nI_l hb]
  show Int64.ofNat a + Int64.ofNat b = Int64.ofNat (a + b)
  rw [Int64.ofNat_add]
theorem sc_numberAt {s p n : Nat} (hR : RRw X s σ μ) (hB : XB N X) (hs : s < 6) (h : p + n ≤ X 1) {Q : Int64 → Rg → Ar → Prop} (hQ : Q (lN (nm X s p n)) σ μ) {x y : Int32} (hx : x = nI p) (hy : y = nI n) : wp_X3_numberAt σ μ x y Q := by
  subst hx hy
  have b1 := hB.2.2.2.1
  have key : ∀ d j, j + d = n → wl_X3_numberAt_5 Q (d + 1) σ μ (nI p) (nI n) (lN (nm X s p j)) (nI j) := by
    intro d
    induction d with
    | zero =>
      intro j hj
      have e : j = n := by omega
      subst e
      exact pk_le j j (fun _ => hQ) (fun z => absurd z (by omega)) rfl rfl
    | succ d ih =>
      intro j hj
      have hb := hB.b (s := s) (p := p + j) hs (by omega)
      refine pk_le n j (fun z => absurd z (by omega)) (fun _ => sc_byteAt hR b1 (p := p + j) (by omega) (fun y ey y2 ey2 => ?_) (by rw [nI_add])) rfl rfl
      rw [i_mul256 _ _ (by omega)] at ey
      rw [ey, ey2, i_p1]
      exact ih (j + 1) (by omega)
  exact ⟨n + 1, key n 0 (by omega)⟩
theorem sc_clearedBits {s p : Nat} (hR : RRw X s σ μ) (hB : XB N X) (hs : s < 6) (h : p + 8 ≤ X 1) {Q : Int32 → Rg → Ar → Prop} (hQ : Q (nI (zr X s p 8)) σ μ) {x : Int32} (hx : x = nI p) : wp_X3_clearedBits σ μ x Q := by
  subst hx
  have b1 := hB.2.2.2.1
  have key : ∀ d j, j + d = 8 → wl_X3_clearedBits_4 Q (d + 1) σ μ (nI p) (nI (zr X s p j)) (nI j) := by
    intro d
    induction d with
    | zero =>
      intro j hj
      have e : j = 8 := by omega
      subst e
      exact pk_le 8 8 (fun _ => hQ) (fun z => absurd z (by omega)) rfl rfl
    | succ d ih =>
      intro j hj
      have hb := hB.b (s := s) (p := p + j) hs (by omega)
      have hp := pc8_le (bt X s (p + j))
      refine pk_le 8 j (fun z => absurd z (by omega)) (fun _ => sc_byteAt hR b1 (p := p + j) (by omega) (bitc _ (by omega) _ (fun y ey y2 ey2 => ?_)) (by rw [nI_add])) rfl rfl
      rw [show (8 : Int32) = nI 8 from rfl, pk_sub (by omega), nI_add] at ey
      rw [ey, ey2, i_p1]
      exact ih (j + 1) (by omega)
  exact ⟨9, key 8 0 (by omega)⟩
theorem sc_valueOf {s i : Nat} (hB : XB N X) (hs : s < 6) (hD : RDc X s σ μ) (hi : i < nE X s) (h3 : kd X s (ps X s i) ≠ 3) {Q : Int64 → Rg → Ar → Prop} (hQ : Q (vlL X s i) σ μ) {x : Int32} (hx : x = nI i) : wp_X3_valueOf σ μ x Q := by
  subst hx
  have b1 := hB.2.2.2.1
  have hE := nE_le (X := X) (s := s) b1
  obtain ⟨p1, p2, p3, p4⟩ := hD.2.1.2 i hi
  have hen := ent hB hi
  have hkl := hen.2.1
  have hsl := sz_le X s (ps X s i)
  have vin : vp_in (nI i) 41 := pk_in i 41 (by omega) rfl
  refine sc_has hD.2.1.1 (by omega) (fun _ => ⟨fun z => absurd z (by decide), fun _ => ⟨vin, ?_⟩⟩) (fun g => absurd (by rw [tn_nI (by omega)]; exact hi) g)
  rw [nI_clamp (by omega), p4, p2, p1]
  unfold vlL at hQ
  refine And.comm.mp (pk_eq (sz X s (ps X s i)) 3 (fun z => ?_) (fun z => ⟨vin, ?_⟩) rfl rfl)
  · have k1 : kd X s (ps X s i) ≠ 1 := fun c => by have := hen.2.2.1 c; omega
    have := (hen.2.2.2.2.1 (by omega)).1
    rw [if_pos (by omega)] at hQ; exact hQ
  · refine And.comm.mp (pk_eq (kd X s (ps X s i)) 1 (fun k1 => ⟨vin, ?_⟩) (fun k1 => ⟨vin, vin, ?_⟩) rfl rfl)
    · have h14 := hen.2.2.1 k1
      have el : ln X s i = 3 := by unfold ln; rw [if_pos k1]
      rw [if_neg (by omega)] at hQ
      unfold vlN at hQ
      rw [if_pos k1] at hQ
      refine sc_numberAt hD.1 hB hs (p := ps X s i + 2) (n := 3) (by omega) ⟨vin, ?_⟩ (by rw [show (2 : Int32) = nI 2 from rfl, nI_add]) rfl
      rw [p1]
      have hz := zr_le X s (ps X s i + 6) 8
      refine sc_clearedBits hD.1 hB hs (p := ps X s i + 6) (by omega) ?_ (by rw [show (6 : Int32) = nI 6 from rfl, nI_add])
      rw [i_addL _ _ (by omega)]; exact hQ
    · have hl := hen.2.2.2.2.1 (by omega)
      rw [if_neg (by omega)] at hQ
      unfold vlN at hQ
      rw [if_neg k1] at hQ
      refine sc_numberAt hD.1 hB hs (p := ps X s i + 2) (n := ln X s i) (by omega) hQ (by rw [show (2 : Int32) = nI 2 from rfl, nI_add]) ?_
      rw [show (3 : Int32) = nI 3 from rfl, pk_sub (by omega), show sz X s (ps X s i) - 3 = ln X s i by omega]
theorem sc_newestLength {s : Nat} (hB : XB N X) (hD : RDc X s σ μ) {t : Nat} (ht : t < 48) {Q : Int32 → Rg → Ar → Prop} (hQ : Q (if nwt X s t = 0 then 0 else nI (ln X s (nwt X s t - 1))) σ μ) {x : Int32} (hx : x = nI t) : wp_X3_newestLength σ μ x Q := by
  have b1 := hB.2.2.2.1
  have hE := nE_le (X := X) (s := s) b1
  refine sc_newestOf hD ht (sc_hasN hB hD (fun h => ⟨fun _ => ?_, fun z => absurd z (by decide)⟩) (fun h => ⟨fun z => absurd rfl z, fun _ => ?_⟩)) hx
  · obtain ⟨hi, h3, _⟩ := nwt_i hB h
    obtain ⟨p1, p2, p3, p4⟩ := hD.2.1.2 _ hi
    have hen := ent hB hi
    have hkl := hen.2.1
    rw [nwI_some h]
    have vin : vp_in (nI (nwt X s t - 1)) 41 := pk_in _ 41 (by omega) rfl
    refine ⟨vin, ?_⟩
    rw [nI_clamp (by omega), p2, p4]
    rw [if_neg h] at hQ
    refine And.comm.mp (pk_eq (kd X s (ps X s (nwt X s t - 1))) 1 (fun k1 => ?_) (fun k1 => ⟨vin, ?_⟩) rfl rfl)
    · have el : ln X s (nwt X s t - 1) = 3 := by unfold ln; rw [if_pos k1]
      rw [el] at hQ; exact hQ
    · have hl := hen.2.2.2.2.1 (by omega)
      rw [show (3 : Int32) = nI 3 from rfl, pk_sub (by omega), show sz X s (ps X s (nwt X s t - 1)) - 3 = ln X s (nwt X s t - 1) by omega]
      exact hQ
  · rw [if_pos h] at hQ; exact hQ
theorem sc_newestValue {s : Nat} (hB : XB N X) (hs : s < 6) (hD : RDc X s σ μ) {t : Nat} (ht : t < 48) {Q : Int64 → Rg → Ar → Prop} (hQ : Q (if nwt X s t = 0 then -4 else vlL X s (nwt X s t - 1)) σ μ) {x : Int32} (hx : x = nI t) : wp_X3_newestValue σ μ x Q := by
  have b1 := hB.2.2.2.1
  have hE := nE_le (X := X) (s := s) b1
  refine sc_newestOf hD ht ?_ hx
  by_cases h : nwt X s t = 0
  · rw [if_pos h] at hQ
    refine sc_hasN hB hD (fun c => absurd h c) (fun _ => ⟨fun _ => hQ, fun z => absurd rfl z⟩)
  · rw [if_neg h] at hQ
    obtain ⟨hi, h3, _⟩ := nwt_i hB h
    exact sc_valueOf hB hs hD hi h3 hQ (nwI_some h)
/-- where a counter has a bit left: 1 + the place; 0: nowhere -/
noncomputable def usN (X : Nat → Nat) (s t : Nat) : Nat := itp (nwt X s t ≠ 0 ∧ kd X s (ps X s (nwt X s t - 1)) = 1 ∧ fzN X s (ps X s (nwt X s t - 1) + 6) 8 ≠ 0) (ps X s (nwt X s t - 1) + 6 + (fzN X s (ps X s (nwt X s t - 1) + 6) 8 - 1) + 1) 0
theorem sc_unspentPlace {s : Nat} (hB : XB N X) (hs : s < 6) (hD : RDc X s σ μ) {t : Nat} (ht : t < 48) {Q : Int32 → Rg → Ar → Prop} (hQ : Q (nwI (usN X s t)) σ μ) {x : Int32} (hx : x = nI t) : wp_X3_unspentPlace σ μ x Q := by
  have b1 := hB.2.2.2.1
  have hE := nE_le (X := X) (s := s) b1
  have no : ¬ (nwt X s t ≠ 0 ∧ kd X s (ps X s (nwt X s t - 1)) = 1 ∧ fzN X s (ps X s (nwt X s t - 1) + 6) 8 ≠ 0) → Q (-1) σ μ := fun g => by
    unfold usN at hQ; rw [itp_neg g] at hQ; exact hQ
  refine sc_newestOf hD ht (sc_hasN hB hD (fun h => ⟨fun z => absurd z (by decide), fun _ => ?_⟩) (fun h => ⟨fun _ => no (fun c => c.1 h), fun z => absurd rfl z⟩)) hx
  obtain ⟨hi, h3, _⟩ := nwt_i hB h
  obtain ⟨p1, p2, p3, p4⟩ := hD.2.1.2 _ hi
  have hen := ent hB hi
  have hkl := hen.2.1
  rw [nwI_some h]
  have vin : vp_in (nI (nwt X s t - 1)) 41 := pk_in _ 41 (by omega) rfl
  refine ⟨vin, ?_⟩
  have ec : (nI (nwt X s t - 1)).toNatClampNeg = nwt X s t - 1 := nI_clamp (by omega)
  rw [ec, p2]
  refine pk_eq (kd X s (ps X s (nwt X s t - 1))) 1 (fun k1 => ⟨9, ?_⟩) (fun k1 => no (fun c => k1 c.2.1)) rfl rfl
  have h14 := hen.2.2.1 k1
  have key : ∀ d j, j + d = 8 → fzN X s (ps X s (nwt X s t - 1) + 6) j = 0 → wl_X3_unspentPlace_29 Q (d + 1) σ μ (nI (nwt X s t - 1)) (nI (6 + j)) := by
    intro d
    induction d with
    | zero =>
      intro j hj hz
      have e : j = 8 := by omega
      subst e
      exact pk_le 14 14 (fun _ => no (fun c => c.2.2 hz)) (fun z => absurd z (by omega)) rfl rfl
    | succ d ih =>
      intro j hj hz
      have hb := hB.b (s := s) (p := ps X s (nwt X s t - 1) + (6 + j)) hs (by omega)
      have e1 : fzN X s (ps X s (nwt X s t - 1) + 6) (j + 1) = if bt X s (ps X s (nwt X s t - 1) + 6 + j) ≠ 0 then j + 1 else 0 := by
        show (if fzN X s (ps X s (nwt X s t - 1) + 6) j ≠ 0 then _ else _) = _
        rw [if_neg (by omega)]
      rw [Nat.add_assoc] at e1
      refine pk_le 14 (6 + j) (fun z => absurd z (by omega)) (fun _ => ⟨vin, ?_⟩) rfl rfl
      rw [ec, p1]
      refine sc_byteAt hD.1 b1 (p := ps X s (nwt X s t - 1) + (6 + j)) (by omega) ?_ (by rw [nI_add])
      refine pk_eq (bt X s (ps X s (nwt X s t - 1) + (6 + j))) 0 (fun z y ey => ?_) (fun z => ⟨vin, ?_⟩) rfl rfl
      · rw [ey, i_p1, Nat.add_assoc]
        exact ih (j + 1) (by omega) (by rw [e1, if_neg (by omega)])
      · rw [if_pos z] at e1
        have stay : ∀ e, fzN X s (ps X s (nwt X s t - 1) + 6) (j + 1 + e) = j + 1 := by
          intro e
          induction e with
          | zero => exact e1
          | succ e ihe =>
            show (if fzN X s (ps X s (nwt X s t - 1) + 6) (j + 1 + e) ≠ 0 then fzN X s (ps X s (nwt X s t - 1) + 6) (j + 1 + e) else _) = _
            rw [ihe, if_pos (by omega)]
        have e8 : fzN X s (ps X s (nwt X s t - 1) + 6) 8 = j + 1 := by have := stay d; rw [show j + 1 + d = 8 by omega] at this; exact this
        have eu : usN X s t = ps X s (nwt X s t - 1) + (6 + j) + 1 := by
          unfold usN; rw [itp_pos ⟨h, k1, by omega⟩, e8]; omega
        rw [eu, nwI_some (by omega), Nat.add_sub_cancel] at hQ
        rw [p1, nI_add]; exact hQ
  exact key 8 0 (by omega) rfl
theorem sc_valuedTags {s : Nat} (hB : XB N X) (hD : RDc X s σ μ) {Q : Int64 → Rg → Ar → Prop} (hQ : Q (tgN X s 48) σ μ) : wp_X3_valuedTags σ μ Q := by
  have key : ∀ d t, t + d = 48 → wl_X3_valuedTags_4 Q (d + 1) σ μ (tgN X s t) (nI t) := by
    intro d
    induction d with
    | zero =>
      intro t ht
      have e : t = 48 := by omega
      subst e
      exact pk_le 48 48 (fun _ => hQ) (fun z => absurd z (by omega)) rfl rfl
    | succ d ih =>
      intro t ht
      refine pk_le 48 t (fun z => absurd z (by omega)) (fun _ => ?_) rfl rfl
      refine sc_hasValue hB hD (by omega) (fun g => ⟨fun z => absurd z (by decide), fun _ y ey y2 ey2 => ?_⟩) (fun g => ⟨fun _ y ey y2 ey2 => ?_, fun z => absurd rfl z⟩) rfl
      · rw [ey, ey2, i_p1]
        have := ih (t + 1) (by omega)
        rw [show tgN X s (t + 1) = (tgN X s t ||| ((1 : Int64) <<< ((nI t).toInt64 &&& 63))) from by show itp _ _ _ = _; rw [itp_pos g]] at this
        exact this
      · rw [ey, ey2, i_p1]
        have := ih (t + 1) (by omega)
        rw [show tgN X s (t + 1) = tgN X s t from by show itp _ _ _ = _; rw [itp_neg g]] at this
        rw [show tgN X s t ||| (0 : Int64) = tgN X s t from Int64.or_zero]
        exact this
  exact ⟨49, key 48 0 (by omega)⟩
end CE
