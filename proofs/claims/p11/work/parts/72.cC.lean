/-! theirs: READING, entry by entry -/
def btE (X : Nat → Nat) (s p : Nat) : Nat := if p < X 1 then bt X s p else 255
/-- the row that is read is sector s -/
def RRw (X : Nat → Nat) (s : Nat) (σ : Rg) (μ : Ar) : Prop := σ 11 = nI (X 1) ∧ ∀ p, p < X 1 → μ 2 p = nI (bt X s p)
/-- e entries are read -/
def PC (X : Nat → Nat) (s e : Nat) (σ : Rg) (μ : Ar) : Prop := σ 12 = nI e ∧ ∀ i, i < e → μ 3 i = nI (ps X s i) ∧ μ 4 i = nI (kd X s (ps X s i)) ∧ μ 5 i = nI (bt X s (ps X s i)) ∧ μ 6 i = nI (sz X s (ps X s i))
def MK (X : Nat → Nat) (s e j : Nat) (μ : Ar) : Prop := ∀ i, i < e → μ 7 i = nI (st1 X s j i)
def FCs (σ σ' : Rg) : Prop := ∀ k, k ≠ 11 → k ≠ 12 → k ≠ 13 → k ≠ 14 → σ' k = σ k
def FCm (μ μ' : Ar) : Prop := ∀ k, k < 2 ∨ 9 ≤ k → μ' k = μ k
section CC
variable {σ : Rg} {μ : Ar} {X : Nat → Nat} {N : Nat}
theorem sc_byteAtE {s p : Nat} (hR : RRw X s σ μ) (b1 : X 1 ≤ 128) (hp : p < 2 ^ 31) {Q : Int32 → Rg → Ar → Prop} (hQ : Q (nI (btE X s p)) σ μ) {x : Int32} (hx : x = nI p) : wp_X3_byteAt σ μ x Q := by
  subst hx
  unfold btE at hQ
  refine ⟨fun z => absurd z (nI_pos hp), fun _ => pk_le (X 1) p (fun g => ?_) (fun g => ?_) hR.1 rfl⟩
  · rw [if_neg (by omega)] at hQ; exact hQ
  · rw [if_pos g] at hQ
    refine pk_le 128 p (fun z => absurd z (by omega)) (fun _ => ⟨pk_in p 128 (by omega) rfl, ?_⟩) rfl rfl
    rw [nI_clamp hp, hR.2 p g]; exact hQ
theorem sc_byteAt {s p : Nat} (hR : RRw X s σ μ) (b1 : X 1 ≤ 128) (hp : p < X 1) {Q : Int32 → Rg → Ar → Prop} (hQ : Q (nI (bt X s p)) σ μ) {x : Int32} (hx : x = nI p) : wp_X3_byteAt σ μ x Q := sc_byteAtE hR b1 (by omega) (by unfold btE; rw [if_pos hp]; exact hQ) hx
theorem kd_btE (X : Nat → Nat) (s p : Nat) : kdf (bt X s p) (btE X s (p + 1)) = kd X s p := by
  unfold kd btE
  split
  · rfl
  · unfold kdf
    rw [if_neg (by omega), if_neg (by omega), if_neg (by omega), if_neg (by omega)]
theorem sc_kindOf {a b : Nat} (ha : a ≤ 255) (hb : b ≤ 255) {Q : Int32 → Prop} (hQ : Q (kI (kdf a b))) : wp_X3_kindOf (nI a) (nI b) Q := by
  have c33 : ¬ (32 ≤ a ∧ a ≤ 47 ∧ b = 43) → ¬ (a = 63 ∧ b = 65) → wb_X3_kindOf_33 Q (nI a) (nI b) := by
    intro n1 n2
    refine sc_win (lo := 0) (hi := 31) (by omega) (by omega) rfl rfl (fun _ g => ⟨fun _ => ?_, fun z => absurd z (by decide)⟩) (fun g => ⟨fun z => absurd rfl z, fun _ => ?_⟩)
    · rw [tn_nI (by omega)] at g
      refine sc_win (lo := 16) (hi := 20) (by omega) (by omega) rfl rfl (fun g1 g2 => ⟨fun z => absurd z (by decide), fun _ => ?_⟩) (fun g1 => ⟨fun _ => ?_, fun z => absurd rfl z⟩)
      · rw [tn_nI (by omega)] at g1 g2
        have : kdf a b = 0 := by unfold kdf; rw [if_pos (by omega)]
        rw [this] at hQ; exact hQ
      · rw [tn_nI (by omega)] at g1
        refine sc_win (lo := 48) (hi := 52) (by omega) (by omega) rfl rfl (fun g3 g4 => ⟨fun z => absurd z (by decide), fun _ => ?_⟩) (fun g3 => ⟨fun _ => ?_, fun z => absurd rfl z⟩)
        · rw [tn_nI (by omega)] at g3 g4
          have : kdf a b = 2 := by unfold kdf; rw [if_neg (by omega), if_pos (by omega)]
          rw [this] at hQ; exact hQ
        · rw [tn_nI (by omega)] at g3
          have : kdf a b = 4 := by unfold kdf; rw [if_neg (by omega), if_neg (by omega), if_neg (by omega), if_neg (by omega)]
          rw [this] at hQ; exact hQ
    · rw [tn_nI (by omega)] at g
      have : kdf a b = 4 := by unfold kdf; rw [if_neg (by omega), if_neg (by omega), if_neg (by omega), if_neg (by omega)]
      rw [this] at hQ; exact hQ
  have c14 : ¬ (a = 63 ∧ b = 65) → wb_X3_kindOf_14 Q (nI a) (nI b) := by
    intro n2
    refine sc_win (lo := 32) (hi := 47) (by omega) (by omega) rfl rfl (fun g1 g2 => ⟨fun z => absurd z (by decide), fun _ => ?_⟩) (fun g => ⟨fun _ => c33 (by rw [tn_nI (by omega)] at g; omega) n2, fun z => absurd rfl z⟩)
    rw [tn_nI (by omega)] at g1 g2
    refine And.comm.mp (pk_eq b 43 (fun z => ?_) (fun z => c33 (by omega) n2) rfl rfl)
    have : kdf a b = 1 := by unfold kdf; rw [if_neg (by omega), if_neg (by omega), if_pos ⟨g1, g2, z⟩]
    rw [this] at hQ; exact hQ
  refine And.comm.mp (pk_eq a 63 (fun z => ?_) (fun z => c14 (by omega)) rfl rfl)
  refine And.comm.mp (pk_eq b 65 (fun z2 => ?_) (fun z2 => c14 (by omega)) rfl rfl)
  have : kdf a b = 3 := by unfold kdf; rw [if_neg (by omega), if_neg (by omega), if_neg (by omega), if_pos ⟨z, z2⟩]
  rw [this] at hQ; exact hQ
theorem kdf_0 {a b : Nat} (h : kdf a b = 0) : 16 ≤ b ∧ b ≤ 20 := by
  unfold kdf at h
  (repeat' split at h) <;> omega
theorem kdf_2 {a b : Nat} (h : kdf a b = 2) : 48 ≤ b ∧ b ≤ 52 := by
  unfold kdf at h
  (repeat' split at h) <;> omega
theorem sc_sizeOf {a b : Nat} (hb : b ≤ 255) {Q : Int32 → Prop} (hQ : ∀ m : Int32, (kdf a b ≠ 4 → m = nI (szf (kdf a b) b)) → Q m) : wp_X3_sizeOf (kI (kdf a b)) (nI b) Q := by
  have hk := kdf_le a b
  have cases5 : kdf a b = 0 ∨ kdf a b = 1 ∨ kdf a b = 2 ∨ kdf a b = 3 ∨ kdf a b = 4 := by omega
  rcases cases5 with h | h | h | h | h
  · have := kdf_0 h
    rw [h] at hQ ⊢
    refine ⟨fun z => absurd z (by decide), fun _ => hQ _ (fun _ => ?_), fun z => absurd z (by decide), fun z => absurd z (by decide)⟩
    rw [show (3 : Int32) = nI 3 from rfl, nI_add, show (16 : Int32) = nI 16 from rfl, pk_sub (by omega)]
    unfold szf; rw [if_neg (by omega), if_neg (by omega), show 3 + b - 16 = 3 + b % 16 by omega]
  · rw [h] at hQ ⊢
    refine ⟨fun z => absurd z (by decide), fun z => absurd z (by decide), fun _ => hQ _ (fun _ => ?_), fun z => absurd z (by decide)⟩
    unfold szf; rw [if_pos rfl]; rfl
  · have := kdf_2 h
    rw [h] at hQ ⊢
    refine ⟨fun z => absurd z (by decide), fun z => absurd z (by decide), fun z => absurd z (by decide), fun _ => hQ _ (fun _ => ?_)⟩
    rw [show (3 : Int32) = nI 3 from rfl, nI_add, show (48 : Int32) = nI 48 from rfl, pk_sub (by omega)]
    unfold szf; rw [if_neg (by omega), if_neg (by omega), show 3 + b - 48 = 3 + b % 16 by omega]
  · rw [h] at hQ ⊢
    refine ⟨fun _ => hQ _ (fun _ => ?_), fun z => absurd z (by decide), fun z => absurd z (by decide), fun z => absurd z (by decide)⟩
    unfold szf; rw [if_neg (by omega), if_pos rfl]; rfl
  · rw [h] at hQ ⊢
    exact ⟨fun _ => hQ _ (fun c => absurd rfl c), fun z => absurd z (by decide), fun z => absurd z (by decide), fun z => absurd z (by decide)⟩
theorem sc_firstMark {s p : Nat} (hR : RRw X s σ μ) (hB : XB N X) (hs : s < 6) (hk : kd X s p ≠ 4) (hp : p + sz X s p ≤ X 1) {Q : Int32 → Rg → Ar → Prop} (hQ : Q (nI (st0 X s p)) σ μ) : wp_X3_firstMark σ μ (nI (kd X s p)) (nI p) (nI (sz X s p)) Q := by
  have b1 := hB.2.2.2.1
  have hkl := kd_le X s p
  have hge := sz_ge X s p
  have hk1 := kd_ok hk
  have hsr := szf_r (a := bt X s p) (b := bt X s (p + 1)) (by rw [← hk1.2]; exact hk)
  have esz : sz X s p = szf (kdf (bt X s p) (bt X s (p + 1))) (bt X s (p + 1)) := by unfold sz; rw [hk1.2]
  rw [← esz, ← hk1.2] at hsr
  have hck : ckn X s p + 1 ≤ sz X s p := by
    unfold ckn; split
    · rename_i q; have := hsr.2.1 q; omega
    · omega
  have c11 : ∀ t0 : Int32, t0 = nI (ckn X s p + 1) → wb_X3_firstMark_11 Q σ μ (nI (kd X s p)) (nI p) t0 := by
    intro t0 e0 y ey
    rw [e0, nI_pred] at ey
    rw [ey]
    have key : ∀ d j, j + d = ckn X s p → wl_X3_firstMark_21 Q (d + 1) σ μ (nI (kd X s p)) (nI p) (nI (ckn X s p)) (nI (sm X s p j)) (nI j) := by
      intro d
      induction d with
      | zero =>
        intro j hj
        have e : j = ckn X s p := by omega
        subst e
        have hsl := sm_le (n := ckn X s p) (p := p) hB hs (by omega)
        have hbb := hB.b (s := s) (p := p + ckn X s p) hs (by omega)
        refine pk_le (ckn X s p) (ckn X s p) (fun _ => ?_) (fun z => absurd z (by omega)) rfl rfl
        refine sc_byteAt hR b1 (p := p + ckn X s p) (by omega) (sc_check (by omega) ?_) (by rw [nI_add])
        refine pk_eq (bt X s (p + ckn X s p)) ((sm X s p (ckn X s p) + 85) % 251) (fun z => ?_) (fun z => ?_) rfl rfl
        · have nb : ¬ bad X s p := fun b => b z.symm
          have e3 : 2 ≤ kd X s p → st0 X s p = 3 := fun g => by unfold st0; rw [itp_neg nb, if_neg (by omega)]
          refine pk_eq (kd X s p) 2 (fun z2 => ?_) (fun z2 => ?_) rfl rfl
          · rw [e3 (by omega)] at hQ; exact hQ
          · refine And.comm.mp (pk_eq (kd X s p) 3 (fun z3 => ?_) (fun z3 => ?_) rfl rfl)
            · rw [e3 (by omega)] at hQ; exact hQ
            · have : st0 X s p = 1 := by unfold st0; rw [itp_neg nb, if_pos (by omega)]
              rw [this] at hQ; exact hQ
        · have : st0 X s p = 2 := by unfold st0; rw [itp_pos (show bad X s p from fun c => z c.symm)]
          rw [this] at hQ; exact hQ
      | succ d ih =>
        intro j hj
        refine pk_le (ckn X s p) j (fun z => absurd z (by omega)) (fun _ => ?_) rfl rfl
        refine sc_byteAt hR b1 (p := p + j) (by omega) (fun y ey y2 ey2 => ?_) (by rw [nI_add])
        rw [nI_add] at ey
        rw [ey, ey2, i_p1]
        exact ih (j + 1) (by omega)
    exact ⟨ckn X s p + 1, key (ckn X s p) 0 (by omega)⟩
  refine And.comm.mp (pk_eq (kd X s p) 1 (fun z => c11 6 ?_) (fun z => c11 _ ?_) rfl rfl)
  · unfold ckn; rw [if_pos z]; rfl
  · unfold ckn; rw [if_neg z, show sz X s p - 1 + 1 = sz X s p by omega]
theorem sc_has {e : Nat} (he : σ 12 = nI e) (hl : e ≤ 64) {x : Int32} {Q : Int32 → Rg → Ar → Prop} (h1 : tn x < e → Q 1 σ μ) (h0 : ¬ tn x < e → Q 0 σ μ) : wp_X3_has σ μ x Q := by
  refine ⟨fun z => ⟨bz0, h0 (by have := tn_neg z; omega)⟩, fun z => ?_⟩
  have := tn_pos z
  exact pk_le e (tn x) (fun g => ⟨bz0, h0 (by omega)⟩) (fun g => ⟨bz1, h1 g⟩) he (tn_e x)
theorem st1_self (X : Nat → Nat) (s e : Nat) : st1 X s e e = st0 X s (ps X s e) := by
  unfold st1 st0
  by_cases h : bad X s (ps X s e)
  · rw [itp_pos h, itp_pos h]
  · rw [itp_neg h, itp_neg h]
    by_cases h2 : kd X s (ps X s e) < 2
    · rw [if_pos h2, if_pos h2]
    · rw [if_neg h2, if_neg h2, itp_neg (fun ⟨k, hk, _, _, h3⟩ => absurd h3 (by omega)), itp_neg (fun z => absurd z.1 (by omega))]
      split <;> rfl
/-- what settleParts leaves alone -/
def F7 (μ μ' : Ar) : Prop := ∀ k, k ≠ 7 → μ' k = μ k
theorem PC.f7 {s e : Nat} {μ' : Ar} (h : PC X s e σ μ) (f : F7 μ μ') : PC X s e σ μ' := ⟨h.1, fun i hi => by rw [f 3 (by omega), f 4 (by omega), f 5 (by omega), f 6 (by omega)]; exact h.2 i hi⟩
theorem RRw.f7 {s : Nat} {μ' : Ar} (h : RRw X s σ μ) (f : F7 μ μ') : RRw X s σ μ' := ⟨h.1, fun p hp => by rw [f 2 (by omega)]; exact h.2 p hp⟩
theorem sc_settleParts {s e : Nat} (hR : RRw X s σ μ) (hB : XB N X) (hs : s < 6) (he : e ≤ 40) (hok : ∀ i, i < e + 1 → okE X s i) (hP : PC X s (e + 1) σ μ) (hM : MK X s (e + 1) e μ) (h3 : kd X s (ps X s e) = 3) {Q : Rg → Ar → Prop} (hQ : ∀ μ', F7 μ μ' → MK X s (e + 1) (e + 1) μ' → Q σ μ') {x : Int32} (hx : x = nI e) : wp_X3_settleParts σ μ x Q := by
  subst hx
  have b1 := hB.2.2.2.1
  have same : ¬ cn X s e → Q σ μ := fun g => hQ μ (fun _ _ => rfl) (fun i hi => by rw [st1_no g]; exact hM i hi)
  refine sc_has hP.1 (by omega) (fun _ => ⟨fun z => absurd z (by decide), fun _ => ⟨pk_in e 41 (by omega) rfl, ?_⟩⟩) (fun g => absurd (by rw [tn_nI (by omega)]; omega) g)
  rw [nI_clamp (by omega), hM e (by omega), (hP.2 e (by omega)).1]
  have hsl := st1_le X s e e
  refine And.comm.mp (pk_eq (st1 X s e e) 2 (fun z => same (fun c => c.2.1 (st1_bad.mp z))) (fun z => ⟨pk_in e 41 (by omega) rfl, ?_⟩) rfl rfl)
  have nbad : ¬ bad X s (ps X s e) := fun g => z (st1_bad.mpr g)
  have hoke := hok e (by omega)
  have hs4 : sz X s (ps X s e) = 4 := by unfold sz szf; rw [h3]; rfl
  have hdl := hB.b (s := s) (p := ps X s e + 2) hs (by have := hoke.2.2; omega)
  refine sc_byteAt hR b1 (p := ps X s e + 2) (by have := hoke.2.2; omega) ?_ (by rw [show (2 : Int32) = nI 2 from rfl, nI_add])
  change due X s e ≤ 255 at hdl
  show wp_X5_within (nI (due X s e)) 1 8 _
  refine sc_win (lo := 1) (hi := 8) (by omega) (by omega) rfl rfl (fun g1 g2 => ⟨fun z => absurd z (by decide), fun _ => ?_⟩) (fun g => ⟨fun _ => same (fun c => g ⟨by rw [tn_nI (by omega)]; exact c.2.2.1, by rw [tn_nI (by omega)]; exact c.2.2.2.1⟩), fun z => absurd rfl z⟩)
  rw [tn_nI (by omega)] at g1 g2
  refine pk_le (due X s e) e (fun g3 y ey => ?_) (fun g3 => same (fun c => absurd c.2.2.2.2.1 (by omega))) rfl rfl
  change y = nI e - nI (due X s e) at ey
  rw [pk_sub g3] at ey
  rw [ey]
  have ls : ∀ (hc : cn X s e), ∀ d j, j + d = e → e - due X s e ≤ j → ∀ μ1, F7 μ μ1 → (∀ i, i < e + 1 → μ1 7 i = nI (if e - due X s e ≤ i ∧ i < j then 1 else st1 X s e i)) → wl_X3_settleParts_88 Q (d + 1) σ μ1 (nI e) (nI j) := by
    intro hc d
    induction d with
    | zero =>
      intro j hj hd μ1 f1 m1
      have ej : j = e := by omega
      subst ej
      refine pk_le j j (fun _ => ⟨pk_in j 41 (by omega) rfl, fun μ2 e2 => ?_⟩) (fun z => absurd z (by omega)) rfl rfl
      rw [nI_clamp (by omega)] at e2
      refine hQ μ2 (fun q hq => by rw [e2, ua_n hq]; exact f1 q hq) (fun i hi => ?_)
      rw [e2, ua_s, st1_yes hc]
      by_cases g : i = j
      · rw [g, up_s, if_pos rfl]; rfl
      · rw [up_n g, if_neg g]; exact m1 i hi
    | succ d ih =>
      intro j hj hd μ1 f1 m1
      refine pk_le e j (fun z => absurd z (by omega)) (fun _ => ⟨pk_in j 41 (by omega) rfl, fun μ2 e2 y ey => ?_⟩) rfl rfl
      rw [nI_clamp (by omega)] at e2
      rw [ey, i_p1]
      refine ih (j + 1) (by omega) (by omega) μ2 (fun q hq => by rw [e2, ua_n hq]; exact f1 q hq) (fun i hi => ?_)
      rw [e2, ua_s]
      by_cases g : i = j
      · rw [g, up_s, if_pos (by omega)]; rfl
      · rw [up_n g, m1 i hi]
        by_cases g2 : e - due X s e ≤ i ∧ i < j
        · rw [if_pos g2, if_pos (by omega)]
        · rw [if_neg g2, if_neg (by omega)]
  have lf : ∀ d j, j + d = e → e - due X s e ≤ j → (∀ i, e - due X s e ≤ i → i < j → kd X s (ps X s i) = 2 ∧ ¬ bad X s (ps X s i)) → wl_X3_settleParts_52 Q (d + 1) σ μ (nI e) (nI (due X s e)) (nI j) := by
    intro d
    induction d with
    | zero =>
      intro j hj hd hi
      have ej : j = e := by omega
      rw [ej] at hi ⊢
      refine pk_le e e (fun _ y ey => ?_) (fun z => absurd z (by omega)) rfl rfl
      rw [pk_sub g3] at ey
      rw [ey]
      have hc : cn X s e := ⟨h3, nbad, g1, g2, g3, hi⟩
      exact ⟨due X s e + 1, ls hc (due X s e) (e - due X s e) (by omega) (Nat.le_refl _) μ (fun _ _ => rfl) (fun i hi => by rw [if_neg (by omega)]; exact hM i hi)⟩
    | succ d ih =>
      intro j hj hd hi
      obtain ⟨p1, p2, p3, p4⟩ := hP.2 j (by omega)
      have hkl := kd_le X s (ps X s j)
      have hsj := st1_le X s e j
      refine pk_le e j (fun z => absurd z (by omega)) (fun _ => ⟨pk_in j 41 (by omega) rfl, ?_⟩) rfl rfl
      rw [nI_clamp (by omega), p2, hM j (by omega)]
      refine And.comm.mp (pk_eq (kd X s (ps X s j)) 2 (fun z2 => ⟨pk_in j 41 (by omega) rfl, ?_⟩) (fun z2 => same (fun c => z2 (c.2.2.2.2.2 j hd (by omega)).1)) rfl rfl)
      refine And.comm.mp (pk_eq (st1 X s e j) 2 (fun z4 => same (fun c => (c.2.2.2.2.2 j hd (by omega)).2 (st1_bad.mp z4))) (fun z4 y ey => ?_) rfl rfl)
      rw [ey, i_p1]
      refine ih (j + 1) (by omega) (by omega) (fun i h1 h2 => ?_)
      by_cases g : i = j
      · rw [g]; exact ⟨z2, fun b => z4 (st1_bad.mpr b)⟩
      · exact hi i h1 (by omega)
  exact ⟨due X s e + 1, lf (due X s e) (e - due X s e) (by omega) (Nat.le_refl _) (fun i h1 h2 => absurd h2 (by omega))⟩
end CC
