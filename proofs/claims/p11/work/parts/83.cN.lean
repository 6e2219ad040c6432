/-! theirs: costs, torn -/
noncomputable def cwN (X : Nat → Nat) (s : Nat) : Nat → Nat
  | 0 => 0
  | t + 1 => cwN X s t + itp (hv X s t) (if t < 32 then vzN X s t else 6) 0
noncomputable def coD (X : Nat → Nat) : Nat := itp (blnk X (hon (X, false)) 0) 0 1 + 5 + cwN X (X 3) 48 + 1
noncomputable def coB (X : Nat → Nat) (m : Nat) : Int32 := if m ≤ X 1 - frE X (X 3) then nI m else if m ≤ X 1 - szN X (X 3) 48 then nI (coD X + m) else -2
noncomputable def ctB (X : Nat → Nat) (x : Int32) : Int32 := itp (X 2 = 1 ∧ X 10 = 0 ∧ 1 ≤ tn x ∧ tn x ≤ 4) (coB X (3 + tn x)) (-1)
def tcG (X : Nat → Nat) (x1 x3 x4 x5 x6 : Int32) : Prop := (X 2 = 1 ∧ X 10 = 0) ∧ (tn x1 ≤ 31 ∧ 1 ≤ tn x3 ∧ tn x3 ≤ 4) ∧ (¬ x4 < 1 ∧ ¬ coB X (3 + tn x3) < x4) ∧ tn x5 ≤ 255 ∧ tn x6 ≤ 3
noncomputable def tcY (X : Nat → Nat) (x1 x2 x3 x4 x5 : Int32) : Nat → Nat := (stZ (tnX X (tn x4) (tn x5)) (tn x1) (tn x3) x2.toInt64.toBitVec.toNat).1
noncomputable def tcB (Y : Nat → Nat) (t : Nat) (x6 : Int32) : Int64 := if x6 = 0 then vnA (onZ Y).1 t else if x6 = 1 then (nI ((onZ Y).1 1 - frE (onZ Y).1 ((onZ Y).1 3))).toInt64 else if x6 = 2 then (nI ((onZ Y).1 8)).toInt64 else (bcI (tgN (onZ Y).1 ((onZ Y).1 3) 48)).toInt64
section CN
variable {σ : Rg} {μ : Ar} {σb : Rg} {μb : Ar} {X : Nat → Nat} {N k : Nat}
theorem sc_within {x1 x2 x3 : Int32} {Q : Int32 → Prop} (h1 : ¬ x1 < x2 → ¬ x3 < x1 → Q 1) (h0 : (x1 < x2 ∨ x3 < x1) → Q 0) : wp_X5_within x1 x2 x3 Q := ⟨fun h => ⟨bz0, h0 (Or.inl h)⟩, fun h => ⟨fun h2 => ⟨bz0, h0 (Or.inr h2)⟩, fun h2 => ⟨bz1, h1 h h2⟩⟩⟩
theorem cwN_le (X : Nat → Nat) (s : Nat) : ∀ t, cwN X s t ≤ 18 * t
  | 0 => Nat.le_refl _
  | t + 1 => by
    have h1 := cwN_le X s t
    have h2 := vzN_le X s t
    show cwN X s t + itp _ _ _ ≤ _
    unfold itp
    (repeat' split) <;> omega
theorem coD_le (X : Nat → Nat) : coD X ≤ 900 := by
  have h1 := cwN_le X (X 3) 48
  unfold coD itp
  split <;> omega
theorem sc_copyWrites {s : Nat} (hB : XB N X) (hD : RDc X s σ μ) {Q : Int32 → Rg → Ar → Prop} (hQ : Q (nI (cwN X s 48)) σ μ) : wp_X3_copyWrites σ μ Q := by
  have key : ∀ d t, t + d = 48 → wl_X3_copyWrites_4 Q (d + 1) σ μ (nI (cwN X s t)) (nI t) := by
    intro d
    induction d with
    | zero =>
      intro t ht
      have e : t = 48 := by omega
      subst e
      exact pk_le 48 48 (fun _ => hQ) (fun z => absurd z (by omega)) rfl rfl
    | succ d ih =>
      intro t ht
      have st : ∀ v : Nat, cwN X s (t + 1) = cwN X s t + v → wb_X3_copyWrites_35 Q (wl_X3_copyWrites_4 Q (d + 1)) σ μ (nI t) (nI v) (nI (cwN X s t)) := fun v ev y ey y2 ey2 => by
        rw [nI_add, ← ev] at ey
        rw [ey, ey2, i_p1]
        exact ih (t + 1) (by omega)
      refine pk_le 48 t (fun z => absurd z (by omega)) (fun _ => ?_) rfl rfl
      refine sc_hasValue hB hD (by omega) (fun g => ⟨fun z => absurd z (by decide), fun _ => ?_⟩) (fun g => ⟨fun _ y ey => ?_, fun z => absurd rfl z⟩) rfl
      · refine pk_le 32 t (fun z => st 6 ?_) (fun z => sc_valuedSize hB hD (by omega) (st _ ?_) rfl) rfl rfl
        · show _ + itp _ _ _ = _; rw [itp_pos g, if_neg (by omega)]
        · show _ + itp _ _ _ = _; rw [itp_pos g, if_pos z]
      · rw [ey, i_p1]
        have := ih (t + 1) (by omega)
        rw [show cwN X s (t + 1) = cwN X s t from by show _ + itp _ _ _ = _; rw [itp_neg g]; rfl] at this
        exact this
  exact ⟨49, key 48 0 (by omega)⟩
theorem sc_costOf (hC : RCn σ μ X) (hI : IX N X) (hN : N < 2 ^ 28) (h2 : X 2 = 1) {m : Nat} (hm : m < 2 ^ 20) {Q : Int32 → Rg → Ar → Prop} (hQ : ∀ σ' μ', RCn σ' μ' X → Q (coB X m) σ' μ') {x : Int32} (hx : x = nI m) : wp_X4_costOf σ μ x Q := by
  subst hx
  have hB := hI.1
  have b0 := hB.1
  have b6 := hB.2.1
  have b1 := hB.2.2.2.1
  have h3 := hI.2.1
  have h0 := (hC.2.2.1 h2).1
  refine sc_scan hC.1.1 hC.1.2 hB h3 (fun σ1 μ1 f1 g1 D1 => ?_) h0
  have C1 := hC.fc f1 g1
  have hq := hQ σ1 μ1 C1
  have hfr := frE_le hB (X 3)
  unfold coB at hq
  show (σ1 11 - σ1 13 < nI m → _) ∧ _
  refine pk_lt (X 1 - frE X (X 3)) m (fun g => ?_) (fun g => ?_) (by rw [D1.1.1, D1.2.2.1, pk_sub hfr]) rfl
  · rw [if_neg (by omega)] at hq
    refine sc_freeBehind hB D1 ?_
    refine pk_le m (X 1 - szN X (X 3) 48) (fun g2 => ?_) (fun g2 => ?_) rfl rfl
    · rw [if_pos g2] at hq
      have c0 : σ1 0 = nI (X 3) := by rw [f1 0 (by omega) (by omega) (by omega) (by omega)]; exact h0
      have hh := hon_s hB (b := false)
      refine sc_leastErased C1.1.1 C1.1.2 hB (by omega) (u := X 3) (fun j hj => by rw [c0]; exact nI_eq (by omega) (by omega)) ?_
      have c26 : ∀ w : Nat, coD X = w + 5 + cwN X (X 3) 48 + 1 → wb_X4_handoverDoings_26 (fun r45 σ45 μ45 => wb_X4_costOf_50 Q σ45 μ45 (r45 + nI m)) σ1 μ1 (nI w) := fun w ew => by
        refine sc_copyWrites hB D1 ?_
        show Q (((nI w + 5) + nI (cwN X (X 3) 48)) + 1 + nI m) σ1 μ1
        rw [show (5 : Int32) = nI 5 from rfl, nI_add, nI_add, i_p1, nI_add, ← ew]; exact hq
      change wp_X1_isBlank σ1 μ1 (nI (hon (X, false))) _
      refine sc_isBlank C1.1.1 C1.1.2 hB (s := hon (X, false)) hh.1 (fun g3 => ⟨fun z => absurd z (by decide), fun _ => c26 0 ?_⟩) (fun g3 => ⟨fun _ => c26 1 ?_, fun z => absurd rfl z⟩) rfl
      · unfold coD; rw [itp_pos g3]
      · unfold coD; rw [itp_neg g3]
    · rw [if_neg (by omega)] at hq; exact hq
  · rw [if_pos g] at hq; exact hq
theorem cf_costs (hC : RCn σ μ X) (hI : IX N X) (hN : N < 2 ^ 28) {x : Int32} {Q : Int32 → Rg → Ar → Rg → Ar → Prop} (hQ : ∀ σ' μ', RCn σ' μ' X → Q (ctB X x) σ' μ' σb μb) : wp_X5_costs σ μ σb μb x Q := by
  have b10 := hI.1.2.2.2.2.2.2.2.1
  unfold ctB at hQ
  refine sc_isOn hC hI (fun e => ⟨fun z => absurd z (by decide), fun _ => ?_⟩) (fun e => ⟨fun _ => ?_, fun z => absurd rfl z⟩)
  rotate_left
  · rw [itp_neg (fun c => absurd (c.1.symm.trans e) (by decide))] at hQ; exact hQ σ μ hC
  by_cases h10 : X 10 = 1
  · have h15 := (hC.2.2.2.2.1 h10).1
    rw [itp_neg (fun c => by have := c.2.1; omega)] at hQ
    exact ⟨fun _ => hQ σ μ hC, fun z => absurd (h15.symm.trans z) (by decide)⟩
  · have h0 : X 10 = 0 := by omega
    have h15 := hC.2.2.2.2.2 h0
    refine ⟨fun z => absurd h15 z, fun _ => ?_⟩
    refine sc_win (lo := 1) (hi := 4) (by omega) (by omega) rfl rfl (fun a b => ⟨fun _ => ?_, fun z => absurd z (by decide)⟩) (fun g => ⟨fun z => absurd rfl z, fun _ => ?_⟩)
    · rw [itp_pos ⟨e, h0, a, b⟩] at hQ
      have ed : (3 : Int32) + x = nI (3 + tn x) := by
        have := nI_add 3 (tn x)
        rw [← tn_e x] at this; exact this
      exact sc_costOf hC hI hN e (by omega) hQ ed
    · rw [itp_neg (fun c => g c.2.2)] at hQ; exact hQ σ μ hC
theorem sc_copyAll (hC : RCn σ μ X) (hI : IX N X) {Q : Rg → Ar → Prop} (hQ : ∀ σ' μ', RCs σ' X → RCb μ' X → σ' 0 = σ 0 → σ' 1 = σ 1 → σ' 7 = σ 7 → σ' 15 = 0 → Q σ' μ') : wp_X4_copyFrom σ μ σb μb Q := by
  have b2 := hI.1.2.2.2.2.1
  have b6 := hI.1.2.1
  have b1 := hI.1.2.2.2.1
  obtain ⟨⟨⟨a3, a4, a5, a8, a9, a10⟩, hb⟩, h1, on, off, hch⟩ := hC
  have hz : bz (σ 7) := by
    by_cases e : X 2 = 1
    · exact Or.inr (on e).2
    · exact Or.inl (off (by omega)).2
  intro s3 e3 s4 e4 s5 e5 s6 e6
  refine ⟨hz, fun s7 e7 s8 e8 s9 e9 s10 e10 s0 e0 s1 e1 s15 e15 s16 e16 => ?_⟩
  have g : ∀ q, q < 15 → q ≠ 2 → q < 11 → s16 q = σ q := by
    intro q hq h2 h11
    rw [e16, up_n (by omega), e15, up_n (by omega), e1]
    by_cases q1 : q = 1
    · rw [q1, up_s]
    · rw [up_n q1, e0]
      by_cases q0 : q = 0
      · rw [q0, up_s]
      · rw [up_n q0, e10]
        by_cases q10 : q = 10
        · rw [q10, up_s]
        · rw [up_n q10, e9]
          by_cases q9 : q = 9
          · rw [q9, up_s]
          · rw [up_n q9, e8]
            by_cases q8 : q = 8
            · rw [q8, up_s]
            · rw [up_n q8, e7]
              by_cases q7 : q = 7
              · rw [q7, up_s]
              · rw [up_n q7, e6]
                by_cases q6 : q = 6
                · rw [q6, up_s]
                · rw [up_n q6, e5]
                  by_cases q5 : q = 5
                  · rw [q5, up_s]
                  · rw [up_n q5, e4]
                    by_cases q4 : q = 4
                    · rw [q4, up_s]
                    · rw [up_n q4, e3]
                      by_cases q3 : q = 3
                      · rw [q3, up_s]
                      · omega
  refine hQ s16 _ ⟨?_, ?_, ?_, ?_, ?_, ?_⟩ ⟨fun s p q1 q2 => ?_, fun s q1 => ?_⟩ (g 0 (by omega) (by omega) (by omega)) (g 1 (by omega) (by omega) (by omega)) (g 7 (by omega) (by omega) (by omega)) (by rw [e16, up_n (by omega), e15, up_s])
  · rw [g _ (by omega) (by omega) (by omega)]; exact a3
  · rw [g _ (by omega) (by omega) (by omega)]; exact a4
  · rw [g _ (by omega) (by omega) (by omega)]; exact a5
  · rw [g _ (by omega) (by omega) (by omega)]; exact a8
  · rw [g _ (by omega) (by omega) (by omega)]; exact a9
  · rw [g _ (by omega) (by omega) (by omega)]; exact a10
  · have hl := ad_lt q1 q2 b6 b1
    rw [ua_n (by omega), ua_s]
    unfold va_cpy
    rw [if_pos ⟨Nat.zero_le _, by omega⟩, Nat.zero_add, Nat.sub_zero]
    exact hb.1 s p q1 q2
  · rw [ua_s]
    unfold va_cpy
    rw [if_pos ⟨Nat.zero_le _, by omega⟩, Nat.zero_add, Nat.sub_zero]
    exact hb.2 s q1
theorem sc_copyFrom (hC : RCn σ μ X) (hI : IX N X) (h10 : X 10 = 0) {Q : Rg → Ar → Prop} (hQ : ∀ σ' μ', RCn σ' μ' X → Q σ' μ') : wp_X4_copyFrom σ μ σb μb Q :=
  sc_copyAll hC hI (fun σ' μ' S' B' c0 c1 c7 c15 => hQ σ' μ' ⟨⟨S', B'⟩, by rw [c1]; exact hC.2.1, fun c => by rw [c0, c7]; exact hC.2.2.1 c, fun c => by rw [c0, c7]; exact hC.2.2.2.1 c, fun c => by omega, fun _ => c15⟩)
theorem sc_scan_m1 (h3 : σ 3 = nI (X 0)) (b6 : X 0 ≤ 6) {Q : Rg → Ar → Prop} (hQ : ∀ σ' μ', σ' 12 = nI 0 → (∀ t, t < 48 → μ' 8 t = -1) → Q σ' μ') : wp_X3_scan σ μ (-1) Q := by
  have hm : tn (-1 : Int32) = 4294967295 := by decide
  intro σ1 e1
  refine sc_hasSector (X := X) (by rw [e1, up_n (by omega)]; exact h3) b6 (fun c => absurd c (by rw [hm]; omega)) (fun _ => ⟨fun z => absurd rfl z, fun _ σ2 e2 σ3 e3 => ?_⟩)
  refine sc_hasSector (X := X) (by rw [e3, up_n (by omega), e2, up_n (by omega), e1, up_n (by omega)]; exact h3) b6 (fun c => absurd c (by rw [hm]; omega)) (fun _ => ⟨fun z => absurd rfl z, fun _ => ⟨1, ?_⟩⟩)
  have z12 : σ3 12 = nI 0 := by rw [e3, up_n (by omega), e2, up_s]; rfl
  have z14 : σ3 14 = nI 0 := by rw [e3, up_s]; rfl
  have c73 : wb_X3_scan_73 Q σ3 μ (nI 4) := by
    refine pk_le 0 0 (fun _ σ4 e4 => ?_) (fun z => absurd z (by omega)) z14 rfl
    have y12 : σ4 12 = nI 0 := by rw [e4, up_n (by omega)]; exact z12
    refine sc_fill8 (fun μ5 r5 f5 => ⟨1, pk_le 0 0 (fun _ => ⟨49, ?_⟩) (fun z => absurd z (by omega)) y12 rfl⟩)
    have key : ∀ d t, t + d = 48 → wl_X3_markNewest_60 (fun σ94 μ94 => Q σ94 μ94) (d + 1) σ4 μ5 (nI t) := by
      intro d
      induction d with
      | zero =>
        intro t ht
        have et : t = 48 := by omega
        subst et
        exact pk_le 48 48 (fun _ => hQ σ4 μ5 y12 r5) (fun z => absurd z (by omega)) rfl rfl
      | succ d ih =>
        intro t ht
        refine pk_le 48 t (fun z => absurd z (by omega)) (fun _ => ⟨pk_in t 48 (by omega) rfl, ?_⟩) rfl rfl
        rw [nI_clamp (by omega), r5 t (by omega)]
        refine sc_has y12 (by omega) (fun c => absurd c (by omega)) (fun _ => ⟨fun _ y ey => ?_, fun z => absurd rfl z⟩)
        rw [ey, i_p1]
        exact ih (t + 1) (by omega)
    exact key 48 0 (by omega)
  exact pk_lt 41 0 (fun z => absurd z (by omega)) (fun _ => pk_le 0 4 (fun _ => c73) (fun z => absurd z (by omega)) rfl rfl) rfl rfl
theorem on_2 {Y : Nat → Nat} (h : (onZ Y).2 = false) : (onZ Y).1 2 = 1 := by
  have aux : ∀ s Z, (onX s Z).2 = false → (onX s Z).1 2 = 1 := by
    intro s Z hz
    unfold onX at hz ⊢
    split
    · rename_i g; rw [if_pos g] at hz; rw [hz] at g; exact absurd g (by decide)
    · dsimp only; rw [ux_n (by omega), ux_s]
  unfold onZ swZ at h ⊢
  split
  · rename_i g; rw [if_pos g] at h; exact aux _ _ h
  · rename_i g; rw [if_neg g] at h; exact aux _ _ h
theorem cf_torn (hC : RCn σ μ X) (hI : IX N X) (hN : N + 8 < 2 ^ 28) {x1 x2 x3 x4 x5 x6 : Int32} {Q : Int64 → Rg → Ar → Rg → Ar → Prop} (hQ : ∀ r σ' μ' σb' μb', RCn σ' μ' X → (tcG X x1 x3 x4 x5 x6 → (onZ (tcY X x1 x2 x3 x4 x5)).2 = false → r = tcB (tcY X x1 x2 x3 x4 x5) (tn x1) x6) → (¬ tcG X x1 x3 x4 x5 x6 → r = -1) → Q r σ' μ' σb' μb') : wp_X5_torn σ μ σb μb x1 x2 x3 x4 x5 x6 Q := by
  have hB := hI.1
  have b10 := hB.2.2.2.2.2.2.2.1
  have no : ¬ tcG X x1 x3 x4 x5 x6 → ∀ σ' μ', RCn σ' μ' X → Q (-1) σ' μ' σb μb := fun g σ' μ' C' => hQ (-1) σ' μ' σb μb C' (fun c => absurd c g) (fun _ => rfl)
  refine sc_isOn hC hI (fun e => ⟨fun z => absurd z (by decide), fun _ => ?_⟩) (fun e => ⟨fun _ => no (fun c => absurd (c.1.1.symm.trans e) (by decide)) σ μ hC, fun z => absurd rfl z⟩)
  by_cases h10 : X 10 = 1
  · have h15 := (hC.2.2.2.2.1 h10).1
    exact ⟨fun _ => no (fun c => by have := c.1.2; omega) σ μ hC, fun z => absurd (h15.symm.trans z) (by decide)⟩
  have h0 : X 10 = 0 := by omega
  have h15 := hC.2.2.2.2.2 h0
  refine ⟨fun z => absurd h15 z, fun _ => ?_⟩
  refine sc_isSetting (fun a1 a2 a3 => ⟨fun _ => ?_, fun z => absurd z (by decide)⟩) (fun g => ⟨fun z => absurd rfl z, fun _ => no (fun c => g c.2.1) σ μ hC⟩)
  have ed : (3 : Int32) + x3 = nI (3 + tn x3) := by
    have := nI_add 3 (tn x3)
    rw [← tn_e x3] at this; exact this
  refine sc_costOf hC hI (by omega) e (m := 3 + tn x3) (by omega) (fun σ1 μ1 C1 => ?_) ed
  refine sc_within (fun b1 b2 => ⟨fun z => absurd z (by decide), fun _ => ?_⟩) (fun g => ⟨fun _ => no (fun c => g.elim c.2.2.1.1 c.2.2.1.2) σ1 μ1 C1, fun z => absurd rfl z⟩)
  refine sc_win (lo := 0) (hi := 255) (by omega) (by omega) rfl rfl (fun _ a5 => ⟨fun z => absurd z (by decide), fun _ => ?_⟩) (fun g => ⟨fun _ => no (fun c => g ⟨Nat.zero_le _, c.2.2.2.1⟩) σ1 μ1 C1, fun z => absurd rfl z⟩)
  refine sc_win (lo := 0) (hi := 3) (by omega) (by omega) rfl rfl (fun _ a6 => ⟨fun _ => ?_, fun z => absurd z (by decide)⟩) (fun g => ⟨fun z => absurd rfl z, fun _ => no (fun c => g ⟨Nat.zero_le _, c.2.2.2.2⟩) σ1 μ1 C1⟩)
  have g : tcG X x1 x3 x4 x5 x6 := ⟨⟨e, h0⟩, ⟨a1, a2, a3⟩, ⟨b1, b2⟩, a5, a6⟩
  have ok : ∀ r σb' μb', ((onZ (tcY X x1 x2 x3 x4 x5)).2 = false → r = tcB (tcY X x1 x2 x3 x4 x5) (tn x1) x6) → Q r σ1 μ1 σb' μb' := fun r σb' μb' er => hQ r σ1 μ1 σb' μb' C1 (fun _ => er) (fun c => absurd g c)
  -- n is small
  have h4 : tn x4 ≤ 2000 := by
    have hx : ¬ x4 < 0 := fun c => b1 (Int32.lt_trans c (by decide))
    have ht := tn_pos hx
    have no2 : ∀ m : Nat, m ≤ 2000 → ¬ nI m < x4 → tn x4 ≤ 2000 := fun m hm hl => by
      have e4 := tn_e x4
      rw [e4, nI_ltI (by omega) (by omega)] at hl
      omega
    have hcd := coD_le X
    unfold coB at b2
    split at b2
    · exact no2 _ (by omega) b2
    · split at b2
      · exact no2 _ (by omega) b2
      · exact absurd (Int32.lt_of_lt_of_le (show (-2 : Int32) < 1 by decide) (Int32.not_lt.mp b1)) b2
  refine sc_copyFrom C1 hI h0 (fun σ2 μ2 C2 σ3 e3 σ4 e4 => ?_)
  have I4 : IX N (tnX X (tn x4) (tn x5)) := x5_I (x4_I hI (by omega)) a5
  have C4 : RCn σ4 μ2 (tnX X (tn x4) (tn x5)) := by
    obtain ⟨⟨⟨q3, q4, q5, q8, q9, q10⟩, hb⟩, h1, on, off, hch⟩ := C2
    have fs : ∀ q, q ≠ 8 → q ≠ 9 → σ4 q = σ2 q := fun q q8 q9 => by rw [e4, up_n q9, e3, up_n q8]
    have u : ∀ q, q ≠ 4 → q ≠ 5 → tnX X (tn x4) (tn x5) q = X q := fun q w4 w5 => by unfold tnX; rw [ux_n w5, ux_n w4]
    refine ⟨⟨⟨?_, ?_, ?_, ?_, ?_, ?_⟩, hb.ex (u 0 (by omega) (by omega)) (u 1 (by omega) (by omega)) (fun q hq => u q (by omega) (by omega))⟩, ?_, fun c => ?_, fun c => ?_, fun c => ?_, fun _ => ?_⟩
    · rw [fs _ (by omega) (by omega), u _ (by omega) (by omega)]; exact q3
    · rw [fs _ (by omega) (by omega), u _ (by omega) (by omega)]; exact q4
    · rw [fs _ (by omega) (by omega), u _ (by omega) (by omega)]; exact q5
    · rw [e4, up_n (by omega), e3, up_s]; unfold tnX; rw [ux_n (by omega), ux_s]; exact tn_e x4
    · rw [e4, up_s]; unfold tnX; rw [ux_s]; exact tn_e x5
    · rw [fs _ (by omega) (by omega), u _ (by omega) (by omega)]; exact q10
    · rw [fs _ (by omega) (by omega), u _ (by omega) (by omega)]; exact h1
    · rw [u _ (by omega) (by omega)] at c
      rw [fs _ (by omega) (by omega), fs _ (by omega) (by omega), u _ (by omega) (by omega)]; exact on c
    · rw [u _ (by omega) (by omega)] at c
      rw [fs _ (by omega) (by omega), fs _ (by omega) (by omega)]; exact off c
    · rw [u _ (by omega) (by omega)] at c; omega
    · rw [fs _ (by omega) (by omega)]; exact hch.2 h0
  have e2' : tnX X (tn x4) (tn x5) 2 = 1 := by unfold tnX; rw [ux_n (by omega), ux_n (by omega)]; exact e
  refine sc_keep C4 I4 (by omega) e2' a1 a3 (fun σ5 μ5 C5 => ?_) (tn_e x1) (tn_e x3)
  change RCn σ5 μ5 (tcY X x1 x2 x3 x4 x5) at C5
  have I5 : IX (N + 2) (tcY X x1 x2 x3 x4 x5) := stZ_I I4
  refine sc_switchOn C5.1.1 C5.1.2 C5.2.1 C5.2.2.2.2 I5 (by omega) (fun σ6 μ6 C6 h6 => ?_)
  have hI6 : IX (N + 2 + 6) (onZ (tcY X x1 x2 x3 x4 x5)).1 := by
    have h30 := x8_3 I5.2.1
    unfold onZ
    exact ⟨swZ_XB (Z := (ux (tcY X x1 x2 x3 x4 x5) 8 0, false)) (x8_XB I5.1), swZ_3 (Z := (ux (tcY X x1 x2 x3 x4 x5) 8 0, false)) (x8_XB I5.1) h30, dn_C I5.2.2 I5.1 (dn_tr (dn_ux (by omega)) (dn_swZ (Z := (ux (tcY X x1 x2 x3 x4 x5) 8 0, false))))⟩
  have hB6 := hI6.1
  have b66 := hB6.2.1
  have h36 := hI6.2.1
  have b26 := hB6.2.2.2.2.1
  cases hz : (onZ (tcY X x1 x2 x3 x4 x5)).2 with
  | false =>
    have o2 := on_2 hz
    rw [if_neg (by decide)]
    have ec : ∀ v : Int64, v = tcB (tcY X x1 x2 x3 x4 x5) (tn x1) x6 → ∀ σb' μb', Q v σ1 μ1 σb' μb' := fun v ev σb' μb' => ok v σb' μb' (fun _ => ev)
    unfold tcB at ec
    refine ⟨fun z => ?_, fun z => ?_, fun z => ?_, fun z => ?_⟩
    · exact ec _ (by rw [if_neg (fun c => by subst c; revert z; decide), if_neg (fun c => by subst c; revert z; decide), if_neg (fun c => by subst c; revert z; decide)]) σ6 μ6
    · rw [if_pos z] at ec
      refine sc_look C6 hI6 o2 (fun σ7 μ7 C7 D7 _ => sc_newestValue hB6 (by omega) D7 (by omega) (ec _ rfl σ7 μ7) (tn_e x1))
    · rw [if_neg (by rw [z]; decide), if_pos z] at ec
      refine sc_look C6 hI6 o2 (fun σ7 μ7 C7 D7 _ => ?_)
      show Q (σ7 11 - σ7 13).toInt64 σ1 μ1 σ7 μ7
      rw [D7.1.1, D7.2.2.1, pk_sub (frE_le hB6 _)]
      exact ec _ rfl σ7 μ7
    · rw [if_neg (by rw [z]; decide), if_neg (by rw [z]; decide), if_pos z] at ec
      exact ec _ (by rw [h6 hz]) σ6 μ6
  | true =>
    rw [if_pos rfl]
    have any : ∀ v σb' μb', Q v σ1 μ1 σb' μb' := fun v σb' μb' => ok v σb' μb' (fun c => by rw [hz] at c; exact absurd c (by decide))
    by_cases o2 : (onZ (tcY X x1 x2 x3 x4 x5)).1 2 = 1
    · refine ⟨fun _ => any _ _ _, fun _ => ?_, fun _ => ?_, fun _ => any _ _ _⟩
      · exact sc_look C6 hI6 o2 (fun σ7 μ7 C7 D7 _ => sc_newestValue hB6 (by omega) D7 (by omega) (any _ σ7 μ7) (tn_e x1))
      · exact sc_look C6 hI6 o2 (fun σ7 μ7 C7 D7 _ => any _ σ7 μ7)
    · have m1 := (C6.2.2.2.1 (by omega)).1
      refine ⟨fun _ => any _ _ _, fun _ => ?_, fun _ => ?_, fun _ => any _ _ _⟩
      · unfold wp_X4_look
        rw [m1]
        refine sc_scan_m1 C6.1.1.1 b66 (fun σ7 μ7 z12 n8 => ?_)
        refine ⟨fun z => absurd z (by rw [tn_e x1]; exact nI_pos (by omega)), fun _ => pk_le 48 (tn x1) (fun z => absurd z (by omega)) (fun _ => ⟨pk_in (tn x1) 48 (by omega) (tn_e x1), ?_⟩) rfl (tn_e x1)⟩
        rw [ecl (n := 47) (by omega) (by omega), n8 (tn x1) (by omega)]
        exact sc_has z12 (by omega) (fun c => absurd c (by omega)) (fun _ => ⟨fun _ => any _ σ7 μ7, fun z => absurd rfl z⟩)
      · unfold wp_X4_look
        rw [m1]
        exact sc_scan_m1 C6.1.1.1 b66 (fun σ7 μ7 z12 n8 => any _ σ7 μ7)
end CN
