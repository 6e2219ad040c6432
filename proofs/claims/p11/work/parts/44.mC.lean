/-! commits, newest -/
section MC
variable {σ : Rg} {μ : Ar} {X : Nat → Nat} {N : Nat}
theorem st1_0 (X : Nat → Nat) (s i : Nat) : st1 X s 0 i = st0 X s (ps X s i) := by
  unfold st1 st0
  by_cases h : bad X s (ps X s i)
  · rw [itp_pos h, itp_pos h]
  · rw [itp_neg h, itp_neg h]
    by_cases h2 : kd X s (ps X s i) < 2
    · rw [if_pos h2, if_pos h2]
    · rw [if_neg h2, if_neg h2, itp_neg (fun ⟨k, hk, _⟩ => absurd hk (by omega)), itp_neg (fun z => absurd z.1 (by omega))]
      split <;> rfl
theorem st1_no {s j i : Nat} (h : ¬ cn X s j) : st1 X s (j + 1) i = st1 X s j i := by
  unfold st1
  have e1 : (∃ k, k < j + 1 ∧ cn X s k ∧ k - due X s k ≤ i ∧ i < k) = (∃ k, k < j ∧ cn X s k ∧ k - due X s k ≤ i ∧ i < k) := by
    apply propext
    refine ⟨fun ⟨k, h1, h2, h3⟩ => ⟨k, ?_, h2, h3⟩, fun ⟨k, h1, h2⟩ => ⟨k, by omega, h2⟩⟩
    by_cases e : k = j
    · subst e; exact absurd h2 h
    · omega
  have e2 : (i < j + 1 ∧ cn X s i) = (i < j ∧ cn X s i) := by
    apply propext
    refine ⟨fun ⟨h1, h2⟩ => ⟨?_, h2⟩, fun ⟨h1, h2⟩ => ⟨by omega, h2⟩⟩
    by_cases e : i = j
    · subst e; exact absurd h2 h
    · omega
  rw [e1, e2]
theorem st1_yes {s j i : Nat} (h : cn X s j) : st1 X s (j + 1) i = if i = j then 0 else if j - due X s j ≤ i ∧ i < j then 1 else st1 X s j i := by
  by_cases e : i = j
  · subst e
    rw [if_pos rfl]
    unfold st1
    rw [itp_neg h.2.1, if_neg (by rw [h.1]; omega), if_neg (by rw [h.1]; omega), itp_pos ⟨by omega, h⟩]
  · rw [if_neg e]
    by_cases hr : j - due X s j ≤ i ∧ i < j
    · rw [if_pos hr]
      have := h.2.2.2.2.2 i hr.1 hr.2
      unfold st1
      rw [itp_neg this.2, if_neg (by rw [this.1]; omega), if_pos this.1, itp_pos ⟨j, by omega, h, hr⟩]
    · rw [if_neg hr]
      unfold st1
      have e1 : (∃ k, k < j + 1 ∧ cn X s k ∧ k - due X s k ≤ i ∧ i < k) = (∃ k, k < j ∧ cn X s k ∧ k - due X s k ≤ i ∧ i < k) := by
        apply propext
        refine ⟨fun ⟨k, h1, h2, h3⟩ => ⟨k, ?_, h2, h3⟩, fun ⟨k, h1, h2⟩ => ⟨k, by omega, h2⟩⟩
        by_cases e : k = j
        · subst e; exact absurd h3 hr
        · omega
      have e2 : (i < j + 1 ∧ cn X s i) = (i < j ∧ cn X s i) := by
        apply propext
        exact ⟨fun ⟨h1, h2⟩ => ⟨by omega, h2⟩, fun ⟨h1, h2⟩ => ⟨by omega, h2⟩⟩
      rw [e1, e2]
theorem st1_le (X : Nat → Nat) (s j i : Nat) : st1 X s j i ≤ 3 := by
  unfold st1 itp
  (repeat' split) <;> omega
theorem st1_bad {s j i : Nat} : st1 X s j i = 2 ↔ bad X s (ps X s i) := by
  unfold st1
  by_cases h : bad X s (ps X s i)
  · rw [itp_pos h]; exact ⟨fun _ => h, fun _ => rfl⟩
  · rw [itp_neg h]
    refine ⟨fun z => ?_, fun z => absurd z h⟩
    exfalso
    unfold itp at z
    (repeat' split at z) <;> omega
/-- the entries' rows but the marks -/
def PQ (X : Nat → Nat) (s e : Nat) (σ : Rg) (μ : Ar) : Prop := σ 2 = nI e ∧ ∀ i, i < e → μ 2 i = nI (ps X s i) ∧ μ 3 i = nI (kd X s (ps X s i)) ∧ μ 4 i = nI (sz X s (ps X s i))
theorem cm_l {s e : Nat} (hR : RT μ X s) (hB : XB N X) (hs : s < 6) (hE : IsE X s e) (he : e ≤ 41) {Q : Rg → Ar → Prop}
    (hQ : ∀ μ', F01 μ μ' → μ' 6 = μ 6 → PQ X s e σ μ' → (∀ i, i < e → μ' 5 i = nI (st1 X s e i)) → Q σ μ') :
    ∀ d j, j + d = e → ∀ μ1, F01 μ μ1 → μ1 6 = μ 6 → PQ X s e σ μ1 → (∀ i, i < e → μ1 5 i = nI (st1 X s j i)) → wl_X6_commits_2 Q (d + 1) σ μ1 (nI s) (nI j) := by
  have b1 := hB.2.2.2.1
  intro d
  induction d with
  | zero =>
    intro j hj μ1 F f6 P hm
    have ej : j = e := by omega
    subst ej
    exact pk_le j j (fun _ => hQ μ1 F f6 P hm) (fun z => absurd z (by omega)) P.1 rfl
  | succ d ih =>
    intro j hj μ1 F f6 P hm
    have hR1 := F.RT hR
    obtain ⟨⟨g1, g2⟩, g3, g4⟩ := hE.1 j (by omega)
    have hk1 := kd_ok g3
    have hkl := kd_le X s (ps X s j)
    obtain ⟨p2, p3, p4⟩ := P.2 j (by omega)
    have hin : vp_in (nI j) 64 := pk_in j 64 (by omega) rfl
    have hst := st1_le X s j j
    -- no commit that counts: on
    have next : ¬ cn X s j → wb_X6_commits_160 Q (wl_X6_commits_2 Q (d + 1)) σ μ1 (nI s) (nI j) := by
      intro hc y ey
      rw [ey, i_p1]
      exact ih (j + 1) (by omega) μ1 F f6 P (fun i hi => by rw [st1_no hc]; exact hm i hi)
    refine pk_le e j (fun z => absurd z (by omega)) (fun _ => ⟨hin, ?_⟩) P.1 rfl
    rw [nI_clamp (by omega), p3, hm j (by omega)]
    refine ⟨fun z => next (fun c => z (by rw [c.1]; rfl)), fun z => ⟨hin, ?_⟩⟩
    have k3 : kd X s (ps X s j) = 3 := (nI_eq (by omega) (by omega)).mp z
    refine ⟨fun z => ?_, fun z => next (fun c => c.2.1 (st1_bad.mp ((nI_eq (by omega) (by omega)).mp z)))⟩
    have nb : ¬ bad X s (ps X s j) := fun b => z (by rw [st1_bad.mpr b]; rfl)
    have hsr := szf_r (a := bt X s (ps X s j)) (b := bt X s (ps X s j + 1)) (by rw [← hk1.2]; exact g3)
    have s4 : sz X s (ps X s j) = 4 := by
      have := hsr.2.2.1 (by rw [← hk1.2]; exact k3)
      unfold sz; rw [hk1.2]; exact this
    refine ⟨hin, ?_⟩
    rw [p2, show (2 : Int32) = nI 2 from rfl, nI_add]
    refine sr_byteAt hR1 hs (by omega) ?_
    have hdu : due X s j ≤ 255 := hB.b hs (by omega)
    show wp_X6_within (nI (due X s j)) _ _ _
    -- the end of the search
    have c120 : ∀ w : Nat, (w = 1 → cn X s j) → (w = 0 → ¬ cn X s j) → w ≤ 1 → wb_X6_commits_120 Q (wl_X6_commits_2 Q (d + 1)) σ μ1 (nI s) (nI j) (nI (due X s j)) (nI w) := by
      intro w w1 w0 wl
      refine ⟨fun q => ?_, fun q => next (w0 ((nI_eq (by omega) (by omega)).mp q))⟩
      have hw : w = 1 := by
        rcases (show w = 0 ∨ w = 1 by omega) with h | h
        · rw [h] at q; exact absurd rfl q
        · exact h
      have hc := w1 hw
      refine ⟨hin, fun μ2 e2 y ey => ?_⟩
      rw [nI_clamp (by omega)] at e2
      have hdj := hc.2.2.2.2.1
      rw [ey, pk_sub hdj]
      have key : ∀ d2 i, i + d2 = j → j - due X s j ≤ i → ∀ μ3 : Ar, F01 μ μ3 → μ3 6 = μ 6 → PQ X s e σ μ3 → (∀ a, a < e → μ3 5 a = nI (if a = j then 0 else if j - due X s j ≤ a ∧ a < i then 1 else st1 X s j a)) → wl_X6_commits_140 Q (wl_X6_commits_2 Q (d + 1)) (d2 + 1) σ μ3 (nI s) (nI j) (nI i) := by
        intro d2
        induction d2 with
        | zero =>
          intro i hi hlo μ3 F3 f3 P3 m3
          have ei : i = j := by omega
          subst ei
          refine pk_le i i (fun _ => ?_) (fun z => absurd z (by omega)) rfl rfl
          intro y ey
          rw [ey, i_p1]
          refine ih (i + 1) (by omega) μ3 F3 f3 P3 (fun a ha => ?_)
          rw [m3 a ha, st1_yes hc]
        | succ d2 ih2 =>
          intro i hi hlo μ3 F3 f3 P3 m3
          refine pk_le j i (fun z => absurd z (by omega)) (fun _ => ?_) rfl rfl
          refine ⟨pk_in i 64 (by omega) rfl, fun μ4 e4 y ey => ?_⟩
          rw [nI_clamp (by omega)] at e4
          rw [ey, i_p1]
          refine ih2 (i + 1) (by omega) (by omega) μ4 (F3.tr (by rw [e4]; exact F01.set (by omega))) (by rw [e4, ua_n (by omega)]; exact f3) ⟨P3.1, fun a ha => by rw [e4, ua_n (by omega), ua_n (by omega), ua_n (by omega)]; exact P3.2 a ha⟩ (fun a ha => ?_)
          rw [e4, ua_s]
          by_cases ea : a = i
          · subst ea
            rw [up_s, if_neg (by omega), if_pos (by omega)]; rfl
          · rw [up_n ea, m3 a ha]
            by_cases q1 : a = j
            · rw [if_pos q1, if_pos q1]
            · rw [if_neg q1, if_neg q1]
              by_cases q2 : j - due X s j ≤ a ∧ a < i
              · rw [if_pos q2, if_pos (by omega)]
              · rw [if_neg q2, if_neg (by omega)]
      refine ⟨due X s j + 1, key (due X s j) (j - due X s j) (by omega) (Nat.le_refl _) μ2 (F.tr (by rw [e2]; exact F01.set (by omega))) (by rw [e2, ua_n (by omega)]; exact f6) ⟨P.1, fun a ha => by rw [e2, ua_n (by omega), ua_n (by omega), ua_n (by omega)]; exact P.2 a ha⟩ (fun a ha => ?_)⟩
      rw [e2, ua_s]
      by_cases q1 : a = j
      · subst q1; rw [up_s, if_pos rfl]; rfl
      · rw [up_n q1, if_neg q1, if_neg (by omega)]; exact hm a ha
    -- the search for parts
    have c66 : ¬ cn X s j → wb_X6_commits_66 Q (wl_X6_commits_2 Q (d + 1)) σ μ1 (nI s) (nI j) (nI (due X s j)) := by
      intro hc y ey
      refine ⟨1, ?_⟩
      refine ⟨fun _ => c120 0 (fun z => absurd z (by omega)) (fun _ => hc) (by omega), fun _ => ⟨fun _ => c120 0 (fun z => absurd z (by omega)) (fun _ => hc) (by omega), fun z => absurd rfl z⟩⟩
    have c67 : 1 ≤ due X s j → due X s j ≤ 8 → due X s j ≤ j → wb_X6_commits_67 Q (wl_X6_commits_2 Q (d + 1)) σ μ1 (nI s) (nI j) (nI (due X s j)) (1 : Int32) := by
      intro q1 q2 q3 y ey
      rw [ey, pk_sub q3]
      have stp : ∀ i n, i < j → ¬ cn X s j → wl_X6_commits_74 Q (wl_X6_commits_2 Q (d + 1)) (n + 1) σ μ1 (nI s) (nI j) (nI (due X s j)) (0 : Int32) (nI i) := by
        intro i n hi hc
        exact ⟨fun _ => c120 0 (fun z => absurd z (by omega)) (fun _ => hc) (by omega), fun _ => ⟨fun _ => c120 0 (fun z => absurd z (by omega)) (fun _ => hc) (by omega), fun z => absurd rfl z⟩⟩
      have stp2 : ∀ i n, i ≤ j → ¬ cn X s j → wl_X6_commits_74 Q (wl_X6_commits_2 Q (d + 1)) (n + 1) σ μ1 (nI s) (nI j) (nI (due X s j)) (0 : Int32) (nI i) := by
        intro i n hi hc
        exact ⟨fun _ => c120 0 (fun z => absurd z (by omega)) (fun _ => hc) (by omega), fun _ => ⟨fun _ => c120 0 (fun z => absurd z (by omega)) (fun _ => hc) (by omega), fun z => absurd rfl z⟩⟩
      have key : ∀ d2 i, i + d2 = j → j - due X s j ≤ i → (∀ a, j - due X s j ≤ a → a < i → kd X s (ps X s a) = 2 ∧ ¬ bad X s (ps X s a)) → wl_X6_commits_74 Q (wl_X6_commits_2 Q (d + 1)) (d2 + 1) σ μ1 (nI s) (nI j) (nI (due X s j)) (1 : Int32) (nI i) := by
        intro d2
        induction d2 with
        | zero =>
          intro i hi hlo hall
          have ei : i = j := by omega
          subst ei
          exact pk_le i i (fun _ => c120 1 (fun _ => ⟨k3, nb, q1, q2, q3, hall⟩) (fun z => absurd z (by omega)) (by omega)) (fun z => absurd z (by omega)) rfl rfl
        | succ d2 ih2 =>
          intro i hi hlo hall
          refine pk_le j i (fun z => absurd z (by omega)) (fun _ => ⟨fun z => absurd z (by decide), fun _ => ?_⟩) rfl rfl
          have hii : vp_in (nI i) 64 := pk_in i 64 (by omega) rfl
          obtain ⟨i2, i3, i4⟩ := P.2 i (by omega)
          have hki := kd_le X s (ps X s i)
          have hsi := st1_le X s j i
          have no : ¬ (kd X s (ps X s i) = 2 ∧ ¬ bad X s (ps X s i)) → wb_X6_commits_111 Q (wl_X6_commits_2 Q (d + 1)) (wl_X6_commits_74 Q (wl_X6_commits_2 Q (d + 1)) (d2 + 1)) σ μ1 (nI s) (nI j) (nI (due X s j)) (nI i) := by
            intro hno y ey
            rw [ey, i_p1]
            exact stp2 (i + 1) d2 (by omega) (fun c => hno (c.2.2.2.2.2 i hlo (by omega)))
          refine ⟨hii, ?_⟩
          rw [nI_clamp (by omega), i3, hm i (by omega)]
          refine ⟨fun q => no (fun c => q (by rw [c.1]; rfl)), fun q => ⟨hii, fun q4 => no (fun c => c.2 (st1_bad.mp ((nI_eq (by omega) (by omega)).mp q4))), fun q4 => ?_⟩⟩
          intro y ey
          rw [ey, i_p1]
          refine ih2 (i + 1) (by omega) (by omega) (fun a h1 h2 => ?_)
          by_cases ea : a = i
          · subst ea
            exact ⟨(nI_eq (by omega) (by omega)).mp q, fun b => q4 (by rw [st1_bad.mpr b]; rfl)⟩
          · exact hall a h1 (by omega)
      exact ⟨due X s j + 1, key (due X s j) (j - due X s j) (by omega) (Nat.le_refl _) (fun a h1 h2 => absurd h2 (by omega))⟩
    refine sm_within (fun q1 q2 => ⟨fun z => absurd z (by decide), fun _ => ?_⟩) (fun q => ⟨fun _ => c66 (fun c => ?_), fun z => absurd rfl z⟩)
    · have d1 : 1 ≤ due X s j := Nat.not_lt.mp (fun g => q1 (nI_lt (b := 1) g (by omega)))
      have d8 : due X s j ≤ 8 := Nat.not_lt.mp (fun g => q2 (nI_lt (a := 8) g (by omega)))
      refine pk_lt j (due X s j) (fun z => c66 (fun c => absurd c.2.2.2.2.1 (by omega))) (fun z => c67 d1 d8 z) rfl rfl
    · rcases q with q | q
      · have := (nI_ltI (b := 1) (by omega) (by omega)).mp q; have := c.2.2.1; omega
      · have := (nI_ltI (a := 8) (by omega) (by omega)).mp q; have := c.2.2.2.1; omega
end MC
