/-! the reference: wears -/
section MV
variable {σ : Rg} {μ : Ar} {X : Nat → Nat} {N : Nat}
noncomputable def wrA (Y : Nat → Nat) (n : Nat) : Nat → Nat := itp (blnk Y n 0) Y (ux Y (36 + n) (Y (36 + n) + 1))
theorem flS_lo {s v m q : Nat} {Y : Nat → Nat} (h : q < 42) : flS s v m Y q = Y q := by unfold flS; rw [if_neg (by omega)]
theorem flS_XB {s v m : Nat} {Y : Nat → Nat} (h : XB N Y) (hv : v ≤ 255) : XB N (flS s v m Y) := by
  refine XB.of h (fun q hq => flS_lo hq) (fun q h1 h2 => ?_)
  unfold flS
  split
  · exact hv
  · exact h.2.2.2.2.2.2.2.2.1 q h1 h2
theorem xe_XB {s : Nat} {Y : Nat → Nat} (h : XB N Y) {v : Nat} (hv : v ≤ N + 1) (hs : s < 6) : XB (N + 1) (ux Y (36 + s) v) := by
  obtain ⟨a, b, c, d, e, f, g, i, j, k⟩ := h
  refine ⟨by rw [ux_n (by omega)]; exact a, by rw [ux_n (by omega)]; exact b, by rw [ux_n (by omega)]; exact c, by rw [ux_n (by omega)]; exact d, by rw [ux_n (by omega)]; exact e, by rw [ux_n (by omega)]; exact f, by rw [ux_n (by omega)]; exact g, by rw [ux_n (by omega)]; exact i, fun q h1 h2 => by rw [ux_n (by omega)]; exact j q h1 h2, fun q h1 h2 => ?_⟩
  by_cases hq : q = 36 + s
  · rw [hq, ux_s]; exact hv
  · rw [ux_n hq]; have := k q h1 h2; omega
theorem wrA_XB {n : Nat} {Y : Nat → Nat} (h : XB N Y) (hn : n < 6) : XB (N + 1) (wrA Y n) := by
  unfold wrA itp
  split
  · exact h.mono (by omega)
  · exact xe_XB h (by have := h.2.2.2.2.2.2.2.2.2 (36 + n) (by omega) (by omega); omega) hn
theorem wrA_lo {n q : Nat} {Y : Nat → Nat} (h : q < 36) : wrA Y n q = Y q := by
  unfold wrA itp
  split
  · rfl
  · rw [ux_n (by omega)]
theorem wrS_e (p : (Nat → Nat) × Nat) : wrS p = (ux (flS p.2 255 (p.1 1) (flS (leN p.1 p.2 (p.1 0) - 1) 0 (p.1 1) (wrA p.1 (leN p.1 p.2 (p.1 0) - 1)))) (36 + p.2) (wrA p.1 (leN p.1 p.2 (p.1 0) - 1) (36 + p.2) + 1), leN p.1 p.2 (p.1 0) - 1) := rfl
theorem wrS_XB {p : (Nat → Nat) × Nat} (h : XB N p.1) (hu : p.2 < p.1 0) : XB (N + 2) (wrS p).1 ∧ (wrS p).2 < (wrS p).1 0 ∧ (∀ q, q < 36 → (wrS p).1 q = p.1 q) := by
  have b0 := h.1
  have b6 := h.2.1
  have hle := leN_le p.1 p.2 (p.1 0)
  rw [wrS_e]
  have h1 := wrA_XB (n := leN p.1 p.2 (p.1 0) - 1) h (by omega)
  have lo : ∀ q, q < 36 → ux (flS p.2 255 (p.1 1) (flS (leN p.1 p.2 (p.1 0) - 1) 0 (p.1 1) (wrA p.1 (leN p.1 p.2 (p.1 0) - 1)))) (36 + p.2) (wrA p.1 (leN p.1 p.2 (p.1 0) - 1) (36 + p.2) + 1) q = p.1 q := fun q hq => by
    rw [ux_n (by omega), flS_lo (by omega), flS_lo (by omega), wrA_lo hq]
  refine ⟨xe_XB (N := N + 1) (flS_XB (flS_XB h1 (by omega)) (by omega)) ?_ (by omega), ?_, lo⟩
  · have := h1.2.2.2.2.2.2.2.2.2 (36 + p.2) (by omega) (by omega); omega
  · show leN p.1 p.2 (p.1 0) - 1 < ux _ _ _ 0
    rw [lo 0 (by omega)]; omega
theorem wsN_I (hB : XB N X) {u : Nat} (hu : u < X 0) : ∀ k, XB (N + 2 * k) (wsN X u k).1 ∧ (wsN X u k).2 < (wsN X u k).1 0 ∧ ∀ q, q < 36 → (wsN X u k).1 q = X q
  | 0 => ⟨hB, hu, fun _ _ => rfl⟩
  | k + 1 => by
    obtain ⟨h1, h2, h3⟩ := wsN_I hB hu k
    obtain ⟨g1, g2, g3⟩ := wrS_XB h1 h2
    exact ⟨g1.mono (by omega), g2, fun q hq => (g3 q hq).trans (h3 q hq)⟩
theorem sm_fl88 {Q : Int32 → Rg → Ar → Prop} {k48 : Rg → Ar → Int32 → Int32 → Int32 → Int32 → Prop} {v1 v2 v3 v4 : Int32} {s b : Nat} (hs : s < 6) (hb : b ≤ 128) {Y : Nat → Nat} (h1 : Y 1 = b) (hR : RM μ Y) (hQ : ∀ μ', RM μ' (flS s 0 b Y) → FA μ μ' → ∃ n, wl_X6_wears_126 Q k48 n σ μ' v1 v2 v3 v4 (nI s) (0 : Int32)) : wb_X6_wears_85 Q k48 σ μ v1 v2 v3 v4 (nI s) := by
  have key : ∀ d j, j + d = b → ∀ μ1, RM μ1 (flS s 0 j Y) → FA μ μ1 → wl_X6_wears_88 Q k48 (d + 1) σ μ1 v1 v2 v3 v4 (nI s) (nI j) := by
    intro d
    induction d with
    | zero =>
      intro j hj μ1 R1 A1
      have e : j = b := by omega
      subst e
      exact pk_le j j (fun _ => hQ μ1 R1 A1) (fun z => absurd z (by omega)) (by rw [R1 1 (by omega), flS_lo (by omega), h1]) rfl
    | succ d ih =>
      intro j hj μ1 R1 A1
      refine pk_le b j (fun z => absurd z (by omega)) (fun _ => ⟨pk_in _ 810 (by omega) (adr s j), fun μ2 e2 y ey => ?_⟩) (by rw [R1 1 (by omega), flS_lo (by omega), h1]) rfl
      rw [adr, nI_clamp (by omega)] at e2
      rw [ey, i_p1]
      refine ih (j + 1) (by omega) μ2 ?_ (A1.tr (by rw [e2]; exact FA.set))
      rw [e2]
      refine (R1.set (k := 42 + 128 * s + j) (a := 0) rfl).ex (fun q hq => ?_)
      by_cases g : q = 42 + 128 * s + j
      · rw [g, ux_s]; unfold flS; rw [if_pos (by omega)]
      · rw [ux_n g]; unfold flS
        by_cases g2 : 42 + 128 * s ≤ q ∧ q < 42 + 128 * s + j
        · rw [if_pos g2, if_pos (by omega)]
        · rw [if_neg g2, if_neg (by omega)]
  exact ⟨b + 1, key b 0 (by omega) μ (hR.ex (fun q hq => by unfold flS; rw [if_neg (by omega)])) FA.rf⟩
theorem sm_fl126 {Q : Int32 → Rg → Ar → Prop} {k48 : Rg → Ar → Int32 → Int32 → Int32 → Int32 → Prop} {v1 v2 v5 : Int32} {s b k : Nat} (hs : s < 6) (hb : b ≤ 128) {Y : Nat → Nat} (h1 : Y 1 = b) (hR : RM μ Y) (hQ : ∀ μ', RM μ' (ux (flS s 255 b Y) (36 + s) (Y (36 + s) + 1)) → FA μ μ' → k48 σ μ' v1 v2 v5 (nI (k + 1))) : ∃ n, wl_X6_wears_126 Q k48 n σ μ v1 v2 (nI s) (nI k) v5 (0 : Int32) := by
  have key : ∀ d j, j + d = b → ∀ μ1, RM μ1 (flS s 255 j Y) → FA μ μ1 → wl_X6_wears_126 Q k48 (d + 1) σ μ1 v1 v2 (nI s) (nI k) v5 (nI j) := by
    intro d
    induction d with
    | zero =>
      intro j hj μ1 R1 A1
      have e : j = b := by omega
      subst e
      refine pk_le j j (fun _ => ⟨pk_in _ 810 (by omega) (i_36 s), pk_in _ 810 (by omega) (i_36 s), fun μ2 e2 y ey => ?_⟩) (fun z => absurd z (by omega)) (by rw [R1 1 (by omega), flS_lo (by omega), h1]) rfl
      rw [i_36, nI_clamp (by omega), R1 (36 + s) (by omega), flS_lo (by omega), i_p1] at e2
      rw [ey, i_p1]
      refine hQ μ2 ?_ (A1.tr (by rw [e2]; exact FA.set))
      rw [e2]; exact R1.set rfl
    | succ d ih =>
      intro j hj μ1 R1 A1
      refine pk_le b j (fun z => absurd z (by omega)) (fun _ => ⟨pk_in _ 810 (by omega) (adr s j), fun μ2 e2 y ey => ?_⟩) (by rw [R1 1 (by omega), flS_lo (by omega), h1]) rfl
      rw [adr, nI_clamp (by omega)] at e2
      rw [ey, i_p1]
      refine ih (j + 1) (by omega) μ2 ?_ (A1.tr (by rw [e2]; exact FA.set))
      rw [e2]
      refine (R1.set (k := 42 + 128 * s + j) (a := 255) rfl).ex (fun q hq => ?_)
      by_cases g : q = 42 + 128 * s + j
      · rw [g, ux_s]; unfold flS; rw [if_pos (by omega)]
      · rw [ux_n g]; unfold flS
        by_cases g2 : 42 + 128 * s ≤ q ∧ q < 42 + 128 * s + j
        · rw [if_pos g2, if_pos (by omega)]
        · rw [if_neg g2, if_neg (by omega)]
  exact ⟨b + 1, key b 0 (by omega) μ (hR.ex (fun q hq => by unfold flS; rw [if_neg (by omega)])) FA.rf⟩
theorem sm_wears (hR : RM μ X) (hI : IX N X) (hN : N < 2 ^ 28) {x1 x2 : Int32} {Q : Int32 → Rg → Ar → Prop} (hQ : ∀ σ' μ', RM μ' X → σ' 0 = 0 → Q (wsA X x1 x2) σ' μ') : wp_X6_wears σ μ x1 x2 Q := by
  intro σ2 e2
  have K2 := K0 e2
  have hB := hI.1
  have b6 := hB.2.1
  have b128 := hB.2.2.2.1
  have h3 := hI.2.1
  unfold wsA at hQ
  refine sm_isOn hR hB.2.2.2.2.1 (fun e => ⟨fun z => absurd z (by decide), fun _ => ?_⟩) (fun e => ⟨fun _ => ?_, fun z => absurd rfl z⟩)
  rotate_left
  · rw [itp_neg (fun c => absurd (c.1.symm.trans e) (by decide))] at hQ; exact hQ σ2 μ hR K2
  refine sm_win (lo := 0) (hi := 1000) (by omega) (by omega) rfl rfl (fun _ a1 => ⟨fun z => absurd z (by decide), fun _ => ?_⟩) (fun g => ⟨fun _ => ?_, fun z => absurd rfl z⟩)
  rotate_left
  · rw [itp_neg (fun c => g ⟨Nat.zero_le _, c.2.1⟩)] at hQ; exact hQ σ2 μ hR K2
  refine sm_win (lo := 0) (hi := 2) (by omega) (by omega) rfl rfl (fun _ a2 => ⟨fun _ => ?_, fun z => absurd z (by decide)⟩) (fun g => ⟨fun z => absurd rfl z, fun _ => ?_⟩)
  rotate_left
  · rw [itp_neg (fun c => g ⟨Nat.zero_le _, c.2.2⟩)] at hQ; exact hQ σ2 μ hR K2
  rw [itp_pos ⟨e, a1, a2⟩] at hQ
  refine sm_putsAside hR (fun μ1 R1 Kk F1 y ey => ⟨tn x1 + 1, ?_⟩)
  rw [R1 3 (by omega)] at ey
  rw [ey]
  have key : ∀ d k, k + d = tn x1 → ∀ μ', RM μ' (wsN X (X 3) k).1 → RK μ' X → wl_X6_wears_48 Q (d + 1) σ2 μ' x1 x2 (nI (wsN X (X 3) k).2) (nI k) := by
    intro d
    induction d with
    | zero =>
      intro k hk μ' R' K'
      have ek : k = tn x1 := by omega
      subst ek
      obtain ⟨w1, w2, w3⟩ := wsN_I hB h3 (tn x1)
      refine pk_le (tn x1) (tn x1) (fun _ => ⟨fun z2 => ?_, fun z2 => ?_⟩) (fun z => absurd z (by omega)) (tn_e x1) rfl
      · rw [if_neg z2] at hQ
        refine ⟨fun z0 => ?_, fun z0 => ?_⟩
        · rw [if_neg z0] at hQ
          exact sm_extreme R' w1 (by omega) (sm_putsBack R' K' (fun μ'' R'' _ => hQ σ2 μ'' R'' K2))
        · rw [if_pos z0] at hQ
          exact sm_extreme R' w1 (by omega) (sm_putsBack R' K' (fun μ'' R'' _ => hQ σ2 μ'' R'' K2))
      · rw [if_pos z2] at hQ
        exact sm_putsBack R' K' (fun μ'' R'' _ => hQ σ2 μ'' R'' K2)
    | succ d ih =>
      intro k hk μ' R' K'
      obtain ⟨w1, w2, w3⟩ := wsN_I hB h3 k
      have st := ih (k + 1) (by omega)
      rw [show wsN X (X 3) (k + 1) = wrS (wsN X (X 3) k) from rfl, wrS_e] at st
      have y0 := w3 0 (by omega)
      have y1 := w3 1 (by omega)
      generalize (wsN X (X 3) k).1 = Y at *
      generalize (wsN X (X 3) k).2 = u at *
      have hle := leN_le Y u (Y 0)
      have hn6 : leN Y u (Y 0) - 1 < 6 := by omega
      refine pk_le (tn x1) k (fun z => absurd z (by omega)) (fun _ => ?_) (tn_e x1) rfl
      refine sm_leastErased R' w1 (by omega) (u := u) (fun j hj => nI_eq (by omega) (by omega)) ?_
      generalize leN Y u (Y 0) - 1 = n at *
      have rest : ∀ μ'', RM μ'' (wrA Y n) → RK μ'' X → wb_X6_wears_85 Q (wl_X6_wears_48 Q (d + 1)) σ2 μ'' x1 x2 (nI u) (nI k) (nI n) := by
        intro μ'' R'' K''
        refine sm_fl88 (b := X 1) hn6 b128 (by rw [wrA_lo (by omega), y1]) R'' (fun μ3 R3 A3 => ?_)
        refine sm_fl126 (b := X 1) (s := u) (by omega) b128 (by rw [flS_lo (by omega), wrA_lo (by omega), y1]) R3 (fun μ4 R4 A4 => ?_)
        rw [flS_lo (by omega)] at R4
        rw [y1] at st
        exact st μ4 R4 (fun q hq => by rw [A4 1 (by omega), A3 1 (by omega)]; exact K'' q hq)
      refine sm_isBlank (p := 0) R' w1 hn6 (by omega) (fun g => ⟨fun _ => ?_, fun z => absurd z (by decide)⟩) (fun g => ⟨fun z => absurd rfl z, fun _ => ⟨pk_in _ 810 (by omega) (i_36 n), pk_in _ 810 (by omega) (i_36 n), fun μ3 e3 => ?_⟩⟩)
      · exact rest μ' (by unfold wrA; rw [itp_pos g]; exact R') K'
      · rw [i_36, nI_clamp (by omega), R' (36 + n) (by omega), i_p1] at e3
        refine rest μ3 (by unfold wrA; rw [itp_neg g, e3]; exact R'.set rfl) (fun q hq => by rw [e3, ua_n (by omega)]; exact K' q hq)
  exact key (tn x1) 0 (by omega) μ1 R1 Kk
end MV
