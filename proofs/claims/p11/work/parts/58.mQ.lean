/-! the reference: commit -/
section MQ
variable {σ : Rg} {μ : Ar} {X : Nat → Nat} {N : Nat}
theorem cmS_ge (X : Nat → Nat) (j : Nat) : 4 ≤ cmS X j := by
  induction j with
  | zero => exact Nat.le_refl _
  | succ j ih => show 4 ≤ cmS X j + _; omega
theorem cmS_le {m : Nat} (hl : ∀ k, k < m → X (28 + k) ≤ 4) : ∀ j, j ≤ m → cmS X j ≤ 4 + 7 * j
  | 0, _ => Nat.le_refl _
  | j + 1, h => by
    have := cmS_le hl j (by omega)
    have := hl j (by omega)
    show cmS X j + _ ≤ _; omega
theorem cmP_len (X : Nat → Nat) : ∀ j, (cmP X j).length + 4 = cmS X j
  | 0 => rfl
  | j + 1 => by
    have := cmP_len X j
    show (cmP X j ++ sB 48 (X (12 + j)) (X (28 + j)) (cmW X j)).length + 4 = cmS X j + _
    rw [List.length_append, sB_len]; omega
theorem cmL_len (X : Nat → Nat) : (cmL X).length = cmS X (X 11) := by
  have := cmP_len X (X 11)
  unfold cmL
  rw [List.length_append]
  show (cmP X (X 11)).length + 4 = _
  exact this
theorem cm_far {q m : Nat} (h : fq q) (h3 : q ≠ 3) (h7 : q ≠ 7) : (mrZ m (ux X 8 0, false)).1 q = X q := by
  rw [mrZ_far h h3 h7]
  show ux X 8 0 q = X q
  exact ux_n h.2.2.2.1
theorem fqc {q : Nat} (h1 : 11 ≤ q) (h2 : q < 36) : fq q := by unfold fq; omega
theorem sm_cmE {Z : Zt} {s p c m : Nat} (hL : RLa σ μ Z s p c) (hB : XB N Z.1) (hs : s < 6) (hp : p + 4 ≤ 128) (hm : Z.1 11 = m) (hm8 : m ≤ 8) {Q : Int32 → Rg → Ar → Prop} (hQ : ∀ σ' μ', RM μ' (ux (lay s p (ckd [63, 65, m]) Z).1 10 0) → FK σ μ σ' μ' → Q (tdI (lay s p (ckd [63, 65, m]) Z)) σ' μ') :
    ∀ σ142 : Rg, σ142 = upd σ 7 (0 : Int32) → (wp_X6_lays σ142 μ (63 : Int32) (fun σ148 μ148 => wp_X6_lays σ148 μ148 (65 : Int32) (fun σ154 μ154 => wp_X6_lays σ154 μ154 (μ154 0 11) (fun σ165 μ165 => wp_X6_laysCheck σ165 μ165  (fun σ169 μ169 => ∀ μ179 : Ar, μ179 = updA μ169 0 (upd (μ169 0) 10 (0 : Int32)) → (wp_X6_told σ169 μ179  (fun r181 σ181 μ181 => Q r181 σ181 μ181))))))) := by
  intro σ2 e2
  obtain ⟨⟨hR, h1⟩, h5, h6, h7⟩ := hL
  have L2 : RLa σ2 μ Z s p 0 := ⟨⟨hR, by rw [e2, up_n (by omega)]; exact h1⟩, by rw [e2, up_n (by omega)]; exact h5, by rw [e2, up_n (by omega)]; exact h6, by rw [e2, up_s]; rfl⟩
  refine sm_lays (v := 63) L2 hB hs (by omega) (fun σ3 μ3 L3 F3 A3 => ?_) rfl
  refine sm_lays (v := 65) L3 (wr_XB hB) hs (by omega) (fun σ4 μ4 L4 F4 A4 => ?_) rfl
  have e11 : (wr s (p + 1) 65 (wr s p 63 Z)).1 11 = m := by rw [wr_far (fqc (by omega) (by omega)), wr_far (fqc (by omega) (by omega))]; exact hm
  refine sm_lays (v := m) L4 (wr_XB (wr_XB hB)) hs (by omega) (fun σ5 μ5 L5 F5 A5 => ?_) (by rw [L4.1.1 11 (by omega), e11])
  refine sm_laysCheck L5 (wr_XB (wr_XB (wr_XB hB))) hs (by omega) (by omega) (fun σ6 μ6 c6 L6 F6 A6 μ7 e7 => ?_)
  have ez : lay s p (ckd [63, 65, m]) Z = wr s (p + 1 + 1 + 1) ((0 + 63 + 65 + m + 85) % 251) (wr s (p + 1 + 1) m (wr s (p + 1) 65 (wr s p 63 Z))) := by
    show wr s (p + 1 + 1 + 1) ((lsm [63, 65, m] + 85) % 251) _ = _
    rw [show lsm [63, 65, m] = 0 + 63 + 65 + m by show 63 + (65 + (m + 0)) = _; omega]
  rw [← ez] at L6
  have W7 : RW σ6 μ7 (ux (lay s p (ckd [63, 65, m]) Z).1 10 0, (lay s p (ckd [63, 65, m]) Z).2) := ⟨by rw [e7]; exact L6.1.1.set rfl, L6.1.2⟩
  refine sm_told W7 ?_
  have et : tdI (ux (lay s p (ckd [63, 65, m]) Z).1 10 0, (lay s p (ckd [63, 65, m]) Z).2) = tdI (lay s p (ckd [63, 65, m]) Z) := by
    unfold tdI
    show (if (lay s p (ckd [63, 65, m]) Z).2 = true then _ else nI (ux (lay s p (ckd [63, 65, m]) Z).1 10 0 8)) = _
    rw [ux_n (by omega)]
  rw [et]
  refine hQ σ6 μ7 W7.1 ⟨?_, ?_⟩
  · rw [F6 0 (by omega) (by omega) (by omega), F5 0 (by omega) (by omega) (by omega), F4 0 (by omega) (by omega) (by omega), F3 0 (by omega) (by omega) (by omega), e2, up_n (by omega)]
  · rw [e7, ua_n (by omega), A6 1 (by omega), A5 1 (by omega), A4 1 (by omega), A3 1 (by omega)]
theorem sm_commit (hR : RM μ X) (hI : IX N X) (hN : N < 2 ^ 28) {Q : Int32 → Rg → Ar → Prop} (hQ : ∀ σ' μ', RM μ' (cmX X) → σ' 0 = 0 → Q (cmA X) σ' μ') : wp_X6_commit σ μ Q := by
  intro σ2 e2
  have hB := hI.1
  have b6 := hB.2.1
  have b128 := hB.2.2.2.1
  have h3 := hI.2.1
  have K2 := K0 e2
  have b10 := hB.2.2.2.2.2.2.2.1
  unfold cmX cmA at hQ
  rw [hR 10 (by omega)]
  refine And.comm.mp (pk_eq (X 10) 0 (fun z => ?_) (fun z => ?_) rfl rfl)
  · rw [if_pos z, if_pos z] at hQ; exact hQ σ2 μ hR K2
  rw [if_neg z, if_neg z] at hQ
  obtain ⟨c1, c2⟩ := hI.2.2 (by omega)
  rw [hR 11 (by omega)]
  refine And.comm.mp (pk_eq (X 11) 0 (fun z1 μ3 e3 => ?_) (fun z1 => ?_) rfl rfl)
  · rw [if_pos z1, if_pos z1] at hQ
    exact hQ σ2 μ3 (by rw [e3]; exact hR.set rfl) K2
  rw [if_neg z1, if_neg z1] at hQ
  have sl := cmS_le (X := X) (fun k hk => (c2 k hk).2)
  have sm' := sl (X 11) (Nat.le_refl _)
  have hZB : XB N (ux X 8 0) := x8_XB hB
  have h30 := x8_3 h3
  -- the parts are laid
  have lp : ∀ (hf : fits (cmS X (X 11)) (ux X 8 0, false)) (hz : (mrZ (cmS X (X 11)) (ux X 8 0, false)).2 = false), ∀ d j c, j + d = X 11 → ∀ σ1 μ1, RLa σ1 μ1 (lyZ (cmP X j) (mrZ (cmS X (X 11)) (ux X 8 0, false))) ((mrZ (cmS X (X 11)) (ux X 8 0, false)).1 3) (frE (mrZ (cmS X (X 11)) (ux X 8 0, false)).1 ((mrZ (cmS X (X 11)) (ux X 8 0, false)).1 3) + (cmS X j - 4)) c → σ1 0 = 0 → wl_X6_commit_89 Q (d + 1) σ1 μ1 (nI j) := by
    intro hf hz
    have hf2 := mrZ_fr hZB h30 hf hz (by have := cmS_ge X (X 11); omega)
    have e1 : (ux X 8 0, false).1 1 = X 1 := show ux X 8 0 1 = X 1 from ux_n (by omega)
    rw [e1] at hf2
    have hB2 := mrZ_XB (m := cmS X (X 11)) (Z := (ux X 8 0, false)) hZB h30
    have h32 := mrZ_3 (m := cmS X (X 11)) (Z := (ux X 8 0, false)) hZB h30
    have b62 := hB2.2.1
    have far : ∀ j q, 11 ≤ q → q < 36 → (lyZ (cmP X j) (mrZ (cmS X (X 11)) (ux X 8 0, false))).1 q = X q := fun j q q1 q2 => by
      unfold lyZ; rw [lay_far (fqc q1 q2), cm_far (fqc q1 q2) (by omega) (by omega)]
    intro d
    induction d with
    | zero =>
      intro j c hj σ1 μ1 L1 k1
      have e : j = X 11 := by omega
      subst e
      refine pk_le (X 11) (X 11) (fun _ => ?_) (fun z => absurd z (by omega)) (by rw [L1.1.1 11 (by omega), far _ _ (by omega) (by omega)]) rfl
      have hg := cmS_ge X (X 11)
      refine sm_cmE (m := X 11) L1 (lyZ_XB hB2) (by omega) (by omega) (far _ _ (by omega) (by omega)) c1 (fun σ3 μ3 R3 K3 => ?_)
      have ez : cmF X = lay ((mrZ (cmS X (X 11)) (ux X 8 0, false)).1 3) (frE (mrZ (cmS X (X 11)) (ux X 8 0, false)).1 ((mrZ (cmS X (X 11)) (ux X 8 0, false)).1 3) + (cmS X (X 11) - 4)) (ckd [63, 65, X 11]) (lyZ (cmP X (X 11)) (mrZ (cmS X (X 11)) (ux X 8 0, false))) := by
        have hl := cmP_len X (X 11)
        unfold cmF cmL lyZ
        rw [lay_app, show cmS X (X 11) - 4 = (cmP X (X 11)).length by omega]
      rw [← ez] at R3 ⊢
      rw [itp_pos hf, itp_pos hf] at hQ
      exact hQ σ3 μ3 R3 (K3.1.trans k1)
    | succ d ih =>
      intro j c hj σ1 μ1 L1 k1
      have cj := c2 j (by omega)
      refine pk_le (X 11) j (fun z => absurd z (by omega)) (fun _ => ?_) (by rw [L1.1.1 11 (by omega), far _ _ (by omega) (by omega)]) rfl
      refine ⟨pk_in _ 810 (by omega) (i_12 j), pk_in _ 810 (by omega) (i_28 j), pk_in _ 810 (by omega) (i_20 j), ?_⟩
      rw [i_12, i_28, i_20, nI_clamp (by omega), nI_clamp (by omega), nI_clamp (by omega), L1.1.1 (12 + j) (by omega), L1.1.1 (28 + j) (by omega), L1.1.1 (20 + j) (by omega), far _ _ (by omega) (by omega), far _ _ (by omega) (by omega), far _ _ (by omega) (by omega)]
      have hsj : cmS X (j + 1) ≤ cmS X (X 11) := by
        have : ∀ e, cmS X (j + 1) ≤ cmS X (j + 1 + e) := by
          intro e
          induction e with
          | zero => exact Nat.le_refl _
          | succ e ihe => show _ ≤ cmS X (j + 1 + e) + _; omega
        have := this d
        rw [show j + 1 + d = X 11 by omega] at this; exact this
      have es : cmS X (j + 1) = cmS X j + (3 + X (28 + j)) := rfl
      have hg := cmS_ge X j
      refine sm_laysSetting (a := 48) L1 (lyZ_XB hB2) (by omega) (by omega) cj.2 (by omega) (fun σ3 μ3 c3 L3 F3 A3 y ey => ?_)
      rw [ey, i_p1]
      refine ih (j + 1) c3 (by omega) σ3 μ3 ?_ ((F3 0 (by omega) (by omega) (by omega)).trans k1)
      have ez : lyZ (cmP X (j + 1)) (mrZ (cmS X (X 11)) (ux X 8 0, false)) = lay ((mrZ (cmS X (X 11)) (ux X 8 0, false)).1 3) (frE (mrZ (cmS X (X 11)) (ux X 8 0, false)).1 ((mrZ (cmS X (X 11)) (ux X 8 0, false)).1 3) + (cmS X j - 4)) (sB 48 (X (12 + j)) (X (28 + j)) (cmW X j)) (lyZ (cmP X j) (mrZ (cmS X (X 11)) (ux X 8 0, false))) := by
        have hl := cmP_len X j
        unfold lyZ
        rw [show cmP X (j + 1) = cmP X j ++ sB 48 (X (12 + j)) (X (28 + j)) (cmW X j) from rfl, lay_app, show cmS X j - 4 = (cmP X j).length by omega]
      rw [ez, show cmS X (j + 1) - 4 = (cmS X j - 4) + (3 + X (28 + j)) by omega, ← Nat.add_assoc]
      exact L3
  -- all is gone
  have lg : ∀ (hf : fits (cmS X (X 11)) (ux X 8 0, false)) (hz : (mrZ (cmS X (X 11)) (ux X 8 0, false)).2 = true), ∀ d j, j + d = X 11 → ∀ σ1 μ1, RM μ1 (mrZ (cmS X (X 11)) (ux X 8 0, false)).1 → σ1 1 = 1 → σ1 0 = 0 → wl_X6_commit_89 Q (d + 1) σ1 μ1 (nI j) := by
    intro hf hz
    have far : ∀ q, 11 ≤ q → q < 36 → (mrZ (cmS X (X 11)) (ux X 8 0, false)).1 q = X q := fun q q1 q2 => cm_far (fqc q1 q2) (by omega) (by omega)
    intro d
    induction d with
    | zero =>
      intro j hj σ1 μ1 R1 g1 k1
      have e : j = X 11 := by omega
      subst e
      refine pk_le (X 11) (X 11) (fun _ σ3 e3 => ?_) (fun z => absurd z (by omega)) (by rw [R1 11 (by omega), far _ (by omega) (by omega)]) rfl
      have g3 : σ3 1 = 1 := by rw [e3, up_n (by omega)]; exact g1
      have k3 : σ3 0 = 0 := by rw [e3, up_n (by omega)]; exact k1
      refine sg_lays g3 (fun σ4 F4 g4 => sg_lays g4 (fun σ5 F5 g5 => sg_lays g5 (fun σ6 F6 g6 => sg_laysCheck g6 (fun σ7 F7 g7 μ8 e8 => ?_))))
      have ez : cmF X = mrZ (cmS X (X 11)) (ux X 8 0, false) := by unfold cmF lyZ; rw [lay_g _ _ hz]
      have W8 : RW σ7 μ8 (ux (cmF X).1 10 0, (cmF X).2) := ⟨by rw [e8, ez]; exact R1.set rfl, by rw [ez]; show σ7 1 = (if (mrZ (cmS X (X 11)) (ux X 8 0, false)).2 = true then 1 else 0); rw [hz, g7]; rfl⟩
      refine sm_told W8 ?_
      rw [itp_pos hf, itp_pos hf] at hQ
      have := hQ σ7 μ8 W8.1 (by rw [F7 0 (by omega) (by omega) (by omega), F6 0 (by omega) (by omega) (by omega), F5 0 (by omega) (by omega) (by omega), F4 0 (by omega) (by omega) (by omega)]; exact k3)
      have et : tdI (ux (cmF X).1 10 0, (cmF X).2) = tdI (cmF X) := by
        unfold tdI
        show (if (cmF X).2 = true then _ else nI (ux (cmF X).1 10 0 8)) = _
        rw [ux_n (by omega)]
      rw [et]; exact this
    | succ d ih =>
      intro j hj σ1 μ1 R1 g1 k1
      have cj := c2 j (by omega)
      refine pk_le (X 11) j (fun z => absurd z (by omega)) (fun _ => ?_) (by rw [R1 11 (by omega), far _ (by omega) (by omega)]) rfl
      refine ⟨pk_in _ 810 (by omega) (i_12 j), pk_in _ 810 (by omega) (i_28 j), pk_in _ 810 (by omega) (i_20 j), ?_⟩
      rw [i_28, nI_clamp (by omega), R1 (28 + j) (by omega), far _ (by omega) (by omega)]
      refine sg_laysSetting g1 cj.2 (fun σ3 F3 g3 y ey => ?_)
      rw [ey, i_p1]
      exact ih (j + 1) (by omega) σ3 μ1 R1 g3 ((F3 0 (by omega) (by omega) (by omega)).trans k1)
  -- the size
  have ls : ∀ d j, j + d = X 11 → wl_X6_commit_41 Q (d + 1) σ2 μ (nI (cmS X j)) (nI j) := by
    intro d
    induction d with
    | zero =>
      intro j hj
      have e : j = X 11 := by omega
      subst e
      refine pk_le (X 11) (X 11) (fun _ => ?_) (fun z => absurd z (by omega)) (hR 11 (by omega)) rfl
      refine sm_begins hR (fun σ3 μ3 W3 S3 A3 => ?_)
      have k3 : σ3 0 = 0 := (S3 0 (by omega)).trans K2
      refine sm_makesRoom W3 hZB hN h30 (by omega) (fun hf hz σ4 μ4 c L4 K4 => ⟨fun _ => ?_, fun z => absurd z (by decide)⟩) (fun hf hz σ4 μ4 W4 K4 => ⟨fun _ => ?_, fun z => absurd z (by decide)⟩) (fun hf σ4 μ4 W4 K4 => ⟨fun z => absurd rfl z, fun _ => ?_⟩) rfl
      · exact ⟨X 11 + 1, lp hf hz (X 11) 0 c (by omega) σ4 μ4 L4 (K4.1.trans k3)⟩
      · exact ⟨X 11 + 1, lg hf hz (X 11) 0 (by omega) σ4 μ4 W4.1 (by have := W4.2; rw [hz] at this; exact this) (K4.1.trans k3)⟩
      · rw [itp_neg hf, itp_neg hf] at hQ
        exact hQ σ4 μ4 W4.1 (K4.1.trans k3)
    | succ d ih =>
      intro j hj
      have cj := c2 j (by omega)
      refine pk_le (X 11) j (fun z => absurd z (by omega)) (fun _ => ⟨pk_in _ 810 (by omega) (i_28 j), fun y ey y2 ey2 => ?_⟩) (hR 11 (by omega)) rfl
      rw [i_28, nI_clamp (by omega), hR (28 + j) (by omega), show (3 : Int32) = nI 3 from rfl, nI_add, nI_add] at ey
      rw [ey, ey2, i_p1]
      exact ih (j + 1) (by omega)
  exact ⟨X 11 + 1, ls (X 11) 0 (by omega)⟩
theorem cmX_I (hI : IX N X) : IX (N + 2) (cmX X) := by
  have hB := hI.1
  have h3 := hI.2.1
  unfold cmX
  split
  · exact hI.mono (by omega)
  · split
    · exact (x10_I hI (fun q h1 _ _ => ux_n h1) (by rw [ux_n (by omega)]; exact hB.2.2.2.2.1) ux_s).mono (by omega)
    · unfold itp
      split
      · have h : IX (N + 2) (cmF X).1 := ⟨lyZ_XB (mrZ_XB (x8_XB hB) (x8_3 h3)), lyZ_3 (mrZ_3 (x8_XB hB) (x8_3 h3)), dn_C hI.2.2 hB (dn_tr (dn_ux (by omega)) (dn_tr (dn_mrZ (Z := (ux X 8 0, false))) (dn_lay _ _)))⟩
        exact x10_I h (fun q h1 _ _ => ux_n h1) (by rw [ux_n (by omega)]; exact h.1.2.2.2.2.1) ux_s
      · refine IX.mono (N := N) ⟨x8_XB hB, x8_3 h3, dn_C hI.2.2 hB (dn_ux (by omega))⟩ (by omega)
end MQ
