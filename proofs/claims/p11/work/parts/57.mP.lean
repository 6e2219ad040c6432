/-! the reference: bump, commit -/
noncomputable def bmV (X : Nat → Nat) (t : Nat) : Nat := if nwt X (X 3) t = 0 then 0 else vlN X (X 3) (nwt X (X 3) t - 1)
noncomputable def bmP (X : Nat → Nat) (t : Nat) : Nat := ps X (X 3) (nwt X (X 3) t - 1) + 6
def bmG (X : Nat → Nat) (x : Int32) : Prop := X 2 = 1 ∧ X 10 ≠ 1 ∧ (32 ≤ tn x ∧ tn x ≤ 47) ∧ bmV X (tn x) < 16777215
def bmU (X : Nat → Nat) (t : Nat) : Prop := nwt X (X 3) t ≠ 0 ∧ fzN (ux X 8 0) (X 3) (bmP X t) 8 ≠ 0
noncomputable def bmZ (X : Nat → Nat) (t : Nat) : Zt := itp (bmU X t) (guZ (ux X 8 0) (X 3) (bmP X t) (ux X 8 0, false)) (itp (fits 14 (ux X 8 0, false)) (lyZ (cB t (bmV X t + 1)) (mrZ 14 (ux X 8 0, false))) (ux X 8 0, false))
noncomputable def bmB (X : Nat → Nat) (t : Nat) : Int32 := itp (bmU X t ∨ fits 14 (ux X 8 0, false)) (if (bmZ X t).2 = true then -3 else nI (bmV X t + 1)) (-2)
noncomputable def bmX (X : Nat → Nat) (x : Int32) : Nat → Nat := itp (bmG X x) (bmZ X (tn x)).1 X
noncomputable def bmA (X : Nat → Nat) (x : Int32) : Int32 := itp (bmG X x) (bmB X (tn x)) (-1)
def cmS (X : Nat → Nat) : Nat → Nat
  | 0 => 4
  | j + 1 => cmS X j + (3 + X (28 + j))
def cmW (X : Nat → Nat) (k : Nat) : Nat := ((nI (X (20 + k))).toInt64).toBitVec.toNat
def cmP (X : Nat → Nat) : Nat → List Nat
  | 0 => []
  | j + 1 => cmP X j ++ sB 48 (X (12 + j)) (X (28 + j)) (cmW X j)
def cmL (X : Nat → Nat) : List Nat := cmP X (X 11) ++ ckd [63, 65, X 11]
noncomputable def cmF (X : Nat → Nat) : Zt := lyZ (cmL X) (mrZ (cmS X (X 11)) (ux X 8 0, false))
noncomputable def cmX (X : Nat → Nat) : Nat → Nat := if X 10 = 0 then X else if X 11 = 0 then ux X 10 0 else itp (fits (cmS X (X 11)) (ux X 8 0, false)) (ux (cmF X).1 10 0) (ux X 8 0)
noncomputable def cmA (X : Nat → Nat) : Int32 := if X 10 = 0 then -1 else if X 11 = 0 then -1 else itp (fits (cmS X (X 11)) (ux X 8 0, false)) (tdI (cmF X)) (-2)
section MP
variable {σ : Rg} {μ : Ar} {X : Nat → Nat} {N : Nat}
theorem sm_lyC {Z : Zt} {t w : Nat} {c : Nat} (hL : RLa σ μ Z (Z.1 3) (frE Z.1 (Z.1 3)) c) (hB : XB N Z.1) (h3 : Z.1 3 < Z.1 0) (hp : frE Z.1 (Z.1 3) + 14 ≤ 128) (hw : w < 2 ^ 31) (ht : t < 2 ^ 16) {Q : Rg → Ar → Prop} (hQ : ∀ σ' μ', RW σ' μ' (lyZ (cB t w) Z) → FK σ μ σ' μ' → Q σ' μ') {x : Int32} (hx : x = nI t) : wp_X6_laysCounter σ μ x (nI w) Q := by
  subst hx
  have b6 := hB.2.1
  exact sm_laysCounter hL hB (by omega) hp hw (by omega) (fun σ' μ' c' L' F' A' => hQ σ' μ' L'.1 (FK.fl F' A'))
theorem kd_ct (hB : XB N X) {s t : Nat} (h : nwt X s t ≠ 0) (h32 : 32 ≤ t) : kd X s (ps X s (nwt X s t - 1)) = 1 := by
  obtain ⟨hi, h3, _, ht⟩ := nwt_i hB h
  have h4 := (ent hB hi).2.1
  obtain ⟨_, e⟩ := kd_ok (X := X) (s := s) (p := ps X s (nwt X s t - 1)) (by omega)
  rw [ht] at e
  rw [e] at h3 h4 ⊢
  unfold kdf at *
  rw [if_neg (by omega), if_neg (by omega)] at *
  split
  · rfl
  · rename_i g
    rw [if_neg g] at h3 h4
    split at h3
    · exact absurd rfl h3
    · rename_i g2; rw [if_neg g2] at h4; omega
theorem sm_bump (hR : RM μ X) (hI : IX N X) (hN : N < 2 ^ 28) {x : Int32} {Q : Int32 → Rg → Ar → Prop} (hQ : ∀ σ' μ', RM μ' (bmX X x) → σ' 0 = 0 → Q (bmA X x) σ' μ') : wp_X6_bump σ μ x Q := by
  intro σ2 e2
  have hB := hI.1
  have b6 := hB.2.1
  have b128 := hB.2.2.2.1
  have h3 := hI.2.1
  have K2 := K0 e2
  have no : ¬ bmG X x → ∀ σ' μ', RM μ' X → σ' 0 = 0 → Q (-1) σ' μ' := fun g σ' μ' R' k' => by
    have := hQ σ' μ' (by unfold bmX; rw [itp_neg g]; exact R') k'
    unfold bmA at this; rw [itp_neg g] at this; exact this
  refine sm_isOn hR hB.2.2.2.2.1 (fun e => ⟨fun z => absurd z (by decide), fun _ => ?_⟩) (fun e => ⟨fun _ => no (fun c => absurd (c.1.symm.trans e) (by decide)) σ2 μ hR K2, fun z => absurd rfl z⟩)
  rw [hR 10 (by omega)]
  refine pk_eq (X 10) 1 (fun z => no (fun c => c.2.1 z) σ2 μ hR K2) (fun z10 => ?_) rfl rfl (by have := hB.2.2.2.2.2.2.2.1; omega)
  refine sm_win (lo := 32) (hi := 47) (by omega) (by omega) rfl rfl (fun a b => ⟨fun _ => ?_, fun z => absurd z (by decide)⟩) (fun g => ⟨fun z => absurd rfl z, fun _ => no (fun c => g c.2.2.1) σ2 μ hR K2⟩)
  rw [hR 3 (by omega)]
  refine sm_reads hR hB (by omega) (fun σ3 μ3 F3 G3 D3 => ⟨pk_in (tn x) 48 (by omega) (tn_e x), ?_⟩)
  have R3 := F3.RM hR
  have k3 : σ3 0 = 0 := (G3 0 (by omega) (by omega) (by omega)).trans K2
  have hZB : XB N (ux X 8 0) := x8_XB hB
  have h30 := x8_3 h3
  have hnE := nE_le (X := X) (s := X 3) b128
  intro y ey
  have ec : (x).toNatClampNeg = tn x := by rw [tn_e x, nI_clamp (by omega), ← tn_e x]
  rw [ec, D3.2.2.2.1 (tn x) (by omega)] at ey
  have vlt : bmV X (tn x) < 2 ^ 31 := by
    unfold bmV
    split
    · omega
    · rename_i hne
      exact (vlN_lt hB (by omega) (nwt_i hB hne).1 (nwt_i hB hne).2.1).2 (kd_ct hB hne a)
  have yes : bmG X x → ∀ σ' μ', RM μ' (bmZ X (tn x)).1 → σ' 0 = 0 → Q (bmB X (tn x)) σ' μ' := fun g σ' μ' R' k' => by
    have := hQ σ' μ' (by unfold bmX; rw [itp_pos g]; exact R') k'
    unfold bmA at this; rw [itp_pos g] at this; exact this
  have c132 : bmG X x → (bmU X (tn x) ∨ fits 14 (ux X 8 0, false)) → ∀ σ' μ', RW σ' μ' (bmZ X (tn x)) → σ' 0 = 0 → wb_X6_bump_132 Q σ' μ' (nI (bmV X (tn x))) := fun g hf σ' μ' W' k' => by
    have h := yes g σ' μ' W'.1 k'
    unfold bmB at h
    rw [itp_pos hf] at h
    have w2 := W'.2
    cases hz : (bmZ X (tn x)).2 with
    | true =>
      rw [hz] at h w2
      exact ⟨fun z => absurd (w2.symm.trans z) (by decide), fun _ => h⟩
    | false =>
      rw [hz] at h w2
      refine ⟨fun _ => ?_, fun z => absurd w2 z⟩
      rw [i_p1]; exact h
  have c112 : bmG X x → ¬ bmU X (tn x) → ∀ σ' μ', RW σ' μ' (ux X 8 0, false) → σ' 0 = 0 → wb_X6_bump_112 Q σ' μ' x (nI (bmV X (tn x))) := fun g nu σ' μ' W' k' => by
    refine sm_makesRoom (m := 14) W' hZB hN h30 (by omega) (fun hf hz σ4 μ4 c L4 K4 => ⟨fun _ => ?_, fun z => absurd z (by decide)⟩) (fun hf hz σ4 μ4 W4 K4 => ⟨fun _ => ?_, fun z => absurd z (by decide)⟩) (fun hf σ4 μ4 W4 K4 => ⟨fun z => absurd rfl z, fun _ => ?_⟩) rfl
    · have ez : bmZ X (tn x) = lyZ (cB (tn x) (bmV X (tn x) + 1)) (mrZ 14 (ux X 8 0, false)) := by unfold bmZ; rw [itp_neg nu, itp_pos hf]
      have hf2 := mrZ_fr hZB h30 hf hz (by omega)
      have e1 : (ux X 8 0, false).1 1 = X 1 := show ux X 8 0 1 = X 1 from ux_n (by omega)
      rw [i_p1]
      refine sm_lyC L4 (mrZ_XB hZB h30) (mrZ_3 hZB h30) (by rw [e1] at hf2; omega) (by have := g.2.2.2; omega) (by omega) (fun σ5 μ5 W5 K5 => ?_) (tn_e x)
      exact c132 g (Or.inr hf) σ5 μ5 (by rw [ez]; exact W5) (by rw [K5.1, K4.1]; exact k')
    · have ez : bmZ X (tn x) = mrZ 14 (ux X 8 0, false) := by unfold bmZ lyZ; rw [itp_neg nu, itp_pos hf, lay_g _ _ hz]
      have h1 : σ4 1 = 1 := by have := W4.2; rw [hz] at this; exact this
      refine sg_laysCounter h1 (fun σ5 F5 g5 => ?_)
      refine c132 g (Or.inr hf) σ5 μ4 ⟨by rw [ez]; exact W4.1, by rw [ez, hz, g5]; rfl⟩ (by rw [F5 0 (by omega) (by omega) (by omega), K4.1]; exact k')
    · have ez : bmZ X (tn x) = (ux X 8 0, false) := by unfold bmZ; rw [itp_neg nu, itp_neg hf]
      have h := yes g σ4 μ4 (by rw [ez]; exact W4.1) (by rw [K4.1]; exact k')
      unfold bmB at h
      rw [itp_neg (fun c => c.elim nu hf)] at h
      exact h
  have c73 : wb_X6_bump_73 Q σ3 μ3 x y (nI (bmV X (tn x))) := by
    refine pk_lt (bmV X (tn x)) 16777215 (fun hv => ?_) (fun hv => no (fun c => by have := c.2.2.2; omega) σ3 μ3 R3 k3) rfl rfl
    have g : bmG X x := ⟨e, z10, ⟨a, b⟩, hv⟩
    refine sm_begins R3 (fun σ4 μ4 W4 S4 A4 => ?_)
    have k4 : σ4 0 = 0 := (S4 0 (by omega)).trans k3
    by_cases h0 : nwt X (X 3) (tn x) = 0
    · rw [ey, h0]
      exact ⟨fun _ => c112 g (fun u => u.1 h0) σ4 μ4 W4 k4, fun z => absurd (show nwI 0 < 0 by decide) z⟩
    · obtain ⟨hi, hk3, _, _⟩ := nwt_i hB h0
      have kd1 := kd_ct hB h0 a
      have hen := ent hB hi
      rw [ey, nwI_some h0]
      refine ⟨fun z => absurd z (nI_pos (by omega)), fun _ => ⟨pk_in _ 64 (by omega) rfl, ?_⟩⟩
      have e2 : μ4 2 (nI (nwt X (X 3) (tn x) - 1)).toNatClampNeg = nI (ps X (X 3) (nwt X (X 3) (tn x) - 1)) := by
        rw [nI_clamp (by omega), A4 2 (by omega)]
        exact (D3.1.2 _ hi).1
      have e3 : μ4 0 3 = nI (X 3) := by rw [W4.1 3 (by omega)]; show nI (ux X 8 0 3) = _; rw [ux_n (by omega)]
      rw [e2, e3]
      have h14 := hen.2.2.1 kd1
      refine sm_goesUp (p := bmP X (tn x)) W4 hZB (by omega) (by unfold bmP; omega) (fun hf σ5 μ5 W5 S5 A5 => ⟨fun _ => ?_, fun z => absurd z (by decide)⟩) (fun hf => ⟨fun z => absurd rfl z, fun _ => ?_⟩) (by rw [show (6 : Int32) = nI 6 from rfl, nI_add]; rfl)
      · have u : bmU X (tn x) := ⟨h0, hf⟩
        have ez : bmZ X (tn x) = guZ (ux X 8 0) (X 3) (bmP X (tn x)) (ux X 8 0, false) := by unfold bmZ; rw [itp_pos u]
        exact c132 g (Or.inl u) σ5 μ5 (by rw [ez]; exact W5) ((S5 0 (by omega)).trans k4)
      · exact c112 g (fun u => u.2 hf) σ4 μ4 W4 k4
  by_cases h0 : nwt X (X 3) (tn x) = 0
  · have ev : bmV X (tn x) = 0 := by unfold bmV; rw [if_pos h0]
    rw [ev] at c73
    refine ⟨fun z => ?_, fun _ => c73⟩
    rw [ey, h0] at z
    exact absurd z (by decide)
  · obtain ⟨hi, hk3, _, _⟩ := nwt_i hB h0
    have kd1 := kd_ct hB h0 a
    have ev : bmV X (tn x) = vlN X (X 3) (nwt X (X 3) (tn x) - 1) := by unfold bmV; rw [if_neg h0]
    refine ⟨fun _ => ?_, fun z => absurd (by rw [ey, nwI_some h0]; exact nI_pos' (by omega)) z⟩
    rw [R3 3 (by omega)]
    have := sm_valueOf (R3.rt (s := X 3) (by omega)) hB (by omega) D3.1 hi hk3 (Q := fun r69 σ69 μ69 => wb_X6_bump_73 Q σ69 μ69 x y (r69).toInt32) (by
      have el : ln X (X 3) (nwt X (X 3) (tn x) - 1) = 3 := by unfold ln; rw [if_pos kd1]
      unfold vlL
      rw [if_neg (by omega), ← ev, l2i _ vlt]
      exact c73)
    rw [ey, nwI_some h0] at this ⊢
    exact this
theorem bmZ_XB (hB : XB N X) (h3 : X 3 < X 0) (t : Nat) : XB (N + 2) (bmZ X t).1 := by
  unfold bmZ itp
  split
  · exact (wr_XB (x8_XB hB)).mono (by omega)
  · split
    · exact lyZ_XB (mrZ_XB (x8_XB hB) (x8_3 h3))
    · exact (x8_XB hB).mono (by omega)
theorem lyZ_3 {l : List Nat} {Z : Zt} (h3 : Z.1 3 < Z.1 0) : (lyZ l Z).1 3 < (lyZ l Z).1 0 := by
  unfold lyZ; rw [lay_far fq3, lay_far fq0]; exact h3
theorem bmX_I {x : Int32} (hI : IX N X) : IX (N + 2) (bmX X x) := by
  have hB := hI.1
  have h3 := hI.2.1
  unfold bmX itp
  split
  · refine ⟨bmZ_XB hB h3 _, ?_, dn_C hI.2.2 hB ?_⟩
    · unfold bmZ itp
      split
      · unfold guZ; rw [wr_far fq3, wr_far fq0]; exact x8_3 h3
      · split
        · exact lyZ_3 (mrZ_3 (x8_XB hB) (x8_3 h3))
        · exact x8_3 h3
    · refine dn_tr (dn_ux (k := 8) (v := 0) (by omega)) ?_
      unfold bmZ itp
      split
      · exact dn_wr (Z := (ux X 8 0, false))
      · split
        · exact dn_tr (dn_mrZ (Z := (ux X 8 0, false))) (dn_lay _ _)
        · exact dn_rf
  · exact hI.mono (by omega)
end MP
