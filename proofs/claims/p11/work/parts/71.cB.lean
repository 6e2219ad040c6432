/-! theirs: erase, ready, which sector -/
def isEnd (X : Nat → Nat) (s n : Nat) : Prop := n ≤ X 1 ∧ blnk X s n ∧ (n ≠ 0 → bt X s (n - 1) ≠ 255)
section CB
variable {σ : Rg} {μ : Ar} {X : Nat → Nat} {N k : Nat}
theorem goX_9e {s v q : Nat} (hq : q ≠ 36 + s) (hs : s < 6) : goX (ux X (36 + s) v) q = goX X q := by
  unfold goX
  rw [ux_n (show 4 ≠ 36 + s by omega), ux_n (show 8 ≠ 36 + s by omega), ux_n (show 6 ≠ 36 + s by omega)]
  split
  · by_cases q8 : q = 8
    · rw [q8, ux_s, ux_s]
    · rw [ux_n q8, ux_n q8, ux_n hq]
  · split
    · by_cases q10 : q = 10
      · rw [q10, ux_s, ux_s]
      · by_cases q2 : q = 2
        · rw [q2, ux_n (by omega), ux_s, ux_n (by omega), ux_s]
        · by_cases q6 : q = 6
          · rw [q6, ux_n (by omega), ux_n (by omega), ux_s, ux_n (by omega), ux_n (by omega), ux_s]
          · by_cases q4 : q = 4
            · rw [q4, ux_n (by omega), ux_n (by omega), ux_n (by omega), ux_s, ux_n (by omega), ux_n (by omega), ux_n (by omega), ux_s]
            · rw [ux_n q10, ux_n q2, ux_n q6, ux_n q4, ux_n q10, ux_n q2, ux_n q6, ux_n q4]
              by_cases q8 : q = 8
              · rw [q8, ux_s, ux_s]
              · rw [ux_n q8, ux_n q8, ux_n hq]
    · by_cases q4 : q = 4
      · rw [q4, ux_s, ux_s]
      · rw [ux_n q4, ux_n q4]
        by_cases q8 : q = 8
        · rw [q8, ux_s, ux_s]
        · rw [ux_n q8, ux_n q8, ux_n hq]
theorem sc_erase {Z : Zt} (hZ : RZ k σ μ Z) (hB : XB N Z.1) {s : Nat} (hs : s < Z.1 0) {Q : Rg → Ar → Prop} (hQ : ∀ σ' μ', RZ k σ' μ' (er s Z) → FD σ μ σ' μ' → Q σ' μ') {x : Int32} (hx : x = nI s) : wp_X1_erase σ μ x Q := by
  subst hx
  obtain ⟨⟨hS, hb⟩, h6, h7⟩ := hZ
  have b6 := hB.2.1
  have b1 := hB.2.2.2.1
  cases hz : Z.2 with
  | true =>
    rw [hz] at h7
    refine ⟨fun _ => ?_, fun z => absurd h7 z⟩
    have e : er s Z = Z := by unfold er; rw [if_pos hz]
    rw [e] at hQ
    exact hQ σ μ ⟨⟨hS, hb⟩, h6, by rw [hz]; exact h7⟩ FD.rf
  | false =>
    refine ⟨fun z => absurd z (s7_ne h7 hz), fun _ => ?_⟩
    rw [hz] at h7
    refine sc_hasSector hS.1 b6 (fun _ => ⟨fun _ => ?_, fun z => absurd z (by decide)⟩) (fun g => absurd (by rw [tn_nI (by omega)]; exact hs) g)
    have g0 : goX Z.1 0 = Z.1 0 := goX_far (by omega) (by omega) (by omega) (by omega) (by omega)
    have g1 : goX Z.1 1 = Z.1 1 := goX_far (by omega) (by omega) (by omega) (by omega) (by omega)
    have eer : er s Z = ((fun q => if 42 + 128 * s ≤ q ∧ q < 42 + 128 * s + erm Z.1 then 255 else goX (ux Z.1 (36 + s) (Z.1 (36 + s) + 1)) q), decide (Z.1 4 = 1)) := by
      unfold er; rw [if_neg (by rw [hz]; decide)]
    have lo : ∀ q, q < 42 → q ≠ 36 + s → (er s Z).1 q = goX Z.1 q := fun q q42 qs => by
      rw [eer]; show (if _ then _ else _) = _; rw [if_neg (by omega), goX_9e qs (by omega)]
    have l36 : (er s Z).1 (36 + s) = Z.1 (36 + s) + 1 := by
      rw [eer]; show (if _ then _ else _) = _; rw [if_neg (by omega), goX_far (by omega) (by omega) (by omega) (by omega) (by omega), ux_s]
    have w0 : (er s Z).1 0 = Z.1 0 := by rw [lo 0 (by omega) (by omega), g0]
    have w1 : (er s Z).1 1 = Z.1 1 := by rw [lo 1 (by omega) (by omega), g1]
    have hem : erm Z.1 ≤ Z.1 1 := by unfold erm; split <;> omega
    have fin : ∀ (σ1 : Rg), RCs σ1 (goX Z.1) → σ1 6 = nI (k + goX Z.1 8) → σ1 7 = (if decide (Z.1 4 = 1) = true then 0 else 1) → FDs σ σ1 → wb_X1_erase_36 Q σ1 μ (nI s) (nI (erm Z.1)) := by
      intro σ1 S1 k6 k7 F1
      have e4 : σ1 4 = nI (Z.1 1) := by rw [S1.2.1, g1]
      have key : ∀ d j, j + d = erm Z.1 → ∀ μ1, (∀ s' p', s' < Z.1 0 → p' < Z.1 1 → μ1 0 (s' * Z.1 1 + p') = nI (if s' = s ∧ p' < j then 255 else bt Z.1 s' p')) → (∀ q, q ≠ 0 → μ1 q = μ q) → wl_X1_erase_39 Q (d + 1) σ1 μ1 (nI s) (nI (erm Z.1)) (nI j) := by
        intro d
        induction d with
        | zero =>
          intro j hj μ1 C1 A1
          have e : j = erm Z.1 := by omega
          subst e
          refine pk_le (erm Z.1) (erm Z.1) (fun _ => ⟨pk_in s 6 (by omega) rfl, pk_in s 6 (by omega) rfl, fun μ2 e2 => ?_⟩) (fun z => absurd z (by omega)) rfl rfl
          rw [nI_clamp (by omega), A1 1 (by omega), hb.2 s hs, i_p1] at e2
          obtain ⟨a3, a4, a5, a8, a9, a10⟩ := S1
          refine hQ σ1 μ2 ⟨⟨⟨?_, ?_, ?_, ?_, ?_, ?_⟩, ⟨fun s' p' hs' hp' => ?_, fun s' hs' => ?_⟩⟩, ?_, ?_⟩ ⟨F1, fun q hq => by rw [e2, ua_n (by omega)]; exact A1 q (by omega)⟩
          · rw [lo 0 (by omega) (by omega)]; exact a3
          · rw [lo 1 (by omega) (by omega)]; exact a4
          · rw [lo 9 (by omega) (by omega)]; exact a5
          · rw [lo 4 (by omega) (by omega)]; exact a8
          · rw [lo 5 (by omega) (by omega)]; exact a9
          · rw [lo 6 (by omega) (by omega)]; exact a10
          · rw [w0] at hs'
            rw [w1] at hp' ⊢
            rw [e2, ua_n (by omega), C1 s' p' hs' hp', eer]
            show _ = nI (if 42 + 128 * s ≤ 42 + 128 * s' + p' ∧ 42 + 128 * s' + p' < 42 + 128 * s + erm Z.1 then 255 else _)
            by_cases g : s' = s ∧ p' < erm Z.1
            · rw [if_pos g, if_pos (by omega)]
            · rw [if_neg g, if_neg (by omega), goX_far (by omega) (by omega) (by omega) (by omega) (by omega), ux_n (by omega)]
              rfl
          · rw [w0] at hs'
            rw [e2, ua_s]
            by_cases g : s' = s
            · subst g; rw [up_s, l36]
            · rw [up_n g, hb.2 s' hs', lo (36 + s') (by omega) (by omega), goX_far (by omega) (by omega) (by omega) (by omega) (by omega)]
          · rw [k6, lo 8 (by omega) (by omega)]
          · rw [k7, eer]
        | succ d ih =>
          intro j hj μ1 C1 A1
          have hl := ad_lt (p := j) hs (show j < Z.1 1 by omega) b6 b1
          refine pk_le (erm Z.1) j (fun z => absurd z (by omega)) (fun _ => ⟨pk_in _ 768 hl (adI e4), fun μ2 e2 y ey => ?_⟩) rfl rfl
          rw [adI e4, nI_clamp (by omega)] at e2
          rw [ey, i_p1]
          refine ih (j + 1) (by omega) μ2 (fun s' p' hs' hp' => ?_) (fun q hq => by rw [e2, ua_n hq]; exact A1 q hq)
          rw [e2, ua_s]
          by_cases g : s' = s ∧ p' = j
          · obtain ⟨ga, gb⟩ := g
            subst ga gb
            rw [up_s, if_pos (by omega)]; rfl
          · rw [up_n (fun c => g (ad_inj hp' (by omega) c)), C1 s' p' hs' hp']
            by_cases g2 : s' = s ∧ p' < j
            · rw [if_pos g2, if_pos (by omega)]
            · rw [if_neg g2, if_neg (by omega)]
      exact ⟨erm Z.1 + 1, key (erm Z.1) 0 (by omega) μ (fun s' p' hs' hp' => by rw [if_neg (by omega)]; exact hb.1 s' p' hs' hp') (fun _ _ => rfl)⟩
    refine sc_endures hS h6 hB.2.2.2.2.2.1 (fun z σ1 S1 k6 k7 F1 => ⟨fun z2 => absurd z2 (by decide), fun _ => ?_⟩) (fun z σ1 S1 k6 k7 F1 => ⟨fun _ => ?_, fun z2 => absurd rfl z2⟩)
    · have := fin σ1 S1 k6 (by rw [k7, h7, decide_eq_false z]) F1
      rw [show erm Z.1 = Z.1 1 by unfold erm; rw [if_neg z]] at this
      rw [S1.2.1, g1]; exact this
    · have := fin σ1 S1 k6 (by rw [k7, decide_eq_true z]; rfl) F1
      rw [show erm Z.1 = Z.1 1 / 2 by unfold erm; rw [if_pos z]] at this
      rw [S1.2.1, g1, show (2 : Int32) = nI 2 from rfl, pk_div (by omega) (by omega) (by omega)]; exact this
theorem wr_01 {s p v : Nat} {Z : Zt} : (wr s p v Z).1 0 = Z.1 0 ∧ (wr s p v Z).1 1 = Z.1 1 := ⟨wr_far fq0, wr_far fq1⟩
theorem sc_makeReady {Z : Zt} (hZ : RZ k σ μ Z) (hB : XB N Z.1) {s n : Nat} (hs : s < Z.1 0) (hn : n < 65536) {Q : Rg → Ar → Prop} (hQ : ∀ σ' μ', RZ k σ' μ' (mkr s n Z) → FD σ μ σ' μ' → Q σ' μ') {x y : Int32} (hx : x = nI s) (hy : y = nI n) : wp_X1_makeReady σ μ x y Q := by
  subst hx hy
  have b1 := hB.2.2.1
  intro y5 e5 y11 e11
  have h5 : y5 = nI (n / 256) := by rw [e5]; exact pk_div (d := 256) (by omega) (by omega) (by omega)
  have h11 : y11 = nI (n % 256) := by rw [e11]; exact i_rem n 256 (by omega) (by omega) (by omega) rfl rfl
  rw [h5, h11]
  refine sc_write hZ hB hs (p := 1) (by omega) (fun σ1 μ1 Z1 F1 => ?_) rfl rfl rfl
  refine sc_write Z1 (wr_XB hB) (s := s) (p := 2) (by rw [wr_01.1]; exact hs) (by rw [wr_01.2]; omega) (fun σ2 μ2 Z2 F2 => ?_) rfl rfl rfl
  rw [nI_add]
  refine sc_check (by omega) ?_
  refine sc_write Z2 (wr_XB (wr_XB hB)) (s := s) (p := 3) (by rw [wr_01.1, wr_01.1]; exact hs) (by rw [wr_01.2, wr_01.2]; omega) (fun σ3 μ3 Z3 F3 => ?_) rfl rfl rfl
  refine sc_write Z3 (wr_XB (wr_XB (wr_XB hB))) (s := s) (p := 0) (v := 127) (by rw [wr_01.1, wr_01.1, wr_01.1]; exact hs) (by rw [wr_01.2, wr_01.2, wr_01.2]; omega) (fun σ4 μ4 Z4 F4 => ?_) rfl rfl rfl
  exact hQ σ4 μ4 Z4 (F1.tr (F2.tr (F3.tr F4)))
theorem sc_usedEnd (hS : RCs σ X) (hb : RCb μ X) (hB : XB N X) {s : Nat} (hs : s < X 0) {Q : Int32 → Rg → Ar → Prop} (hQ : ∀ n, isEnd X s n → Q (nI n) σ μ) {x : Int32} (hx : x = nI s) : wp_X1_usedEnd σ μ x Q := by
  subst hx
  have b6 := hB.2.1
  have b1 := hB.2.2.2.1
  refine sc_hasSector hS.1 b6 (fun _ => ⟨fun _ y ey => ⟨X 1 + 1, ?_⟩, fun z => absurd z (by decide)⟩) (fun g => absurd (by rw [tn_nI (by omega)]; exact hs) g)
  rw [ey, hS.2.1]
  have key : ∀ n, n ≤ X 1 → blnk X s n → wl_X1_usedEnd_15 Q (n + 1) σ μ (nI s) (nI n) := by
    intro n
    induction n with
    | zero =>
      intro _ hb0
      exact ⟨fun _ => hQ 0 ⟨by omega, hb0, fun c => absurd rfl c⟩, fun z => absurd (show nI 0 ≤ 0 by decide) z⟩
    | succ n ih =>
      intro hn hb1
      have hl := ad_lt (p := n) hs (show n < X 1 by omega) b6 b1
      have ea : ((nI s * σ 4) + nI (n + 1)) - (1 : Int32) = nI (s * X 1 + n) := by
        rw [adI hS.2.1, ← Nat.add_assoc, nI_pred]
      refine pk_le (n + 1) 0 (fun z => absurd z (by omega)) (fun _ => ⟨pk_in _ 768 hl ea, ?_⟩) rfl rfl
      rw [ea, nI_clamp (by omega), hb.1 s n hs (by omega)]
      have hbt := hB.b (s := s) (p := n) (by omega) (by omega)
      refine And.comm.mp (pk_eq (bt X s n) 255 (fun z y ey => ?_) (fun z => hQ (n + 1) ⟨hn, hb1, fun _ => z⟩) rfl rfl)
      have en : y = nI n := by rw [ey, ← Int32.sub_eq_add_neg, nI_pred]
      rw [en]
      exact ih (by omega) (blnk_step z hb1)
  exact key (X 1) (Nat.le_refl _) (blnk_stop (Nat.le_refl _))
theorem end_bl {s n p : Nat} (h : isEnd X s n) : blnk X s p ↔ n ≤ p := by
  constructor
  · intro g
    refine Nat.not_lt.mp (fun c => ?_)
    have := h.2.2 (by omega)
    exact this (g (n - 1) (by omega) (by have := h.1; omega))
  · intro g q h1 h2
    exact h.2.1 q (by omega) h2
theorem sc_isBlank (hS : RCs σ X) (hb : RCb μ X) (hB : XB N X) {s : Nat} (hs : s < X 0) {Q : Int32 → Rg → Ar → Prop} (h1 : blnk X s 0 → Q 1 σ μ) (h0 : ¬ blnk X s 0 → Q 0 σ μ) {x : Int32} (hx : x = nI s) : wp_X1_isBlank σ μ x Q := by
  have b1 := hB.2.2.2.1
  refine sc_usedEnd hS hb hB hs (fun n hn => ?_) hx
  have hn1 := hn.1
  refine And.comm.mp (pk_eq n 0 (fun z => ⟨bz1, h1 ((end_bl hn).mpr (by omega))⟩) (fun z => ⟨bz0, h0 (fun c => z (by have := (end_bl hn).mp c; omega))⟩) rfl rfl)
theorem eo_01 {u q : Nat} {Z : Zt} (h : fq q) (j : Nat) : (eoN u j Z).1 q = Z.1 q := eoN_far h j
theorem sc_eraseAllBut {Z : Zt} (hZ : RZ k σ μ Z) (hB : XB N Z.1) {x : Int32} {u : Nat} (hu : ∀ j, j < 6 → (nI j = x ↔ j = u)) {Q : Rg → Ar → Prop} (hQ : ∀ σ' μ', RZ k σ' μ' (eoN u (Z.1 0) Z) → FD σ μ σ' μ' → Q σ' μ') : wp_X1_eraseAllBut σ μ x Q := by
  have b6 := hB.2.1
  have key : ∀ d j, j + d = Z.1 0 → ∀ σ1 μ1, RZ k σ1 μ1 (eoN u j Z) → FD σ μ σ1 μ1 → wl_X1_eraseAllBut_2 Q (d + 1) σ1 μ1 x (nI j) := by
    intro d
    induction d with
    | zero =>
      intro j hj σ1 μ1 Z1 F1
      have e : j = Z.1 0 := by omega
      subst e
      exact pk_le (Z.1 0) (Z.1 0) (fun _ => hQ σ1 μ1 Z1 F1) (fun z => absurd z (by omega)) (by rw [Z1.1.1.1, eoN_far fq0]) rfl
    | succ d ih =>
      intro j hj σ1 μ1 Z1 F1
      have hBj := eoN_XB (u := u) hB j (by omega)
      have h0 : (eoN u j Z).1 0 = Z.1 0 := eoN_far fq0 j
      refine pk_le (Z.1 0) j (fun z => absurd z (by omega)) (fun _ => ?_) (by rw [Z1.1.1.1, h0]) rfl
      have st : ∀ σ2 μ2, RZ k σ2 μ2 (eoN u (j + 1) Z) → FD σ μ σ2 μ2 → wb_X1_eraseAllBut_28 Q (wl_X1_eraseAllBut_2 Q (d + 1)) σ2 μ2 x (nI j) := fun σ2 μ2 Z2 F2 y ey => by
        rw [ey, i_p1]; exact ih (j + 1) (by omega) σ2 μ2 Z2 F2
      have ep : (j = u ∨ blnk (eoN u j Z).1 j 0) → eoN u (j + 1) Z = eoN u j Z := fun g => itp_pos g
      refine ⟨fun z => st σ1 μ1 (by rw [ep (Or.inl ((hu j (by omega)).mp z))]; exact Z1) F1, fun z => ?_⟩
      have hne : j ≠ u := fun g => z ((hu j (by omega)).mpr g)
      refine sc_isBlank Z1.1.1 Z1.1.2 hBj (s := j) (by rw [h0]; omega) (fun g => ⟨fun _ => st σ1 μ1 (by rw [ep (Or.inr g)]; exact Z1) F1, fun z => absurd z (by decide)⟩) (fun g => ⟨fun z => absurd rfl z, fun _ => ?_⟩) rfl
      refine sc_erase Z1 hBj (s := j) (by rw [h0]; omega) (fun σ2 μ2 Z2 F2 => st σ2 μ2 ?_ (F1.tr F2)) rfl
      rw [show eoN u (j + 1) Z = er j (eoN u j Z) from itp_neg (fun c => c.elim hne g)]
      exact Z2
  exact ⟨Z.1 0 + 1, key (Z.1 0) 0 (by omega) σ μ hZ FD.rf⟩
theorem sc_isActive (hS : RCs σ X) (hb : RCb μ X) (hB : XB N X) {s : Nat} (hs : s < X 0) {Q : Int32 → Rg → Ar → Prop} (h1 : hd63 X s → Q 1 σ μ) (h0 : ¬ hd63 X s → Q 0 σ μ) {x : Int32} (hx : x = nI s) : wp_X1_isActive σ μ x Q := by
  have b6 := hB.2.1
  have b128 := hB.2.2.2.1
  have b1 := hB.2.2.1
  have c0 := hB.b (s := s) (p := 0) (by omega) (by omega)
  have c1 := hB.b (s := s) (p := 1) (by omega) (by omega)
  have c2 := hB.b (s := s) (p := 2) (by omega) (by omega)
  have c3 := hB.b (s := s) (p := 3) (by omega) (by omega)
  refine sc_peek hS hb b6 b128 hs (p := 1) (by omega) (sc_peek hS hb b6 b128 hs (p := 2) (by omega) (fun y ey => ?_) hx rfl) hx rfl
  rw [ey, nI_add]
  refine sc_peek hS hb b6 b128 hs (p := 0) (by omega) (And.comm.mp (pk_eq (bt X s 0) 63 (fun z => ?_) (fun z => ⟨bz0, h0 (fun c => z c.1)⟩) rfl rfl)) hx rfl
  refine sc_peek hS hb b6 b128 hs (p := 3) (by omega) (sc_check (by omega) (And.comm.mp (pk_eq (bt X s 3) ((bt X s 1 + bt X s 2 + 85) % 251) (fun z2 => ⟨bz1, h1 ⟨z, z2.symm⟩⟩) (fun z2 => ⟨bz0, h0 (fun c => z2 c.2.symm)⟩) rfl rfl))) hx rfl
theorem nwI_m1 {n : Nat} (h : n ≤ 64) : nwI n = -1 ↔ n = 0 := by
  constructor
  · intro g
    refine Classical.byContradiction (fun c => ?_)
    rw [nwI_some c] at g
    exact absurd (by rw [g]; decide) (nI_pos (n := n - 1) (by omega))
  · intro g; rw [g]; rfl
theorem sc_greatestActive (hS : RCs σ X) (hb : RCb μ X) (hB : XB N X) {Q : Int32 → Rg → Ar → Prop} (hQ : Q (nwI (fdN X (X 0))) σ μ) : wp_X1_greatestActive σ μ Q := by
  have b6 := hB.2.1
  have key : ∀ d j, j + d = X 0 → wl_X1_greatestActive_4 Q (d + 1) σ μ (nwI (fdN X j)) (nI j) := by
    intro d
    induction d with
    | zero =>
      intro j hj
      have e : j = X 0 := by omega
      rw [e]
      exact pk_le (X 0) (X 0) (fun _ => hQ) (fun z => absurd z (by omega)) hS.1 rfl
    | succ d ih =>
      intro j hj
      refine pk_le (X 0) j (fun z => absurd z (by omega)) (fun _ => ?_) hS.1 rfl
      have hle := fdN_le X j
      have keep : fdN X (j + 1) = fdN X j → wb_X1_greatestActive_40 Q (wl_X1_greatestActive_4 Q (d + 1)) σ μ (nwI (fdN X j)) (nI j) := by
        intro e y ey
        rw [ey, i_p1, ← e]; exact ih (j + 1) (by omega)
      have take : fdN X (j + 1) = j + 1 → wb_X1_greatestActive_38 Q (wl_X1_greatestActive_4 Q (d + 1)) σ μ (nI j) := by
        intro e y ey
        rw [ey, i_p1]
        have := ih (j + 1) (by omega)
        rw [e] at this
        exact this
      have no : ¬ hd63 X j → fdN X (j + 1) = fdN X j := fun g => itp_neg g
      refine sc_isActive hS hb hB (s := j) (by omega) (fun yes => ⟨fun z => absurd z (by decide), fun _ => ?_⟩) (fun g => ⟨fun _ => keep (no g), fun z => absurd rfl z⟩) rfl
      have e1 : fdN X (j + 1) = if fdN X j = 0 then j + 1 else if nb X j ≤ nb X (fdN X j - 1) then fdN X j else j + 1 := itp_pos yes
      refine ⟨fun z => take ?_, fun z => ?_⟩
      · rw [e1, if_pos ((nwI_m1 (by omega)).mp z)]
      · have h0 : fdN X j ≠ 0 := fun g => z ((nwI_m1 (by omega)).mpr g)
        rw [if_neg h0] at e1
        rw [nwI_some h0] at keep ⊢
        have n1 := nb_le hB (s := j) (by omega)
        have n2 := nb_le hB (s := fdN X j - 1) (by omega)
        refine sc_numberOf hS hb hB (s := j) (by omega) (sc_numberOf hS hb hB (s := fdN X j - 1) (by omega) ?_ rfl) rfl
        exact pk_le _ _ (fun g => keep (by rw [e1, if_pos g])) (fun g => take (by rw [e1, if_neg (by omega)])) rfl rfl
  exact ⟨X 0 + 1, key (X 0) 0 (by omega)⟩
theorem sc_erasesOf (hS : RCs σ X) (hb : RCb μ X) (hB : XB N X) {s : Nat} (hs : s < X 0) {Q : Int32 → Rg → Ar → Prop} (hQ : Q (nI (X (36 + s))) σ μ) {x : Int32} (hx : x = nI s) : wp_X1_erasesOf σ μ x Q := by
  subst hx
  have b6 := hB.2.1
  refine sc_hasSector hS.1 b6 (fun _ => ⟨fun z => absurd z (by decide), fun _ => ⟨pk_in s 6 (by omega) rfl, ?_⟩⟩) (fun g => absurd (by rw [tn_nI (by omega)]; exact hs) g)
  rw [nI_clamp (by omega), hb.2 s hs]; exact hQ
theorem sc_leastErased (hS : RCs σ X) (hb : RCb μ X) (hB : XB N X) (hN : N < 2 ^ 30) {x : Int32} {u : Nat} (hu : ∀ j, j < 6 → (nI j = x ↔ j = u)) {Q : Int32 → Rg → Ar → Prop} (hQ : Q (nI (leN X u (X 0) - 1)) σ μ) : wp_X1_leastErased σ μ x Q := by
  have b0 := hB.1
  have b6 := hB.2.1
  have hn := hB.2.2.2.2.2.2.2.2.2
  have key : ∀ d j, j + d = X 0 → wl_X1_leastErased_4 Q (d + 1) σ μ x (nwI (leN X u j)) (nI j) := by
    intro d
    induction d with
    | zero =>
      intro j hj
      have e : j = X 0 := by omega
      rw [e]
      refine pk_le (X 0) (X 0) (fun _ => ?_) (fun z => absurd z (by omega)) hS.1 rfl
      rw [nwI_some (leN_pos X u _ b0)]; exact hQ
    | succ d ih =>
      intro j hj
      refine pk_le (X 0) j (fun z => absurd z (by omega)) (fun _ => ?_) hS.1 rfl
      have hle := leN_le X u j
      have keep : leN X u (j + 1) = leN X u j → wb_X1_leastErased_37 Q (wl_X1_leastErased_4 Q (d + 1)) σ μ x (nwI (leN X u j)) (nI j) := by
        intro e y ey
        rw [ey, i_p1, ← e]; exact ih (j + 1) (by omega)
      have take : leN X u (j + 1) = j + 1 → wb_X1_leastErased_35 Q (wl_X1_leastErased_4 Q (d + 1)) σ μ x (nI j) := by
        intro e y ey
        rw [ey, i_p1]
        have := ih (j + 1) (by omega)
        rw [e] at this
        exact this
      refine ⟨fun z => keep ?_, fun z => ?_⟩
      · show (if j = u then _ else _) = _
        rw [if_pos ((hu j (by omega)).mp z)]
      · have hne : j ≠ u := fun g => z ((hu j (by omega)).mpr g)
        have e1 : leN X u (j + 1) = if leN X u j = 0 then j + 1 else if X (36 + (leN X u j - 1)) ≤ X (36 + j) then leN X u j else j + 1 := by
          show (if j = u then _ else _) = _
          rw [if_neg hne]
        refine ⟨fun z => take ?_, fun z => ?_⟩
        · rw [e1, if_pos ((nwI_m1 (by omega)).mp z)]
        · have h0 : leN X u j ≠ 0 := fun g => z ((nwI_m1 (by omega)).mpr g)
          have h36 := hn (36 + j) (by omega) (by omega)
          have h37 := hn (36 + (leN X u j - 1)) (by omega) (by omega)
          rw [if_neg h0] at e1
          rw [nwI_some h0] at keep ⊢
          refine sc_erasesOf hS hb hB (s := j) (by omega) (sc_erasesOf hS hb hB (s := leN X u j - 1) (by omega) ?_ rfl) rfl
          exact pk_le _ _ (fun g => keep (by rw [e1, if_pos g])) (fun g => take (by rw [e1, if_neg (by omega)])) rfl rfl
  exact ⟨X 0 + 1, key (X 0) 0 (by omega)⟩
end CB
