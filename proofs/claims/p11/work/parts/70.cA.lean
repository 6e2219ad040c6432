/-! theirs: its chip -/
/-- their chip is X's -/
def RCs (σ : Rg) (X : Nat → Nat) : Prop := σ 3 = nI (X 0) ∧ σ 4 = nI (X 1) ∧ σ 5 = nI (X 9) ∧ σ 8 = nI (X 4) ∧ σ 9 = nI (X 5) ∧ σ 10 = nI (X 6)
def RCb (μ : Ar) (X : Nat → Nat) : Prop := (∀ s p, s < X 0 → p < X 1 → μ 0 (s * X 1 + p) = nI (bt X s p)) ∧ ∀ s, s < X 0 → μ 1 s = nI (X (36 + s))
/-- in the middle of a call; k: by how much theirs counts more doings -/
def RZ (k : Nat) (σ : Rg) (μ : Ar) (Z : Zt) : Prop := (RCs σ Z.1 ∧ RCb μ Z.1) ∧ σ 6 = nI (k + Z.1 8) ∧ σ 7 = (if Z.2 = true then 0 else 1)
def FDs (σ σ' : Rg) : Prop := ∀ k, k ≠ 5 → k ≠ 6 → k ≠ 7 → k ≠ 8 → k ≠ 10 → σ' k = σ k
def FDm (μ μ' : Ar) : Prop := ∀ k, 2 ≤ k → μ' k = μ k
def FD (σ : Rg) (μ : Ar) (σ' : Rg) (μ' : Ar) : Prop := FDs σ σ' ∧ FDm μ μ'
section CA
variable {σ : Rg} {μ : Ar} {X : Nat → Nat} {N k : Nat}
theorem FD.rf : FD σ μ σ μ := ⟨fun _ _ _ _ _ _ => rfl, fun _ _ => rfl⟩
theorem FD.tr {σ1 σ2 : Rg} {μ1 μ2 : Ar} (h : FD σ μ σ1 μ1) (h2 : FD σ1 μ1 σ2 μ2) : FD σ μ σ2 μ2 := ⟨fun q a b c d e => (h2.1 q a b c d e).trans (h.1 q a b c d e), fun q a => (h2.2 q a).trans (h.2 q a)⟩
theorem tn_neg {x : Int32} (h : x < 0) : 2 ^ 31 ≤ tn x := Nat.not_lt.mp (fun g => by rw [tn_e x] at h; exact nI_pos g h)
theorem tn_pos {x : Int32} (h : ¬ x < 0) : tn x < 2 ^ 31 := by
  obtain ⟨t, ht, et⟩ := nI_of h
  rw [et, tn_nI ht]; exact ht
theorem sc_win {lo hi : Nat} (hh : hi < 2 ^ 31) (hlo : lo < 2 ^ 31) {x xl xh : Int32} (el : xl = nI lo) (eh : xh = nI hi) {Q : Int32 → Prop} (h1 : lo ≤ tn x → tn x ≤ hi → Q 1) (h0 : ¬ (lo ≤ tn x ∧ tn x ≤ hi) → Q 0) : wp_X5_within x xl xh Q := sm_win hh hlo el eh h1 h0
theorem sc_check {a : Nat} (ha : a < 2 ^ 30) {Q : Int32 → Prop} (h : Q (nI ((a + 85) % 251))) : wp_X5_checkOf (nI a) Q := sm_check ha h
theorem sc_hasSector (h3 : σ 3 = nI (X 0)) (b6 : X 0 ≤ 6) {x : Int32} {Q : Int32 → Rg → Ar → Prop} (h1 : tn x < X 0 → Q 1 σ μ) (h0 : ¬ tn x < X 0 → Q 0 σ μ) : wp_X1_hasSector σ μ x Q := by
  refine ⟨fun z => ⟨bz0, h0 (by have := tn_neg z; omega)⟩, fun z => ?_⟩
  have := tn_pos z
  exact pk_le (X 0) (tn x) (fun g => ⟨bz0, h0 (by omega)⟩) (fun g => ⟨bz1, h1 g⟩) h3 (tn_e x)
theorem sc_holds (h3 : σ 3 = nI (X 0)) (h4 : σ 4 = nI (X 1)) (b6 : X 0 ≤ 6) (b1 : X 1 ≤ 128) {x y : Int32} {Q : Int32 → Rg → Ar → Prop} (h1 : tn x < X 0 → tn y < X 1 → Q 1 σ μ) (h0 : ¬ (tn x < X 0 ∧ tn y < X 1) → Q 0 σ μ) : wp_X1_holds σ μ x y Q := by
  refine ⟨fun z => ⟨bz0, h0 (by have := tn_neg z; omega)⟩, fun z => ?_⟩
  have := tn_pos z
  refine pk_le (X 0) (tn x) (fun g => ⟨bz0, h0 (by omega)⟩) (fun g => ⟨fun z2 => ⟨bz0, h0 (by have := tn_neg z2; omega)⟩, fun z2 => ?_⟩) h3 (tn_e x)
  have := tn_pos z2
  exact pk_le (X 1) (tn y) (fun g => ⟨bz0, h0 (by omega)⟩) (fun g2 => ⟨bz1, h1 g g2⟩) h4 (tn_e y)
theorem ad_lt {s p a b : Nat} (hs : s < a) (hp : p < b) (ha : a ≤ 6) (hb : b ≤ 128) : s * b + p < 768 := by
  have h1 : (s + 1) * b ≤ 6 * b := Nat.mul_le_mul_right _ (by omega)
  rw [Nat.succ_mul] at h1
  omega
theorem ad_inj {s p s' p' b : Nat} (hp : p < b) (hp' : p' < b) (h : s * b + p = s' * b + p') : s = s' ∧ p = p' := by
  have h1 : (s * b + p) / b = s := by rw [Nat.add_comm, Nat.add_mul_div_right _ _ (by omega), Nat.div_eq_of_lt hp]; omega
  have h2 : (s' * b + p') / b = s' := by rw [Nat.add_comm, Nat.add_mul_div_right _ _ (by omega), Nat.div_eq_of_lt hp']; omega
  have e : s = s' := by rw [← h1, h, h2]
  subst e
  exact ⟨rfl, by omega⟩
theorem adI {s p b : Nat} {x : Int32} (h : x = nI b) : (nI s * x) + nI p = nI (s * b + p) := by rw [h, pk_mul, nI_add]
theorem sc_peek (hs' : RCs σ X) (hb : RCb μ X) (b6 : X 0 ≤ 6) (b1 : X 1 ≤ 128) {s p : Nat} (hs : s < X 0) (hp : p < X 1) {Q : Int32 → Rg → Ar → Prop} (hQ : Q (nI (bt X s p)) σ μ) {x y : Int32} (hx : x = nI s) (hy : y = nI p) : wp_X1_peek σ μ x y Q := by
  subst hx hy
  have hl := ad_lt hs hp b6 b1
  refine sc_holds hs'.1 hs'.2.1 b6 b1 (fun _ _ => ⟨fun z => absurd z (by decide), fun _ => ⟨pk_in _ 768 hl (adI hs'.2.1), ?_⟩⟩) (fun g => absurd ⟨by rw [tn_nI (by omega)]; exact hs, by rw [tn_nI (by omega)]; exact hp⟩ g)
  rw [adI hs'.2.1, nI_clamp (by omega), hb.1 s p hs hp]
  exact hQ
theorem sc_numberOf (hs' : RCs σ X) (hb : RCb μ X) (hB : XB N X) {s : Nat} (hs : s < X 0) {Q : Int32 → Rg → Ar → Prop} (hQ : Q (nI (nb X s)) σ μ) {x : Int32} (hx : x = nI s) : wp_X1_numberOf σ μ x Q := by
  have b1 := hB.2.2.1
  refine sc_peek hs' hb hB.2.1 hB.2.2.2.1 hs (p := 1) (by omega) (sc_peek hs' hb hB.2.1 hB.2.2.2.1 hs (p := 2) (by omega) ?_ hx rfl) hx rfl
  rw [show (256 : Int32) = nI 256 from rfl, pk_mul, nI_add, Nat.mul_comm]; exact hQ
theorem go_4 {h : X 4 ≤ 9999} : goX X 4 = X 4 - 1 := goX_4
theorem goX_6 : goX X 6 = if X 4 = 1 then X 6 + 1 else X 6 := by
  unfold goX
  split
  · rw [ux_n (by omega), if_neg (by omega)]
  · split
    · rw [ux_n (by omega), ux_n (by omega), ux_s]
    · rw [ux_n (by omega), ux_n (by omega)]
theorem sc_endures (hs : RCs σ X) (h6 : σ 6 = nI (k + X 8)) (h4 : X 4 ≤ 9999) {Q : Int32 → Rg → Ar → Prop}
    (h1 : X 4 ≠ 1 → ∀ σ', RCs σ' (goX X) → σ' 6 = nI (k + goX X 8) → σ' 7 = σ 7 → FDs σ σ' → Q 1 σ' μ)
    (h0 : X 4 = 1 → ∀ σ', RCs σ' (goX X) → σ' 6 = nI (k + goX X 8) → σ' 7 = 0 → FDs σ σ' → Q 0 σ' μ) : wp_X1_endures σ μ Q := by
  obtain ⟨a3, a4, a5, a8, a9, a10⟩ := hs
  intro σ2 e2
  have e8 : σ2 8 = nI (X 4) := by rw [e2, up_n (by omega)]; exact a8
  have e6 : σ2 6 = nI (k + goX X 8) := by rw [e2, up_s, h6, i_p1, d8_go]; rfl
  rw [e8]
  have f0 : goX X 0 = X 0 := goX_far (by omega) (by omega) (by omega) (by omega) (by omega)
  have f1 : goX X 1 = X 1 := goX_far (by omega) (by omega) (by omega) (by omega) (by omega)
  have f9 : goX X 9 = X 9 := goX_far (by omega) (by omega) (by omega) (by omega) (by omega)
  have f5 : goX X 5 = X 5 := goX_far (by omega) (by omega) (by omega) (by omega) (by omega)
  refine And.comm.mp (pk_eq (X 4) 0 (fun z => ?_) (fun z σ3 e3 => ?_) rfl rfl)
  · refine h1 (by omega) σ2 ⟨?_, ?_, ?_, ?_, ?_, ?_⟩ e6 (by rw [e2, up_n (by omega)]) (fun q _ g6 _ _ _ => by rw [e2, up_n g6])
    · rw [e2, up_n (by omega), f0]; exact a3
    · rw [e2, up_n (by omega), f1]; exact a4
    · rw [e2, up_n (by omega), f9]; exact a5
    · rw [e8, goX_4, z]
    · rw [e2, up_n (by omega), f5]; exact a9
    · rw [e2, up_n (by omega), goX_6, if_neg (by omega)]; exact a10
  · have g8 : σ3 8 = nI (X 4 - 1) := by rw [e3, up_s, show (1 : Int32) = nI 1 from rfl, pk_sub (by omega)]
    rw [g8]
    refine pk_le (X 4 - 1) 0 (fun z1 σ4 e4 σ5 e5 => ?_) (fun z1 => ?_) rfl rfl
    · have o : X 4 = 1 := by omega
      refine h0 o σ5 ⟨?_, ?_, ?_, ?_, ?_, ?_⟩ ?_ ?_ (fun q _ q6 q7 q8 q10 => by rw [e5, up_n q10, e4, up_n q7, e3, up_n q8, e2, up_n q6])
      · rw [e5, up_n (by omega), e4, up_n (by omega), e3, up_n (by omega), e2, up_n (by omega), f0]; exact a3
      · rw [e5, up_n (by omega), e4, up_n (by omega), e3, up_n (by omega), e2, up_n (by omega), f1]; exact a4
      · rw [e5, up_n (by omega), e4, up_n (by omega), e3, up_n (by omega), e2, up_n (by omega), f9]; exact a5
      · rw [e5, up_n (by omega), e4, up_n (by omega), g8, goX_4]
      · rw [e5, up_n (by omega), e4, up_n (by omega), e3, up_n (by omega), e2, up_n (by omega), f5]; exact a9
      · rw [e5, up_s, e4, up_n (by omega), e3, up_n (by omega), e2, up_n (by omega), a10, i_p1, goX_6, if_pos o]
      · rw [e5, up_n (by omega), e4, up_n (by omega), e3, up_n (by omega)]; exact e6
      · rw [e5, up_n (by omega), e4, up_s]
    · refine h1 (by omega) σ3 ⟨?_, ?_, ?_, ?_, ?_, ?_⟩ ?_ ?_ (fun q _ q6 q7 q8 q10 => by rw [e3, up_n q8, e2, up_n q6])
      · rw [e3, up_n (by omega), e2, up_n (by omega), f0]; exact a3
      · rw [e3, up_n (by omega), e2, up_n (by omega), f1]; exact a4
      · rw [e3, up_n (by omega), e2, up_n (by omega), f9]; exact a5
      · rw [g8, goX_4]
      · rw [e3, up_n (by omega), e2, up_n (by omega), f5]; exact a9
      · rw [e3, up_n (by omega), e2, up_n (by omega), goX_6, if_neg (by omega)]; exact a10
      · rw [e3, up_n (by omega)]; exact e6
      · rw [e3, up_n (by omega), e2, up_n (by omega)]
theorem s7_ne {σ : Rg} {z : Bool} (h : σ 7 = (if z = true then 0 else 1)) (hz : z = false) : ¬ σ 7 = 0 := by rw [h, hz]; decide
theorem sc_write {Z : Zt} (hZ : RZ k σ μ Z) (hB : XB N Z.1) {s p v : Nat} (hs : s < Z.1 0) (hp : p < Z.1 1) {Q : Rg → Ar → Prop} (hQ : ∀ σ' μ', RZ k σ' μ' (wr s p v Z) → FD σ μ σ' μ' → Q σ' μ') {x y w : Int32} (hx : x = nI s) (hy : y = nI p) (hw : w = nI v) : wp_X1_write σ μ x y w Q := by
  subst hx hy hw
  obtain ⟨⟨hS, hb⟩, h6, h7⟩ := hZ
  have b6 := hB.2.1
  have b1 := hB.2.2.2.1
  have hl := ad_lt hs hp b6 b1
  cases hz : Z.2 with
  | true =>
    rw [hz] at h7
    refine ⟨fun _ => ?_, fun z => absurd h7 z⟩
    have e : wr s p v Z = Z := by unfold wr; rw [if_pos hz]
    rw [e] at hQ
    exact hQ σ μ ⟨⟨hS, hb⟩, h6, by rw [hz]; exact h7⟩ FD.rf
  | false =>
    refine ⟨fun z => absurd z (s7_ne h7 hz), fun _ => ?_⟩
    rw [hz] at h7
    refine sc_holds hS.1 hS.2.1 b6 b1 (fun _ _ => ⟨fun _ => ?_, fun z => absurd z (by decide)⟩) (fun g => absurd ⟨by rw [tn_nI (by omega)]; exact hs, by rw [tn_nI (by omega)]; exact hp⟩ g)
    have g0 : goX Z.1 0 = Z.1 0 := goX_far (by omega) (by omega) (by omega) (by omega) (by omega)
    have g1 : goX Z.1 1 = Z.1 1 := goX_far (by omega) (by omega) (by omega) (by omega) (by omega)
    -- the byte is written
    have fin : ∀ (σ1 : Rg) (w : Int32) (m : Nat), RCs σ1 (goX Z.1) → σ1 6 = nI (k + goX Z.1 8) → σ1 7 = (if decide (Z.1 4 = 1) = true then 0 else 1) → FDs σ σ1 → (nI v ||| ((255 : Int32) ^^^ w)) = nI m → m = (if Z.1 4 = 1 then v ||| (255 ^^^ Z.1 5) else v) → wb_X1_write_34 Q σ1 μ (nI s) (nI p) (nI v) w := by
      intro σ1 w m S1 k6 k7 F1 ew em
      have e4 : σ1 4 = nI (Z.1 1) := by rw [S1.2.1, g1]
      refine ⟨pk_in _ 768 hl (adI e4), pk_in _ 768 hl (adI e4), fun μ2 e2 σ2 e3 => ?_⟩
      rw [adI e4, nI_clamp (by omega), hb.1 s p hs hp, ew, i_and] at e2
      have ewr : wr s p v Z = (ux (goX (ux Z.1 9 (Z.1 9 + 1))) (42 + 128 * s + p) (bt Z.1 s p &&& m), decide (Z.1 4 = 1)) := by
        unfold wr; rw [if_neg (by rw [hz]; decide), em]
      have gq : ∀ q, q ≠ 9 → goX (ux Z.1 9 (Z.1 9 + 1)) q = goX Z.1 q := by
        intro q hq
        unfold goX
        rw [ux_n (show 4 ≠ 9 by omega), ux_n (show 8 ≠ 9 by omega), ux_n (show 6 ≠ 9 by omega)]
        split
        · by_cases q8 : q = 8
          · rw [q8, ux_s, ux_s]
          · rw [ux_n q8, ux_n q8, ux_n hq]
        · split
          · by_cases q10 : q = 10
            · rw [q10, ux_s, ux_s]
            · by_cases q2 : q = 2
              · rw [q2, ux_n (by omega), ux_s, ux_n (by omega), ux_s]
              · by_cases q6 : q = 6
                · rw [q6, ux_n (by omega), ux_n (by omega), ux_s, ux_n (by omega), ux_n (by omega), ux_s]
                · by_cases q4 : q = 4
                  · rw [q4, ux_n (by omega), ux_n (by omega), ux_n (by omega), ux_s, ux_n (by omega), ux_n (by omega), ux_n (by omega), ux_s]
                  · rw [ux_n q10, ux_n q2, ux_n q6, ux_n q4, ux_n q10, ux_n q2, ux_n q6, ux_n q4]
                    by_cases q8 : q = 8
                    · rw [q8, ux_s, ux_s]
                    · rw [ux_n q8, ux_n q8, ux_n hq]
          · by_cases q4 : q = 4
            · rw [q4, ux_s, ux_s]
            · rw [ux_n q4, ux_n q4]
              by_cases q8 : q = 8
              · rw [q8, ux_s, ux_s]
              · rw [ux_n q8, ux_n q8, ux_n hq]
      have lo : ∀ q, q < 42 → q ≠ 9 → (wr s p v Z).1 q = goX Z.1 q := fun q q42 q9 => by
        rw [ewr]; show ux _ _ _ q = _; rw [ux_n (by omega), gq q q9]
      have l9 : (wr s p v Z).1 9 = Z.1 9 + 1 := by
        rw [ewr]; show ux _ _ _ 9 = _; rw [ux_n (by omega), goX_far (by omega) (by omega) (by omega) (by omega) (by omega), ux_s]
      have w0 : (wr s p v Z).1 0 = Z.1 0 := by rw [lo 0 (by omega) (by omega), g0]
      have w1 : (wr s p v Z).1 1 = Z.1 1 := by rw [lo 1 (by omega) (by omega), g1]
      obtain ⟨a3, a4, a5, a8, a9, a10⟩ := S1
      refine hQ σ2 μ2 ⟨⟨⟨?_, ?_, ?_, ?_, ?_, ?_⟩, ⟨fun s' p' hs' hp' => ?_, fun s' hs' => ?_⟩⟩, ?_, ?_⟩ ⟨fun q q5 q6 q7 q8 q10 => by rw [e3, up_n q5]; exact F1 q q5 q6 q7 q8 q10, fun q hq => by rw [e2, ua_n (by omega)]⟩
      · rw [e3, up_n (by omega), lo 0 (by omega) (by omega)]; exact a3
      · rw [e3, up_n (by omega), lo 1 (by omega) (by omega)]; exact a4
      · rw [e3, up_s, a5, goX_far (by omega) (by omega) (by omega) (by omega) (by omega), i_p1, l9]
      · rw [e3, up_n (by omega), lo 4 (by omega) (by omega)]; exact a8
      · rw [e3, up_n (by omega), lo 5 (by omega) (by omega)]; exact a9
      · rw [e3, up_n (by omega), lo 6 (by omega) (by omega)]; exact a10
      · rw [w0] at hs'
        rw [w1] at hp' ⊢
        rw [e2, ua_s]
        by_cases g : s' = s ∧ p' = p
        · obtain ⟨g1, g2⟩ := g
          subst g1 g2
          rw [up_s, ewr]
          show _ = nI (ux _ _ _ (42 + 128 * s' + p'))
          rw [ux_s]
        · rw [up_n (fun c => g (ad_inj hp' hp c)), hb.1 s' p' hs' hp', ewr]
          show _ = nI (ux _ _ _ (42 + 128 * s' + p'))
          rw [ux_n (by omega), goX_far (by omega) (by omega) (by omega) (by omega) (by omega), ux_n (by omega)]
          rfl
      · rw [w0] at hs'
        rw [e2, ua_n (by omega), hb.2 s' hs', lo (36 + s') (by omega) (by omega), goX_far (by omega) (by omega) (by omega) (by omega) (by omega)]
      · rw [e3, up_n (by omega), k6, lo 8 (by omega) (by omega)]
      · rw [e3, up_n (by omega), k7, ewr]
    refine sc_endures hS h6 hB.2.2.2.2.2.1 (fun z σ1 S1 k6 k7 F1 => ⟨fun z2 => absurd z2 (by decide), fun _ => ?_⟩) (fun z σ1 S1 k6 k7 F1 => ⟨fun _ => ?_, fun z2 => absurd rfl z2⟩)
    · refine fin σ1 255 v S1 k6 ?_ F1 ?_ (by rw [if_neg z])
      · rw [k7, h7, decide_eq_false z]
      · rw [show (255 : Int32) ^^^ 255 = nI 0 by decide, i_or, Nat.or_zero]
    · refine fin σ1 (σ1 9) (v ||| (255 ^^^ Z.1 5)) S1 k6 ?_ F1 ?_ (by rw [if_pos z])
      · rw [k7, decide_eq_true z]; rfl
      · rw [S1.2.2.2.2.1, goX_far (by omega) (by omega) (by omega) (by omega) (by omega), show (255 : Int32) = nI 255 from rfl, i_xor, i_or]
end CA
