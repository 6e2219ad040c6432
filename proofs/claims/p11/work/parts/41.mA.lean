/-! the reference: bytes, doings, blnk sectors -/
section MA
variable {σ : Rg} {μ : Ar} {X : Nat → Nat}
theorem sm_within {x1 x2 x3 : Int32} {Q : Int32 → Prop} (h1 : ¬ x1 < x2 → ¬ x3 < x1 → Q 1) (h0 : (x1 < x2 ∨ x3 < x1) → Q 0) : wp_X6_within x1 x2 x3 Q := ⟨fun h => ⟨bz0, h0 (Or.inl h)⟩, fun h => ⟨fun h2 => ⟨bz0, h0 (Or.inr h2)⟩, fun h2 => ⟨bz1, h1 h h2⟩⟩⟩
theorem sm_check {a : Nat} (ha : a < 2 ^ 30) {Q : Int32 → Prop} (h : Q (nI ((a + 85) % 251))) : wp_X6_check (nI a) Q := by
  unfold wp_X6_check; rw [i_chk a ha]; exact h
theorem sm_isOn (hR : RM μ X) (h2 : X 2 ≤ 1) {Q : Int32 → Rg → Ar → Prop} (h1 : X 2 = 1 → Q 1 σ μ) (h0 : X 2 = 0 → Q 0 σ μ) : wp_X6_isOn σ μ Q := by
  have e := hR 2 (by omega)
  refine ⟨fun h => ⟨bz0, h0 ?_⟩, fun h => ⟨bz1, h1 ?_⟩⟩
  · rw [e] at h
    rcases (show X 2 = 0 ∨ X 2 = 1 by omega) with g | g
    · exact g
    · rw [g] at h; exact absurd rfl h
  · rw [e] at h
    exact (nI_eq (by omega) (by omega)).mp h
theorem sr_byteAt {s p : Nat} (hR : RT μ X s) (hs : s < 6) (hp : p < 128) {Q : Int32 → Rg → Ar → Prop} (h : Q (nI (bt X s p)) σ μ) : wp_X6_byteAt σ μ (nI s) (nI p) Q := by
  refine ⟨pk_in (42 + 128 * s + p) 810 (by omega) (adr s p), ?_⟩
  rw [adr, nI_clamp (by omega), hR.2 p hp]
  exact h
theorem sm_byteAt (hR : RM μ X) {s p : Nat} (hs : s < 6) (hp : p < 128) {Q : Int32 → Rg → Ar → Prop} (h : Q (nI (bt X s p)) σ μ) : wp_X6_byteAt σ μ (nI s) (nI p) Q := sr_byteAt (hR.rt hs) hs hp h
theorem sm_goes (hR : RM μ X) (hl : X 4 ≤ 9999) {Q : Int32 → Rg → Ar → Prop} (h1 : X 4 = 1 → ∀ μ', RM μ' (goX X) → FA μ μ' → Q 1 (upd σ 1 1) μ') (h0 : X 4 ≠ 1 → ∀ μ', RM μ' (goX X) → FA μ μ' → Q 0 σ μ') : wp_X6_goes σ μ Q := by
  intro μ1 e1
  have hR1 : RM μ1 (ux X 8 (X 8 + 1)) := by rw [e1]; exact hR.set (by rw [hR 8 (by omega)]; exact nI_1 _)
  have F1 : FA μ μ1 := by rw [e1]; exact FA.set
  have e4 : μ1 0 4 = nI (X 4) := by rw [hR1 4 (by omega), ux_n (by omega)]
  refine ⟨fun h => ?_, fun h => ?_⟩
  · have h4 : X 4 ≠ 0 := fun g => h (by rw [e4, g]; rfl)
    intro μ2 e2
    have hR2 : RM μ2 (ux (ux X 8 (X 8 + 1)) 4 (X 4 - 1)) := by rw [e2]; exact hR1.set (by rw [e4]; exact pk_sub (a := X 4) (b := 1) (by omega))
    have F2 : FA μ μ2 := F1.tr (by rw [e2]; exact FA.set)
    have e4 : μ2 0 4 = nI (X 4 - 1) := by rw [hR2 4 (by omega), ux_s]
    refine ⟨fun h => ?_, fun h => ?_⟩
    · have h5 : X 4 = 1 := by
        rw [e4] at h
        have := (nI_leI (b := 0) (by omega) (by omega)).mp h
        omega
      intro μ3 e3 μ5 e5 μ6 e6 σ7 e7
      rw [e7]
      refine h1 h5 μ6 ?_ (F2.tr ?_)
      · have hR3 : RM μ3 (ux (ux (ux X 8 (X 8 + 1)) 4 (X 4 - 1)) 6 (X 6 + 1)) := by rw [e3]; exact hR2.set (by rw [hR2 6 (by omega), ux_n (by omega), ux_n (by omega)]; exact nI_1 _)
        have hR5 : RM μ5 (ux (ux (ux (ux X 8 (X 8 + 1)) 4 (X 4 - 1)) 6 (X 6 + 1)) 2 0) := by rw [e5]; exact hR3.set rfl
        have hR6 : RM μ6 (ux (ux (ux (ux (ux X 8 (X 8 + 1)) 4 (X 4 - 1)) 6 (X 6 + 1)) 2 0) 10 0) := by rw [e6]; exact hR5.set rfl
        have : goX X = ux (ux (ux (ux (ux X 8 (X 8 + 1)) 4 (X 4 - 1)) 6 (X 6 + 1)) 2 0) 10 0 := by unfold goX; rw [if_neg h4, if_pos h5, h5]
        rw [this]; exact hR6
      · rw [e6, e5, e3]
        exact (FA.set.tr FA.set).tr FA.set
    · have h5 : X 4 ≠ 1 := fun g => h (by rw [e4, g]; exact Int32.le_refl _)
      refine h0 h5 μ2 ?_ F2
      have : goX X = ux (ux X 8 (X 8 + 1)) 4 (X 4 - 1) := by unfold goX; rw [if_neg h4, if_neg h5]
      rw [this]; exact hR2
  · have h4 : X 4 = 0 := by rw [e4] at h; exact (nI_eq (by omega) (by omega)).mp h
    refine h0 (by omega) μ1 ?_ F1
    have : goX X = ux X 8 (X 8 + 1) := by unfold goX; rw [if_pos h4]
    rw [this]; exact hR1
theorem sm_writes {Z : Zt} (hW : RW σ μ Z) {N : Nat} (hB : XB N Z.1) {s p v : Nat} (hs : s < 6) (hp : p < 128) {Q : Rg → Ar → Prop} (hQ : ∀ σ' μ', RW σ' μ' (wr s p v Z) → FS σ σ' → FA μ μ' → Q σ' μ') : wp_X6_writes σ μ (nI s) (nI p) (nI v) Q := by
  obtain ⟨hR, hg⟩ := hW
  refine ⟨fun h => ?_, fun h => ?_⟩
  · have hz : Z.2 = false := by
      cases hz : Z.2 with
      | false => rfl
      | true => rw [hz] at hg; rw [hg] at h; exact absurd h (by decide)
    have ew : wr s p v Z = (ux (goX (ux Z.1 9 (Z.1 9 + 1))) (42 + 128 * s + p) (bt Z.1 s p &&& (if Z.1 4 = 1 then v ||| (255 ^^^ Z.1 5) else v)), decide (Z.1 4 = 1)) := by unfold wr; rw [hz]; rfl
    intro μ1 e1
    have hR1 : RM μ1 (ux Z.1 9 (Z.1 9 + 1)) := by rw [e1]; exact hR.set (by rw [hR 9 (by omega)]; exact nI_1 _)
    have F1 : FA μ μ1 := by rw [e1]; exact FA.set
    have x4 : ux Z.1 9 (Z.1 9 + 1) 4 = Z.1 4 := ux_n (by omega)
    have key : ∀ (μ2 : Ar) (t : Nat), RM μ2 (goX (ux Z.1 9 (Z.1 9 + 1))) → FA μ μ2 → ∀ σ2 : Rg, FS σ σ2 → σ2 1 = (if decide (Z.1 4 = 1) = true then 1 else 0) → t = (if Z.1 4 = 1 then v ||| (255 ^^^ Z.1 5) else v) → wb_X6_writes_44 Q σ2 μ2 (nI s) (nI p) (nI t) := by
      intro μ2 t hR2 F2 σ2 S2 g2 ht
      have hin : vp_in (((42 : Int32) + ((128 : Int32) * nI s)) + nI p) 810 := pk_in (42 + 128 * s + p) 810 (by omega) (adr s p)
      refine ⟨hin, hin, fun μ3 e3 => ?_⟩
      refine hQ _ _ ?_ S2 (F2.tr (by rw [e3]; exact FA.set))
      rw [ew]
      refine ⟨?_, g2⟩
      rw [e3, adr, nI_clamp (by omega)]
      refine hR2.set ?_
      rw [hR2 _ (by omega), goX_far (by omega) (by omega) (by omega) (by omega) (by omega), ux_n (by omega), i_and, ht]
      rfl
    refine sm_goes hR1 (by rw [x4]; exact hB.2.2.2.2.2.1) (fun h4 μ2 hR2 F2 => ?_) (fun h4 μ2 hR2 F2 => ?_)
    · rw [x4] at h4
      refine ⟨fun h => absurd h (by decide), fun _ => ?_⟩
      have e5 : μ2 0 5 = nI (Z.1 5) := by rw [hR2 5 (by omega), goX_far (by omega) (by omega) (by omega) (by omega) (by omega), ux_n (by omega)]
      rw [e5, i_not8 _ (by have := hB.2.2.2.2.2.2.1; omega), i_or]
      exact key μ2 _ hR2 (F1.tr F2) _ (fun k hk => up_n hk) (by rw [up_s, h4]; rfl) (by rw [if_pos h4])
    · rw [x4] at h4
      refine ⟨fun _ => ?_, fun h => absurd rfl h⟩
      exact key μ2 _ hR2 (F1.tr F2) _ FS.rf (by rw [hg, hz, decide_eq_false h4]) (by rw [if_neg h4])
  · have hz : Z.2 = true := by
      cases hz : Z.2 with
      | true => rfl
      | false => rw [hz] at hg; rw [hg] at h; exact absurd rfl h
    refine hQ σ μ ?_ FS.rf FA.rf
    have ew : wr s p v Z = Z := by unfold wr; rw [hz]; rfl
    rw [ew]; exact ⟨hR, hg⟩
theorem ers_l {s N : Nat} (hs : s < 6) {m : Nat} (hm : m ≤ 128) {Y : Nat → Nat} {Q : Rg → Ar → Prop} (hQ : ∀ μ', RM μ' (fun q => if 42 + 128 * s ≤ q ∧ q < 42 + 128 * s + m then 255 else Y q) → FA μ μ' → Q σ μ') : ∀ (d p : Nat), p + d = m → ∀ μ1 : Ar, RM μ1 (fun q => if 42 + 128 * s ≤ q ∧ q < 42 + 128 * s + p then 255 else Y q) → FA μ μ1 → wl_X6_erases_48 Q (d + 1) σ μ1 (nI s) (nI m) (nI p) := by
  intro d
  induction d with
  | zero =>
    intro p hp μ1 hR F
    have e : p = m := by omega
    subst e
    refine pk_le p p (fun _ => hQ μ1 hR F) (fun h => absurd h (by omega)) rfl rfl
  | succ d ih =>
    intro p hp μ1 hR F
    refine pk_le m p (fun h => absurd h (by omega)) (fun _ => ?_) rfl rfl
    refine ⟨pk_in (42 + 128 * s + p) 810 (by omega) (adr s p), fun μ2 e2 y ey => ?_⟩
    rw [ey, i_p1]
    refine ih (p + 1) (by omega) μ2 (fun q hq => ?_) (F.tr (by rw [e2]; exact FA.set))
    rw [e2, ua_s, adr, nI_clamp (by omega)]
    by_cases e : q = 42 + 128 * s + p
    · subst e
      rw [up_s]
      dsimp only
      rw [if_pos (by omega)]; rfl
    · rw [up_n e, hR q hq]
      dsimp only
      by_cases h1 : 42 + 128 * s ≤ q ∧ q < 42 + 128 * s + p
      · rw [if_pos h1, if_pos (by omega)]
      · rw [if_neg h1, if_neg (by omega)]
theorem sm_erases {Z : Zt} (hW : RW σ μ Z) {N : Nat} (hB : XB N Z.1) {s : Nat} (hs : s < 6) {Q : Rg → Ar → Prop} (hQ : ∀ σ' μ', RW σ' μ' (er s Z) → FS σ σ' → FA μ μ' → Q σ' μ') : wp_X6_erases σ μ (nI s) Q := by
  obtain ⟨hR, hg⟩ := hW
  refine ⟨fun h => ?_, fun h => ?_⟩
  · have hz : Z.2 = false := by
      cases hz : Z.2 with
      | false => rfl
      | true => rw [hz] at hg; rw [hg] at h; exact absurd h (by decide)
    have hin : vp_in ((36 : Int32) + nI s) 810 := pk_in (36 + s) 810 (by omega) (i_36 s)
    refine ⟨hin, hin, fun μ1 e1 => ?_⟩
    have hR1 : RM μ1 (ux Z.1 (36 + s) (Z.1 (36 + s) + 1)) := by rw [e1, i_36, nI_clamp (by omega)]; exact hR.set (by rw [hR _ (by omega)]; exact nI_1 _)
    have F1 : FA μ μ1 := by rw [e1]; exact FA.set
    have x4 : ux Z.1 (36 + s) (Z.1 (36 + s) + 1) 4 = Z.1 4 := ux_n (by omega)
    have x1 : ∀ μ2 : Ar, RM μ2 (goX (ux Z.1 (36 + s) (Z.1 (36 + s) + 1))) → μ2 0 1 = nI (Z.1 1) := fun μ2 h2 => by rw [h2 1 (by omega), goX_far (by omega) (by omega) (by omega) (by omega) (by omega), ux_n (by omega)]
    have b1 := hB.2.2.2.1
    have key : ∀ (μ2 : Ar), RM μ2 (goX (ux Z.1 (36 + s) (Z.1 (36 + s) + 1))) → FA μ μ2 → ∀ σ2 : Rg, FS σ σ2 → σ2 1 = (if decide (Z.1 4 = 1) = true then 1 else 0) → wb_X6_erases_45 Q σ2 μ2 (nI s) (nI (erm Z.1)) := by
      intro μ2 hR2 F2 σ2 S2 g2
      have hm : erm Z.1 ≤ 128 := by unfold erm; split <;> omega
      refine ⟨erm Z.1 + 1, ers_l (N := N) (Y := goX (ux Z.1 (36 + s) (Z.1 (36 + s) + 1))) hs hm (fun μ3 hR3 F3 => ?_) (erm Z.1) 0 (by omega) μ2 (fun q hq => ?_) FA.rf⟩
      · refine hQ _ _ ?_ S2 (F2.tr F3)
        unfold er
        rw [hz]
        exact ⟨hR3, g2⟩
      · rw [hR2 q hq]
        dsimp only
        rw [if_neg (by omega)]
    refine sm_goes hR1 (by rw [x4]; exact hB.2.2.2.2.2.1) (fun h4 μ2 hR2 F2 => ?_) (fun h4 μ2 hR2 F2 => ?_)
    · rw [x4] at h4
      refine ⟨fun h => absurd h (by decide), fun _ => ?_⟩
      have e : (μ2 0 1) / (2 : Int32) = nI (erm Z.1) := by rw [x1 μ2 hR2, show (2 : Int32) = nI 2 from rfl, pk_div (by omega) (by omega) (by omega)]; unfold erm; rw [if_pos h4]
      rw [e]
      exact key μ2 hR2 (F1.tr F2) _ (fun k hk => up_n hk) (by rw [up_s, h4]; rfl)
    · rw [x4] at h4
      refine ⟨fun _ => ?_, fun h => absurd rfl h⟩
      have e : μ2 0 1 = nI (erm Z.1) := by rw [x1 μ2 hR2]; unfold erm; rw [if_neg h4]
      rw [e]
      exact key μ2 hR2 (F1.tr F2) _ FS.rf (by rw [hg, hz, decide_eq_false h4])
  · have hz : Z.2 = true := by
      cases hz : Z.2 with
      | true => rfl
      | false => rw [hz] at hg; rw [hg] at h; exact absurd rfl h
    refine hQ σ μ ?_ FS.rf FA.rf
    have ew : er s Z = Z := by unfold er; rw [hz]; rfl
    rw [ew]; exact ⟨hR, hg⟩
/-- no byte from p on is other than 255 -/
def blnk (X : Nat → Nat) (s p : Nat) : Prop := ∀ q, p ≤ q → q < X 1 → bt X s q = 255
theorem blnk_stop {s p : Nat} (h : X 1 ≤ p) : blnk X s p := fun q h1 h2 => absurd h2 (by omega)
theorem blnk_step {s p : Nat} (h : bt X s p = 255) (h2 : blnk X s (p + 1)) : blnk X s p := fun q h3 h4 => by
  by_cases e : q = p
  · subst e; exact h
  · exact h2 q (by omega) h4
theorem sr_isBlank_l {s : Nat} (hR : RT μ X s) {N : Nat} (hB : XB N X) (hs : s < 6) {Q : Int32 → Rg → Ar → Prop} : ∀ (d p : Nat), X 1 ≤ p + d → p ≤ 128 → (blnk X s p → Q 1 σ μ) → (¬ blnk X s p → Q 0 σ μ) → wl_X6_isBlank_2 Q (d + 1) σ μ (nI s) (nI p) := by
  have b1 := hB.2.2.2.1
  intro d
  induction d with
  | zero =>
    intro p hp hp2 h1 h0
    exact pk_le (X 1) p (fun h => h1 (blnk_stop h)) (fun h => absurd h (by omega)) (hR.1) rfl
  | succ d ih =>
    intro p hp hp2 h1 h0
    refine pk_le (X 1) p (fun h => h1 (blnk_stop h)) (fun h => ?_) (hR.1) rfl
    refine sr_byteAt hR hs (by omega) ?_
    have hb := hB.b hs (show p < 128 by omega)
    refine pk_eq (bt X s p) 255 (fun e => ?_) (fun e => ?_) rfl rfl
    · intro y ey
      rw [ey, i_p1]
      exact ih (p + 1) (by omega) (by omega) (fun g => h1 (blnk_step e g)) (fun g => h0 (fun g2 => g (fun q q1 q2 => g2 q (by omega) q2)))
    · exact h0 (fun g => e (g p (Nat.le_refl _) h))
theorem sr_isBlank {s p : Nat} (hR : RT μ X s) {N : Nat} (hB : XB N X) (hs : s < 6) (hp : p ≤ 128) {Q : Int32 → Rg → Ar → Prop} (h1 : blnk X s p → Q 1 σ μ) (h0 : ¬ blnk X s p → Q 0 σ μ) : wp_X6_isBlank σ μ (nI s) (nI p) Q := ⟨X 1 + 1, sr_isBlank_l hR hB hs (X 1) p (by omega) hp h1 h0⟩
theorem sm_isBlank (hR : RM μ X) {N : Nat} (hB : XB N X) {s p : Nat} (hs : s < 6) (hp : p ≤ 128) {Q : Int32 → Rg → Ar → Prop} (h1 : blnk X s p → Q 1 σ μ) (h0 : ¬ blnk X s p → Q 0 σ μ) : wp_X6_isBlank σ μ (nI s) (nI p) Q := sr_isBlank (hR.rt hs) hB hs hp h1 h0
end MA
