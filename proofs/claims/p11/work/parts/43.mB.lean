/-! the reference READS a sector -/
section MB
variable {σ : Rg} {μ : Ar} {X : Nat → Nat} {N : Nat}
theorem sm_le {s p n : Nat} (hB : XB N X) (hs : s < 6) (h : p + n ≤ 128) : sm X s p n ≤ 255 * n := by
  induction n with
  | zero => exact Nat.le_refl _
  | succ n ih => have h1 := ih (by omega); have h2 := hB.b hs (show p + n < 128 by omega); unfold sm; omega
theorem sm_sumOf {s p n : Nat} (hR : RT μ X s) (hB : XB N X) (hs : s < 6) (h : p + n ≤ 128) {Q : Int32 → Rg → Ar → Prop} (hQ : Q (nI (sm X s p n)) σ μ) : wp_X6_sumOf σ μ (nI s) (nI p) (nI n) Q := by
  have key : ∀ d i, i + d = n → wl_X6_sumOf_6 Q (d + 1) σ μ (nI s) (nI p) (nI n) (nI (sm X s p i)) (nI (p + i)) := by
    intro d
    induction d with
    | zero =>
      intro i hi
      have e : i = n := by omega
      subst e
      exact pk_le (p + i) (p + i) (fun _ => hQ) (fun g => absurd g (by omega)) (nI_add p i) rfl
    | succ d ih =>
      intro i hi
      refine pk_le (p + n) (p + i) (fun g => absurd g (by omega)) (fun _ => ?_) (nI_add p n) rfl
      refine sr_byteAt hR hs (by omega) ?_
      intro y ey z ez
      rw [ey, ez, nI_add, i_p1]
      exact ih (i + 1) (by omega)
  exact ⟨n + 1, key n 0 (by omega)⟩
theorem sm_sortAt {s p : Nat} (hR : RT μ X s) (hB : XB N X) (hs : s < 6) (hp : p + 1 < 128) {Q : Int32 → Rg → Ar → Prop} (hQ : Q (kI (kdf (bt X s p) (bt X s (p + 1)))) σ μ) : wp_X6_sortAt σ μ (nI s) (nI p) Q := by
  have ha := hB.b hs (show p < 128 by omega)
  have hb := hB.b hs (show p + 1 < 128 by omega)
  refine sr_byteAt hR hs (by omega) ?_
  rw [i_p1]
  refine sr_byteAt hR hs (by omega) ?_
  generalize bt X s p = a at *
  generalize bt X s (p + 1) = b at *
  have w : ∀ {lo hi : Nat} {Q1 : Int32 → Prop} (x : Nat), x ≤ 255 → lo ≤ 255 → hi ≤ 255 → (lo ≤ x ∧ x ≤ hi → Q1 1) → (¬ (lo ≤ x ∧ x ≤ hi) → Q1 0) → wp_X6_within (nI x) (nI lo) (nI hi) Q1 := by
    intro lo hi Q1 x hx hl hh h1 h0
    refine sm_within (fun g1 g2 => h1 ⟨?_, ?_⟩) (fun g => h0 (fun g2 => ?_))
    · exact Nat.not_lt.mp (fun g => g1 (nI_lt g (by omega)))
    · exact Nat.not_lt.mp (fun g => g2 (nI_lt g (by omega)))
    · rcases g with g | g
      · have := (nI_ltI (by omega) (by omega)).mp g; omega
      · have := (nI_ltI (by omega) (by omega)).mp g; omega
  have c77 : ¬ (a < 32 ∧ 16 ≤ b ∧ b ≤ 20) → ¬ (a < 32 ∧ 48 ≤ b ∧ b ≤ 52) → ¬ (32 ≤ a ∧ a ≤ 47 ∧ b = 43) → wb_X6_sortAt_77 Q σ μ (nI a) (nI b) := by
    intro n0 n2 n1
    have e : kdf a b = if a = 63 ∧ b = 65 then 3 else 4 := by unfold kdf; rw [if_neg n0, if_neg n2, if_neg n1]
    rw [e] at hQ
    refine ⟨fun g => ?_, fun g => ⟨fun g2 => ?_, fun g2 => ?_⟩⟩
    · rw [if_neg (fun z => g (by rw [z.1]; rfl))] at hQ; exact hQ
    · rw [if_neg (fun z => g2 (by rw [z.2]; rfl))] at hQ; exact hQ
    · have q1 : a = 63 := (nI_eq (by omega) (by omega)).mp g
      have q2 : b = 65 := (nI_eq (by omega) (by omega)).mp g2
      rw [if_pos ⟨q1, q2⟩] at hQ; exact hQ
  have c57 : ¬ (a < 32 ∧ 16 ≤ b ∧ b ≤ 20) → ¬ (a < 32 ∧ 48 ≤ b ∧ b ≤ 52) → wb_X6_sortAt_57 Q σ μ (nI a) (nI b) := by
    intro n0 n2
    refine w (lo := 32) (hi := 47) a ha (by omega) (by omega) (fun g => ⟨fun z => absurd z (by decide), fun _ => ?_⟩) (fun g => ⟨fun _ => c77 n0 n2 (by omega), fun z => absurd rfl z⟩)
    refine ⟨fun g2 => c77 n0 n2 (fun z => g2 (by rw [z.2.2]; rfl)), fun g2 => ?_⟩
    have q2 : b = 43 := (nI_eq (by omega) (by omega)).mp g2
    have e : kdf a b = 1 := by unfold kdf; rw [if_neg n0, if_neg n2, if_pos (by omega)]
    rw [e] at hQ; exact hQ
  have c37 : ¬ (a < 32 ∧ 16 ≤ b ∧ b ≤ 20) → wb_X6_sortAt_37 Q σ μ (nI a) (nI b) := by
    intro n0
    refine pk_le 32 a (fun g => c57 n0 (by omega)) (fun g => ?_) rfl rfl
    refine w (lo := 48) (hi := 52) b hb (by omega) (by omega) (fun g2 => ⟨fun z => absurd z (by decide), fun _ => ?_⟩) (fun g2 => ⟨fun _ => c57 n0 (by omega), fun z => absurd rfl z⟩)
    have e : kdf a b = 2 := by unfold kdf; rw [if_neg n0, if_pos (by omega)]
    rw [e] at hQ; exact hQ
  refine pk_le 32 a (fun g => c37 (by omega)) (fun g => ?_) rfl rfl
  refine w (lo := 16) (hi := 20) b hb (by omega) (by omega) (fun g2 => ⟨fun z => absurd z (by decide), fun _ => ?_⟩) (fun g2 => ⟨fun _ => c37 (by omega), fun z => absurd rfl z⟩)
  have e : kdf a b = 0 := by unfold kdf; rw [if_pos (by omega)]
  rw [e] at hQ; exact hQ
theorem sm_sizeBy {k b : Nat} (hk : k < 4) (hb : b ≤ 255) {Q : Int32 → Rg → Ar → Prop} (hQ : Q (nI (szf k b)) σ μ) : wp_X6_sizeBy σ μ (nI k) (nI b) Q := by
  refine ⟨fun g => ⟨fun g2 => ?_, fun g2 => ?_⟩, fun g => ?_⟩
  · have e1 : k ≠ 1 := fun z => g (by rw [z]; rfl)
    have e2 : k ≠ 3 := fun z => g2 (by rw [z]; rfl)
    show Q _ σ μ
    rw [i_rem b 16 (by omega) (by omega) (by omega) (x := nI b) (y := (16 : Int32)) rfl rfl, show (3 : Int32) = nI 3 from rfl, nI_add]
    unfold szf at hQ; rw [if_neg e1, if_neg e2] at hQ; exact hQ
  · have e2 : k = 3 := (nI_eq (by omega) (by omega)).mp g2
    unfold szf at hQ; rw [if_neg (by omega), if_pos e2] at hQ; exact hQ
  · have e1 : k = 1 := (nI_eq (by omega) (by omega)).mp g
    unfold szf at hQ; rw [if_pos e1] at hQ; exact hQ
/-- the entries below k have been laid down -/
def PR (X : Nat → Nat) (s k : Nat) (σ : Rg) (μ : Ar) : Prop := σ 2 = nI k ∧ ∀ i, i < k → μ 2 i = nI (ps X s i) ∧ μ 3 i = nI (kd X s (ps X s i)) ∧ μ 4 i = nI (sz X s (ps X s i)) ∧ μ 5 i = nI (st0 X s (ps X s i))
def F01 (μ μ' : Ar) : Prop := μ' 0 = μ 0 ∧ μ' 1 = μ 1
def G3 (σ σ' : Rg) : Prop := ∀ k, k ≠ 2 → k ≠ 3 → k ≠ 4 → σ' k = σ k
theorem F01.rf {μ : Ar} : F01 μ μ := ⟨rfl, rfl⟩
theorem F01.tr {a b c : Ar} (h : F01 a b) (h2 : F01 b c) : F01 a c := ⟨h2.1.trans h.1, h2.2.trans h.2⟩
theorem F01.set {μ : Ar} {k : Nat} {f : Nat → Int32} (h : 2 ≤ k) : F01 μ (updA μ k f) := ⟨ua_n (by omega), ua_n (by omega)⟩
theorem F01.RM {μ μ' : Ar} {X : Nat → Nat} (h : F01 μ μ') (hR : RM μ X) : RM μ' X := fun k hk => by rw [h.1]; exact hR k hk
theorem F01.RT {μ μ' : Ar} {X : Nat → Nat} {s : Nat} (h : F01 μ μ') (hR : RT μ X s) : RT μ' X s := ⟨by rw [h.1]; exact hR.1, fun k hk => by rw [h.1]; exact hR.2 k hk⟩
theorem G3.rf {σ : Rg} : G3 σ σ := fun _ _ _ _ => rfl
theorem G3.tr {a b c : Rg} (h : G3 a b) (h2 : G3 b c) : G3 a c := fun k h0 h1 h3 => (h2 k h0 h1 h3).trans (h k h0 h1 h3)
theorem G3.set {σ : Rg} {k : Nat} {v : Int32} (h : k = 2 ∨ k = 3 ∨ k = 4) : G3 σ (upd σ k v) := fun j h0 h1 h3 => up_n (by omega)
theorem rd_l {s e : Nat} (hR : RT μ X s) (hB : XB N X) (hs : s < 6) (hE : IsE X s e) (he : e ≤ 41) {Q : Rg → Ar → Prop}
    (hQ : ∀ σ' μ' l v, F01 μ μ' → G3 σ σ' → PR X s e σ' μ' → σ' 4 = nI l → (stopE X s e → l = 0 ∧ v = ps X s e) → (¬ stopE X s e → l = X 1 - ps X s e ∧ v = X 1) → wb_X6_reads_221 Q σ' μ' (nI s) (nI v)) :
    ∀ d k, k + d = e → ∀ σ1 μ1, F01 μ μ1 → G3 σ σ1 → PR X s k σ1 μ1 → σ1 4 = nI 0 → wl_X6_reads_12 Q (d + 2) σ1 μ1 (nI s) (nI (ps X s k)) := by
  have b1 := hB.2.2.2.1
  have b0 := hB.2.2.1
  intro d
  induction d with
  | zero =>
    intro k hk σ1 μ1 F G P h4
    have ek : k = e := by omega
    subst ek
    have hR1 := F.RT hR
    have hps : ps X s k ≤ 128 + 0 := by
      cases k with
      | zero => show 4 ≤ 128; omega
      | succ j => have := (hE.1 j (by omega)).2.2; have e2 : ps X s (j + 1) = ps X s j + sz X s (ps X s j) := rfl; omega
    refine pk_le (X 1) (ps X s k) (fun g => hQ _ _ 0 _ F G P h4 (fun _ => ⟨rfl, rfl⟩) (fun z => absurd (Or.inl g) z)) (fun g => ?_) (hR1.1) rfl
    refine sr_isBlank hR1 hB hs (by omega) (fun hb => ⟨fun _ => hQ _ _ 0 _ F G P h4 (fun _ => ⟨rfl, rfl⟩) (fun z => absurd (Or.inr hb) z), fun z => absurd z (by decide)⟩) (fun hb => ⟨fun z => absurd rfl z, fun _ => ?_⟩)
    have hns : ¬ stopE X s k := fun z => z.elim (fun z => by omega) hb
    have hno : kd X s (ps X s k) = 4 ∨ X 1 < ps X s k + sz X s (ps X s k) := by
      by_cases h1 : kd X s (ps X s k) = 4
      · exact Or.inl h1
      · by_cases h2 : ps X s k + sz X s (ps X s k) ≤ X 1
        · exact absurd ⟨⟨g, hb⟩, h1, h2⟩ hE.2
        · exact Or.inr (by omega)
    have c94 : wb_X6_reads_94 Q (wl_X6_reads_12 Q 1) σ1 μ1 (nI s) (nI (ps X s k)) := by
      intro σ2 e2 y ey
      rw [ey, hR1.1]
      refine pk_le (X 1) (X 1) (fun _ => ?_) (fun z => absurd z (by omega)) (hR1.1) rfl
      have P2 : PR X s k σ2 μ1 := by rw [e2]; exact ⟨by rw [up_n (by omega)]; exact P.1, P.2⟩
      exact hQ _ _ (X 1 - ps X s k) (X 1) F (G.tr (by rw [e2]; exact G3.set (by omega))) P2 (by rw [e2, up_s, hR1.1]; exact pk_sub (by omega)) (fun z => absurd z hns) (fun _ => ⟨rfl, rfl⟩)
    have c75 : ∀ t0 : Int32, (kd X s (ps X s k) ≠ 4 → t0 = nI (sz X s (ps X s k))) → wb_X6_reads_75 Q (wl_X6_reads_12 Q 1) σ1 μ1 (nI s) (nI (ps X s k)) (kI (kd X s (ps X s k))) t0 := by
      intro t0 ht
      refine ⟨fun _ => c94, fun z => ?_⟩
      have h4 : kd X s (ps X s k) ≠ 4 := fun z2 => z (by rw [z2]; decide)
      have hz := sz_le X s (ps X s k)
      rw [ht h4, nI_add]
      refine pk_le _ (X 1) (fun z2 => ?_) (fun _ => c94) rfl (hR1.1)
      rcases hno with q | q
      · exact absurd q h4
      · omega
    have c53 : wb_X6_reads_53 Q (wl_X6_reads_12 Q 1) σ1 μ1 (nI s) (nI (ps X s k)) (kI (kd X s (ps X s k))) := by
      refine ⟨fun z => ?_, fun z => ?_⟩
      · have h4 : kd X s (ps X s k) ≠ 4 := fun z2 => absurd z (by rw [z2]; decide)
        have hk := kd_ok h4
        have hkl := kd_le X s (ps X s k)
        rw [i_p1]
        refine sr_byteAt hR1 hs (by omega) ?_
        have e3 : kI (kd X s (ps X s k)) = nI (kd X s (ps X s k)) := if_neg h4
        rw [e3]
        refine sm_sizeBy (by omega) (hB.b hs (by omega)) ?_
        have := c75 (nI (sz X s (ps X s k))) (fun _ => rfl)
        rw [e3] at this
        exact this
      · exact c75 0 (fun h4 => absurd (show (0 : Int32) ≤ kI (kd X s (ps X s k)) from by
          have hkl := kd_le X s (ps X s k)
          rw [show kI (kd X s (ps X s k)) = nI (kd X s (ps X s k)) from if_neg h4]; exact nI_pos' (by omega)) z)
    rw [i_p1]
    refine pk_le (X 1) (ps X s k + 1) (fun z => ?_) (fun z => ?_) (hR1.1) rfl
    · have : kd X s (ps X s k) = 4 := by unfold kd; rw [if_neg (by omega)]
      rw [this] at c53; exact c53
    · refine sm_sortAt hR1 hB hs (by omega) ?_
      have : kd X s (ps X s k) = kdf (bt X s (ps X s k)) (bt X s (ps X s k + 1)) := by unfold kd; rw [if_pos z]
      rw [← this]; exact c53
  | succ d ih =>
    intro k hk σ1 μ1 F G P h4
    have hR1 := F.RT hR
    obtain ⟨⟨g1, g2⟩, g3, g4⟩ := hE.1 k (by omega)
    have hk1 := kd_ok g3
    have hkl := kd_le X s (ps X s k)
    have hz := sz_le X s (ps X s k)
    have e3 : kI (kd X s (ps X s k)) = nI (kd X s (ps X s k)) := if_neg g3
    have hsr := szf_r (a := bt X s (ps X s k)) (b := bt X s (ps X s k + 1)) (by rw [← hk1.2]; exact g3)
    have esz : sz X s (ps X s k) = szf (kdf (bt X s (ps X s k)) (bt X s (ps X s k + 1))) (bt X s (ps X s k + 1)) := by unfold sz; rw [hk1.2]
    rw [← esz, ← hk1.2] at hsr
    refine pk_le (X 1) (ps X s k) (fun g => absurd g (by omega)) (fun _ => ?_) (hR1.1) rfl
    refine sr_isBlank hR1 hB hs (by omega) (fun z => absurd z g2) (fun _ => ⟨fun z => absurd rfl z, fun _ => ?_⟩)
    rw [i_p1]
    refine pk_le (X 1) (ps X s k + 1) (fun z => absurd z (by omega)) (fun _ => ?_) (hR1.1) rfl
    refine sm_sortAt hR1 hB hs (by omega) ?_
    rw [← hk1.2, e3]
    refine ⟨fun _ => ?_, fun z => absurd (nI_pos' (by omega)) z⟩
    rw [i_p1]
    refine sr_byteAt hR1 hs (by omega) ?_
    refine sm_sizeBy (by omega) (hB.b hs (by omega)) ?_
    show wb_X6_reads_75 Q _ σ1 μ1 (nI s) (nI (ps X s k)) (nI (kd X s (ps X s k))) (nI (sz X s (ps X s k)))
    refine ⟨fun z => absurd z (nI_pos (by omega)), fun _ => ?_⟩
    rw [nI_add]
    refine pk_le _ (X 1) (fun _ => ?_) (fun z => absurd z (by omega)) rfl (hR1.1)
    have hin : vp_in (σ1 2) 64 := pk_in k 64 (by omega) P.1
    refine ⟨hin, fun μ2 e2 => ⟨hin, fun μ3 e3 => ⟨hin, fun μ4 e4 => ?_⟩⟩⟩
    rw [P.1, nI_clamp (by omega)] at e2 e3 e4
    have F4 : F01 μ μ4 := F.tr (by rw [e4, e3, e2]; exact ((F01.set (by omega)).tr (F01.set (by omega))).tr (F01.set (by omega)))
    have hR4 := F4.RT hR
    have m4 : μ4 4 k = nI (sz X s (ps X s k)) := by rw [e4, ua_s, up_s]
    have m3 : μ4 3 k = nI (kd X s (ps X s k)) := by rw [e4, ua_n (by omega), e3, ua_s, up_s]
    have m2 : μ4 2 k = nI (ps X s k) := by rw [e4, ua_n (by omega), e3, ua_n (by omega), e2, ua_s, up_s]
    have mo : ∀ i, i ≠ k → μ4 2 i = μ1 2 i ∧ μ4 3 i = μ1 3 i ∧ μ4 4 i = μ1 4 i := fun i hi => ⟨by rw [e4, ua_n (by omega), e3, ua_n (by omega), e2, ua_s, up_n hi], by rw [e4, ua_n (by omega), e3, ua_s, up_n hi, e2, ua_n (by omega)], by rw [e4, ua_s, up_n hi, e3, ua_n (by omega), e2, ua_n (by omega)]⟩
    have m5 : μ4 5 = μ1 5 := by rw [e4, ua_n (by omega), e3, ua_n (by omega), e2, ua_n (by omega)]
    have hck : ckn X s (ps X s k) + 1 ≤ sz X s (ps X s k) := by
      have := sz_ge X s (ps X s k)
      unfold ckn; split
      · rename_i q; have := hsr.2.1 q; omega
      · omega
    -- the mark
    have c202 : ∀ t0 : Nat, t0 = st0 X s (ps X s k) → wb_X6_reads_202 Q (wl_X6_reads_12 Q (d + 2)) σ1 μ4 (nI s) (nI (ps X s k)) (nI (sz X s (ps X s k))) (nI t0) (nI k) := by
      intro t0 ht
      refine ⟨pk_in k 64 (by omega) rfl, fun μ5 e5 σ2 es y ey => ?_⟩
      rw [nI_clamp (by omega)] at e5
      rw [ey, nI_add]
      refine ih (k + 1) (by omega) σ2 μ5 (F4.tr (by rw [e5]; exact F01.set (by omega))) (G.tr (by rw [es]; exact G3.set (by omega))) ⟨?_, fun i hi => ?_⟩ (by rw [es, up_n (by omega)]; exact h4)
      · rw [es, up_s, P.1]; exact nI_1 k
      · by_cases hik : i = k
        · subst hik
          exact ⟨by rw [e5, ua_n (by omega)]; exact m2, by rw [e5, ua_n (by omega)]; exact m3, by rw [e5, ua_n (by omega)]; exact m4, by rw [e5, ua_s, up_s, ht]⟩
        · obtain ⟨p1, p2, p3, p4⟩ := P.2 i (by omega)
          obtain ⟨o1, o2, o3⟩ := mo i hik
          exact ⟨by rw [e5, ua_n (by omega), o1]; exact p1, by rw [e5, ua_n (by omega), o2]; exact p2, by rw [e5, ua_n (by omega), o3]; exact p3, by rw [e5, ua_s, up_n hik, m5]; exact p4⟩
    have cck : wp_X6_checked σ1 μ4 (σ1 2) (fun r152 σ152 μ152 => wp_X6_sumOf σ152 μ152 (nI s) (nI (ps X s k)) r152 (fun r170 σ170 μ170 => wp_X6_check r170 (fun r173 => wp_X6_byteAt σ170 μ170 (nI s) (nI (ps X s k) + r152) (fun r182 σ182 μ182 => ((r173 = r182 → (((2 : Int32) ≤ nI (kd X s (ps X s k)) → wb_X6_reads_202 Q (wl_X6_reads_12 Q (d + 2)) σ182 μ182 (nI s) (nI (ps X s k)) (nI (sz X s (ps X s k))) (3 : Int32) (σ152 2)) ∧ (¬ (2 : Int32) ≤ nI (kd X s (ps X s k)) → wb_X6_reads_202 Q (wl_X6_reads_12 Q (d + 2)) σ182 μ182 (nI s) (nI (ps X s k)) (nI (sz X s (ps X s k))) (1 : Int32) (σ152 2)))) ∧ (¬ r173 = r182 → wb_X6_reads_202 Q (wl_X6_reads_12 Q (d + 2)) σ182 μ182 (nI s) (nI (ps X s k)) (nI (sz X s (ps X s k))) (2 : Int32) (σ152 2))))))) := by
      have tail : wp_X6_sumOf σ1 μ4 (nI s) (nI (ps X s k)) (nI (ckn X s (ps X s k))) (fun r170 σ170 μ170 => wp_X6_check r170 (fun r173 => wp_X6_byteAt σ170 μ170 (nI s) (nI (ps X s k) + nI (ckn X s (ps X s k))) (fun r182 σ182 μ182 => ((r173 = r182 → (((2 : Int32) ≤ nI (kd X s (ps X s k)) → wb_X6_reads_202 Q (wl_X6_reads_12 Q (d + 2)) σ182 μ182 (nI s) (nI (ps X s k)) (nI (sz X s (ps X s k))) (3 : Int32) (σ1 2)) ∧ (¬ (2 : Int32) ≤ nI (kd X s (ps X s k)) → wb_X6_reads_202 Q (wl_X6_reads_12 Q (d + 2)) σ182 μ182 (nI s) (nI (ps X s k)) (nI (sz X s (ps X s k))) (1 : Int32) (σ1 2)))) ∧ (¬ r173 = r182 → wb_X6_reads_202 Q (wl_X6_reads_12 Q (d + 2)) σ182 μ182 (nI s) (nI (ps X s k)) (nI (sz X s (ps X s k))) (2 : Int32) (σ1 2)))))) := by
        refine sm_sumOf hR4 hB hs (by omega) ?_
        have hsl := sm_le (n := ckn X s (ps X s k)) (p := ps X s k) hB hs (by omega)
        refine sm_check (by omega) ?_
        rw [nI_add]
        refine sr_byteAt hR4 hs (by omega) ?_
        have hbb := hB.b hs (show ps X s k + ckn X s (ps X s k) < 128 by omega)
        rw [P.1]
        refine pk_eq _ _ (fun z => ?_) (fun z => ?_) rfl rfl
        · have nb : ¬ bad X s (ps X s k) := fun b => b z
          refine pk_le 2 (kd X s (ps X s k)) (fun q => ?_) (fun q => ?_) rfl rfl
          · exact c202 3 (by unfold st0; rw [itp_neg nb, if_neg (by omega)])
          · exact c202 1 (by unfold st0; rw [itp_neg nb, if_pos q])
        · exact c202 2 (by unfold st0; rw [itp_pos (show bad X s (ps X s k) from z)])
      refine ⟨hin, fun q => ⟨hin, ?_⟩, fun q => ?_⟩
      · rw [P.1, nI_clamp (by omega)] at q ⊢
        rw [m3] at q
        have q1 : kd X s (ps X s k) ≠ 1 := fun z => q (by rw [z]; rfl)
        have : (μ4 4 k) - (1 : Int32) = nI (ckn X s (ps X s k)) := by
          have := sz_ge X s (ps X s k)
          rw [m4]; unfold ckn; rw [if_neg q1]; exact pk_sub (a := sz X s (ps X s k)) (b := 1) (by omega)
        rw [this]; exact tail
      · rw [P.1, nI_clamp (by omega), m3] at q
        have q1 : kd X s (ps X s k) = 1 := (nI_eq (by omega) (by omega)).mp q
        have : (5 : Int32) = nI (ckn X s (ps X s k)) := by unfold ckn; rw [if_pos q1]; rfl
        rw [this]; exact tail
    exact cck
end MB
