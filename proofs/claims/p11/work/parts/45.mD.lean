/-! READING: the newest, and the whole -/
section MD
variable {σ : Rg} {μ : Ar} {X : Nat → Nat} {N : Nat}
theorem nwN_le (X : Nat → Nat) (s j t : Nat) : nwN X s j t ≤ j := by
  induction j with
  | zero => exact Nat.le_refl _
  | succ j ih => unfold nwN itp; split <;> omega
theorem nwN_is {s t i : Nat} : ∀ {j}, nwN X s j t = i + 1 → i < j ∧ kd X s (ps X s i) ≠ 3 ∧ st1 X s (nE X s) i = 1 ∧ bt X s (ps X s i) = t
  | 0, h => absurd h (by show ¬ (0 = i + 1); omega)
  | j + 1, h => by
    unfold nwN itp at h
    split at h
    · rename_i g
      have e : j = i := by omega
      subst e; exact ⟨by omega, g⟩
    · have := nwN_is h; exact ⟨by omega, this.2⟩
theorem nwI_neg {n : Nat} (h : n ≤ 64) : nwI n < 0 ↔ n = 0 := by
  unfold nwI
  split
  · rename_i e; exact ⟨fun _ => e, fun _ => by decide⟩
  · rename_i e
    exact ⟨fun z => absurd z (nI_pos (by omega)), fun z => absurd z e⟩
noncomputable def st2j (X : Nat → Nat) (s j i : Nat) : Nat := itp (∃ t, t < j ∧ nwt X s t = i + 1) 0 (st1 X s (nE X s) i)
theorem nw_l {s : Nat} (he : nE X s ≤ 41) {Q : Rg → Ar → Prop}
    (hQ : ∀ μ', F01 μ μ' → PQ X s (nE X s) σ μ' → (∀ t, t < 48 → μ' 6 t = nwI (nwt X s t)) → (∀ i, i < nE X s → μ' 5 i = nI (st2 X s i)) → Q σ μ') :
    ∀ d t, t + d = 48 → ∀ μ1, F01 μ μ1 → PQ X s (nE X s) σ μ1 → (∀ t, t < 48 → μ1 6 t = nwI (nwt X s t)) → (∀ i, i < nE X s → μ1 5 i = nI (st2j X s t i)) → wl_X6_reads_307 Q (d + 1) σ μ1 (nI t) := by
  intro d
  induction d with
  | zero =>
    intro t ht μ1 F P hn hm
    have et : t = 48 := by omega
    subst et
    exact ⟨fun _ => hQ μ1 F P hn hm, fun z => absurd (by decide) z⟩
  | succ d ih =>
    intro t ht μ1 F P hn hm
    have hin : vp_in (nI t) 48 := pk_in t 48 (by omega) rfl
    have hle := nwN_le X s (nE X s) t
    refine pk_le 48 t (fun z => absurd z (by omega)) (fun _ => ⟨hin, ?_⟩) rfl rfl
    rw [nI_clamp (by omega), hn t (by omega)]
    refine ⟨fun z => ?_, fun z => ⟨hin, ?_⟩⟩
    · have e0 := (nwI_neg (by unfold nwt; omega)).mp z
      intro y ey
      rw [ey, i_p1]
      refine ih (t + 1) (by omega) μ1 F P hn (fun i hi => ?_)
      rw [hm i hi]
      congr 1
      unfold st2j
      have : (∃ a, a < t ∧ nwt X s a = i + 1) ↔ (∃ a, a < t + 1 ∧ nwt X s a = i + 1) := ⟨fun ⟨a, h, h2⟩ => ⟨a, by omega, h2⟩, fun ⟨a, h, h2⟩ => ⟨a, by
        rcases Nat.lt_or_ge a t with g | g
        · exact g
        · have : a = t := by omega
          subst this; omega, h2⟩⟩
      rw [propext this]
    · have e0 : nwt X s t ≠ 0 := fun g => z ((nwI_neg (by unfold nwt; omega)).mpr g)
      have e1 : nwI (nwt X s t) = nI (nwt X s t - 1) := if_neg e0
      have hl : nwt X s t - 1 < nE X s := by unfold nwt at *; omega
      rw [e1]
      refine ⟨pk_in _ 64 (by omega) rfl, fun μ2 eμ y ey => ?_⟩
      rw [ey, i_p1, eμ, nI_clamp (by omega)]
      refine ih (t + 1) (by omega) _ (F.tr (F01.set (by omega))) ⟨P.1, fun i hi => ?_⟩ (fun a ha => ?_) (fun i hi => ?_)
      · rw [ua_n (by omega), ua_n (by omega), ua_n (by omega)]; exact P.2 i hi
      · rw [ua_n (by omega)]; exact hn a ha
      · rw [ua_s]
        by_cases ei : i = nwt X s t - 1
        · rw [ei, up_s]
          unfold st2j
          rw [itp_pos ⟨t, by omega, by omega⟩]; rfl
        · rw [up_n ei, hm i hi]
          congr 1
          unfold st2j
          have : (∃ a, a < t ∧ nwt X s a = i + 1) ↔ (∃ a, a < t + 1 ∧ nwt X s a = i + 1) := ⟨fun ⟨a, h, h2⟩ => ⟨a, by omega, h2⟩, fun ⟨a, h, h2⟩ => ⟨a, by
            rcases Nat.lt_or_ge a t with g | g
            · exact g
            · have : a = t := by omega
              subst this; omega, h2⟩⟩
          rw [propext this]
theorem ne_l {s : Nat} (hR : RT μ X s) (hB : XB N X) (hs : s < 6) {Q : Rg → Ar → Prop}
    (hQ : ∀ μ', F01 μ μ' → PQ X s (nE X s) σ μ' → (∀ t, t < 48 → μ' 6 t = nwI (nwt X s t)) → (∀ i, i < nE X s → μ' 5 i = nI (st2 X s i)) → Q σ μ') :
    ∀ d j, j + d = nE X s → ∀ μ1, F01 μ μ1 → PQ X s (nE X s) σ μ1 → (∀ t, t < 48 → μ1 6 t = nwI (nwN X s j t)) → (∀ i, i < nE X s → μ1 5 i = nI (st1 X s (nE X s) i)) → wl_X6_reads_254 Q (d + 1) σ μ1 (nI s) (nI j) := by
  have b1 := hB.2.2.2.1
  have he := nE_le (s := s) b1
  have hE := nE_spec (s := s) b1
  intro d
  induction d with
  | zero =>
    intro j hj μ1 F P hn hm
    have ej : j = nE X s := by omega
    rw [ej] at hn ⊢
    refine pk_le _ _ (fun _ => ⟨48 + 1, ?_⟩) (fun z => absurd z (by omega)) P.1 rfl
    refine nw_l he hQ 48 0 (by omega) μ1 F P hn (fun i hi => ?_)
    rw [hm i hi]; unfold st2j; rw [itp_neg (fun ⟨a, h, _⟩ => absurd h (by omega))]
  | succ d ih =>
    intro j hj μ1 F P hn hm
    have hR1 := F.RT hR
    have hin : vp_in (nI j) 64 := pk_in j 64 (by omega) rfl
    obtain ⟨⟨g1, g2⟩, g3, g4⟩ := hE.1 j (by omega)
    obtain ⟨p2, p3, p4⟩ := P.2 j (by omega)
    have hkl := kd_le X s (ps X s j)
    have hsl := st1_le X s (nE X s) j
    have hk1 := kd_ok g3
    refine pk_le (nE X s) j (fun z => absurd z (by omega)) (fun _ => ⟨hin, ?_⟩) P.1 rfl
    have next : ¬ (kd X s (ps X s j) ≠ 3 ∧ st1 X s (nE X s) j = 1) → wb_X6_reads_299 Q (wl_X6_reads_254 Q (d + 1)) σ μ1 (nI s) (nI j) := by
      intro hc y ey
      rw [ey, i_p1]
      refine ih (j + 1) (by omega) μ1 F P (fun t ht => ?_) hm
      rw [hn t ht]
      show nwI (nwN X s j t) = nwI (itp _ _ _)
      rw [itp_neg (fun c => hc ⟨c.1, c.2.1⟩)]
    rw [nI_clamp (by omega), p2, p3, hm j (by omega)]
    refine ⟨fun z => next (fun c => c.1 ((nI_eq (by omega) (by omega)).mp z)), fun z => ⟨hin, fun q => next (fun c => q (by rw [c.2]; rfl)), fun q => ⟨hin, ?_⟩⟩⟩
    have k3 : kd X s (ps X s j) ≠ 3 := fun g => z (by rw [g]; rfl)
    have t1 : st1 X s (nE X s) j = 1 := (nI_eq (by omega) (by omega)).mp q
    have hlb : bt X s (ps X s j) < 48 := kdf_tag (b := bt X s (ps X s j + 1)) (by rw [← hk1.2]; exact g3) (by rw [← hk1.2]; exact k3)
    refine sr_byteAt hR1 hs (by omega) ⟨pk_in _ 48 hlb rfl, fun μ2 eμ y ey => ?_⟩
    rw [ey, i_p1, eμ, nI_clamp (by omega)]
    refine ih (j + 1) (by omega) _ (F.tr (F01.set (by omega))) ⟨P.1, fun i hi => ?_⟩ (fun a ha => ?_) (fun i hi => ?_)
    · rw [ua_n (by omega), ua_n (by omega), ua_n (by omega)]; exact P.2 i hi
    · rw [ua_s]
      show _ = nwI (itp _ _ _)
      by_cases ea : a = bt X s (ps X s j)
      · rw [ea, up_s, itp_pos ⟨k3, t1, rfl⟩]; rfl
      · rw [up_n ea, itp_neg (fun c => ea c.2.2.symm)]; exact hn a ha
    · rw [ua_n (by omega)]; exact hm i hi
theorem ni_l {s : Nat} {Q : Rg → Ar → Prop}
    (hQ : ∀ μ', F01 μ μ' → (∀ k, k ≠ 6 → μ' k = μ k) → (∀ t, t < 48 → μ' 6 t = nwI 0) → ∃ n, wl_X6_reads_254 Q n σ μ' (nI s) (nI 0)) :
    ∀ d t, t + d = 48 → ∀ μ1, F01 μ μ1 → (∀ k, k ≠ 6 → μ1 k = μ k) → (∀ a, a < t → μ1 6 a = nwI 0) → wl_X6_reads_233 Q (d + 1) σ μ1 (nI s) (nI t) := by
  intro d
  induction d with
  | zero =>
    intro t ht μ1 F f6 hn
    have et : t = 48 := by omega
    subst et
    exact ⟨fun _ => hQ μ1 F f6 hn, fun z => absurd (by decide) z⟩
  | succ d ih =>
    intro t ht μ1 F f6 hn
    refine pk_le 48 t (fun z => absurd z (by omega)) (fun _ => ⟨pk_in t 48 (by omega) rfl, fun μ2 eμ y ey => ?_⟩) rfl rfl
    rw [ey, i_p1, eμ, nI_clamp (by omega)]
    refine ih (t + 1) (by omega) _ (F.tr (F01.set (by omega))) (fun k hk => by rw [ua_n hk]; exact f6 k hk) (fun a ha => ?_)
    rw [ua_s]
    by_cases ea : a = t
    · rw [ea, up_s]; rfl
    · rw [up_n ea]; exact hn a (by omega)
/-- what READING leaves: entries, free, lost, rows, newest -/
def RD (X : Nat → Nat) (s : Nat) (σ : Rg) (μ : Ar) : Prop := PQ X s (nE X s) σ μ ∧ σ 3 = nI (frE X s) ∧ σ 4 = nI (loE X s) ∧ (∀ t, t < 48 → μ 6 t = nwI (nwt X s t)) ∧ ∀ i, i < nE X s → μ 5 i = nI (st2 X s i)
theorem sr_reads {s : Nat} (hR : RT μ X s) (hB : XB N X) (hs : s < 6) {Q : Rg → Ar → Prop}
    (hQ : ∀ σ' μ', F01 μ μ' → G3 σ σ' → RD X s σ' μ' → Q σ' μ') : wp_X6_reads σ μ (nI s) Q := by
  have b1 := hB.2.2.2.1
  have he := nE_le (s := s) b1
  have hE := nE_spec (s := s) b1
  intro σ2 e2 σ7 e7
  refine ⟨nE X s + 2, rd_l (σ := σ) hR hB hs hE he (fun σ' μ' l v F G P h4 hst hns => ?_) (nE X s) 0 (by omega) σ7 μ F01.rf ?_ ⟨?_, fun i hi => absurd hi (by omega)⟩ ?_⟩
  · intro σ3 e3
    have hfr : v = frE X s ∧ l = loE X s := by
      unfold frE loE
      by_cases hst2 : stopE X s (nE X s)
      · rw [itp_pos hst2, itp_pos hst2]; exact ⟨(hst hst2).2, (hst hst2).1⟩
      · rw [itp_neg hst2, itp_neg hst2]; exact ⟨(hns hst2).2, (hns hst2).1⟩
    have P2 : σ3 2 = nI (nE X s) := by rw [e3, up_n (by omega)]; exact P.1
    refine ⟨nE X s + 1, cm_l (σ := σ3) (F.RT hR) hB hs hE he (fun μ2 F2 f6 PQ2 hm => ?_) (nE X s) 0 (by omega) μ' F01.rf rfl ⟨P2, fun i hi => ?_⟩ (fun i hi => ?_)⟩
    · refine ⟨48 + 1, ni_l (s := s) (μ := μ2) (fun μ3 F3 f3 hn => ?_) 48 0 (by omega) μ2 F01.rf (fun _ _ => rfl) (fun a ha => absurd ha (by omega))⟩
      refine ⟨nE X s + 1, ne_l (μ := μ3) ((F.tr (F2.tr F3)).RT hR) hB hs (fun μ4 F4 PQ4 hn4 hm4 => ?_) (nE X s) 0 (by omega) μ3 F01.rf ⟨P2, fun i hi => ?_⟩ hn (fun i hi => ?_)⟩
      · refine hQ σ3 μ4 (F.tr (F2.tr (F3.tr F4))) (G.tr (by rw [e3]; exact G3.set (by omega))) ⟨PQ4, ?_, ?_, hn4, hm4⟩
        · rw [e3, up_s, hfr.1]
        · rw [e3, up_n (by omega), h4, hfr.2]
      · rw [f3 2 (by omega), f3 3 (by omega), f3 4 (by omega)]; exact PQ2.2 i hi
      · rw [f3 5 (by omega)]; exact hm i hi
    · have := P.2 i hi; exact ⟨this.1, this.2.1, this.2.2.1⟩
    · rw [st1_0]; exact (P.2 i hi).2.2.2
  · rw [e7, e2]; exact G3.tr (G3.set (by omega)) (G3.set (by omega))
  · rw [e7, up_n (by omega), e2, up_s]; rfl
  · rw [e7, up_s]; rfl
theorem sm_reads (hR : RM μ X) (hB : XB N X) {s : Nat} (hs : s < 6) {Q : Rg → Ar → Prop}
    (hQ : ∀ σ' μ', F01 μ μ' → G3 σ σ' → RD X s σ' μ' → Q σ' μ') : wp_X6_reads σ μ (nI s) Q := sr_reads (hR.rt hs) hB hs hQ
end MD
