/-! the reference: behind a handover; room -/
section MI
variable {σ : Rg} {μ : Ar} {X : Nat → Nat} {N : Nat}
theorem and255 : ∀ v, v < 256 → 255 &&& v = v := by decide +kernel
theorem er_ok {s : Nat} {Z : Zt} (h : (er s Z).2 = false) : Z.2 = false ∧ Z.1 4 ≠ 1 ∧ ∀ p, p < Z.1 1 → bt (er s Z).1 s p = 255 := by
  unfold er at *
  cases hz : Z.2 with
  | true => rw [hz] at h; rw [if_pos rfl] at h; exact absurd (hz.symm.trans h) (by decide)
  | false =>
    rw [hz, if_neg (by decide)] at h
    have h4 : Z.1 4 ≠ 1 := of_decide_eq_false h
    refine ⟨rfl, h4, fun p hp => ?_⟩
    rw [if_neg (by decide)]
    unfold bt
    dsimp only
    have : erm Z.1 = Z.1 1 := by unfold erm; rw [if_neg h4]
    rw [if_pos (by omega)]
theorem mkr_ok {n m : Nat} {Z : Zt} (h : (mkr n m Z).2 = false) : Z.2 = false ∧ ∀ s' q, q < 128 → (s' ≠ n ∨ 4 ≤ q) → bt (mkr n m Z).1 s' q = bt Z.1 s' q := by
  unfold mkr at *
  have h3 := (wr_ok h).1
  have h2 := (wr_ok h3).1
  have h1 := (wr_ok h2).1
  refine ⟨(wr_ok h1).1, fun s' q hq hd => ?_⟩
  rw [wr_bt h (by omega) hq, if_neg (by omega), wr_bt h3 (by omega) hq, if_neg (by omega), wr_bt h2 (by omega) hq, if_neg (by omega), wr_bt h1 (by omega) hq, if_neg (by omega)]
theorem ckd_le {l : List Nat} (h : ∀ v, v ∈ l → v ≤ 255) {v : Nat} (hv : v ∈ ckd l) : v ≤ 255 := by
  unfold ckd at hv
  rcases List.mem_append.mp hv with g | g
  · exact h v g
  · have : v = (lsm l + 85) % 251 := by simpa using g
    omega
theorem sB_le {a t n W v : Nat} (ht : t ≤ 255) (ha : a + n ≤ 255) (h : v ∈ sB a t n W) : v ≤ 255 := by
  refine ckd_le (fun w hw => ?_) h
  rcases List.mem_cons.mp hw with g | g
  · omega
  · rcases List.mem_cons.mp g with g | g
    · omega
    · exact byl_le g
theorem cB_le {t w v : Nat} (ht : t ≤ 255) (h : v ∈ cB t w) : v ≤ 255 := by
  refine ckd_le (fun x hx => ?_) h
  simp at hx
  omega
theorem eB_le (hB : XB N X) {s t v : Nat} (ht : t < 48) (g : hv X s t) (h : v ∈ eB X s t (nwt X s t - 1)) : v ≤ 255 := by
  have hi := nwt_i hB g.1
  obtain ⟨q1, q2, q3, q4, q5, q6⟩ := ent hB hi.1
  unfold eB at h
  split at h
  · exact cB_le (by omega) h
  · have := hi.2.1
    exact sB_le (by omega) (by have := (q5 (by omega)).2; omega) h
/-- what lies in the next sector, tags below t being laid -/
theorem hoN_ok (hB : XB N X) {s n : Nat} {Z : Zt} (hz : ∀ q, 4 ≤ q → q < X 1 → bt Z.1 n q = 255) : ∀ t, t ≤ 48 → (hoN X s n t Z).2 = false → Z.2 = false ∧ (∀ q, szN X s t ≤ q → q < X 1 → bt (hoN X s n t Z).1 n q = 255) ∧ ∀ t', t' < t → hv X s t' → ∀ i, szN X s t' + i < szN X s (t' + 1) → bt (hoN X s n t Z).1 n (szN X s t' + i) = ((eB X s t' (nwt X s t' - 1))[i]?).getD 255
  | 0, _, h => ⟨h, hz, fun t' ht => absurd ht (by omega)⟩
  | t + 1, ht, h => by
    have b1 := hB.2.2.2.1
    have hle := szN_le hB s (t + 1)
    have mono : ∀ a b, a ≤ b → szN X s a ≤ szN X s b := by
      intro a b hab
      induction b with
      | zero => have : a = 0 := by omega
                subst this; exact Nat.le_refl _
      | succ b ih =>
        by_cases e : a = b + 1
        · subst e; exact Nat.le_refl _
        · have := ih (by omega)
          have h2 : szN X s b ≤ szN X s (b + 1) := by show _ ≤ itp _ _ _; unfold itp; split <;> omega
          omega
    by_cases g : hv X s t
    · have h3 := szN_hv g
      have hl := eB_len X s t (nwt X s t - 1)
      rw [hoN_hv g] at h ⊢
      obtain ⟨l1, l2, l3⟩ := lay_ok (eB X s t (nwt X s t - 1)) (szN X s t) h (by omega)
      obtain ⟨r1, r2, r3⟩ := hoN_ok hB hz t (by omega) l1
      refine ⟨r1, fun q h1 h2 => ?_, fun t' ht' g' i hi => ?_⟩
      · rw [l3 n q (by omega) (by omega)]; exact r2 q (by omega) h2
      · by_cases e : t' = t
        · subst e
          cases hgi : (eB X s t' (nwt X s t' - 1))[i]? with
          | none =>
            have : (eB X s t' (nwt X s t' - 1)).length ≤ i := List.getElem?_eq_none_iff.mp hgi
            rw [l3 n _ (by omega) (by omega), r2 _ (by omega) (by omega)]; rfl
          | some v =>
            have hv' : v ∈ eB X s t' (nwt X s t' - 1) := List.mem_of_getElem? hgi
            have := eB_le hB (by omega) g' hv'
            rw [l2 i v hgi, r2 _ (by omega) (by omega), and255 v (by omega)]; rfl
        · have := mono (t' + 1) t (by omega)
          rw [l3 n _ (by omega) (by omega)]; exact r3 t' (by omega) g' i hi
    · rw [hoN_no g] at h ⊢
      obtain ⟨r1, r2, r3⟩ := hoN_ok hB hz t (by omega) h
      refine ⟨r1, fun q h1 h2 => r2 q (by rw [szN_no g] at h1; exact h1) h2, fun t' ht' g' i hi => ?_⟩
      by_cases e : t' = t
      · subst e; exact absurd g' g
      · exact r3 t' (by omega) g' i hi
/-- reading it again: the free place is where laying stopped -/
theorem fr_again (hB : XB N X) {s n : Nat} {Y : Nat → Nat} (hY : XB N Y) (h1 : Y 1 = X 1) (hf : ∀ q, szN X s 48 ≤ q → q < X 1 → bt Y n q = 255) (he : ∀ t, t < 48 → hv X s t → ∀ i, szN X s t + i < szN X s (t + 1) → bt Y n (szN X s t + i) = ((eB X s t (nwt X s t - 1))[i]?).getD 255) : frE Y n = szN X s 48 := by
  have key : ∀ t, t ≤ 48 → ps Y n (vdN X s t) = szN X s t ∧ ∀ k, k < vdN X s t → okE Y n k := by
    intro t
    induction t with
    | zero => exact fun _ => ⟨rfl, fun k hk => absurd hk (by show ¬ k < 0; omega)⟩
    | succ t ih =>
      intro ht
      obtain ⟨i1, i2⟩ := ih (by omega)
      by_cases g : hv X s t
      · have ev : vdN X s (t + 1) = vdN X s t + 1 := itp_pos g
        have h3 := szN_hv g
        have hle := szN_le hB s (t + 1)
        have hi := nwt_i hB g.1
        obtain ⟨q1, q2, q3, q4, q5, q6⟩ := ent hB hi.1
        have hk4 : kd X s (ps X s (nwt X s t - 1)) ≠ 4 := by omega
        have hko := kd_ok hk4
        rw [hi.2.2.2] at hko
        have hb0 := he t (by omega) g 0
        have hb1 := he t (by omega) g 1
        have hsz : kd Y n (szN X s t) ≠ 4 ∧ sz Y n (szN X s t) = szN X s (t + 1) - szN X s t ∧ bt Y n (szN X s t) = t := by
          by_cases e : kd X s (ps X s (nwt X s t - 1)) = 1
          · rw [if_pos e] at h3
            have e0 : bt Y n (szN X s t + 0) = t := by rw [hb0 (by omega)]; unfold eB; rw [if_pos e]; rfl
            have e1 : bt Y n (szN X s t + 1) = 43 := by rw [hb1 (by omega)]; unfold eB; rw [if_pos e]; rfl
            have ht' : 32 ≤ t ∧ t ≤ 47 := by
              have := hko.2.symm.trans e
              unfold kdf at this
              (repeat' split at this) <;> omega
            have ek : kd Y n (szN X s t) = 1 := by
              unfold kd
              rw [if_pos (by omega), e1]
              rw [show bt Y n (szN X s t) = t from e0]
              unfold kdf
              rw [if_neg (by omega), if_neg (by omega), if_pos (by omega)]
            refine ⟨by omega, ?_, e0⟩
            unfold sz; rw [ek, h3]; unfold szf; rw [if_pos rfl]; omega
          · rw [if_neg e] at h3
            have hn3 := hi.2.1
            obtain ⟨q7, q8⟩ := q5 (by omega)
            have e0 : bt Y n (szN X s t + 0) = t := by rw [hb0 (by omega)]; unfold eB; rw [if_neg e]; rfl
            have e1 : bt Y n (szN X s t + 1) = 16 + ln X s (nwt X s t - 1) := by rw [hb1 (by omega)]; unfold eB; rw [if_neg e]; rfl
            have ht' : t < 32 := by
              have hk02 : kd X s (ps X s (nwt X s t - 1)) = 0 ∨ kd X s (ps X s (nwt X s t - 1)) = 2 := by omega
              rw [hko.2] at hk02
              unfold kdf at hk02
              (repeat' split at hk02) <;> omega
            have ek : kd Y n (szN X s t) = 0 := by
              unfold kd
              rw [if_pos (by omega), e1]
              rw [show bt Y n (szN X s t) = t from e0]
              unfold kdf
              rw [if_pos (by omega)]
            refine ⟨by omega, ?_, e0⟩
            unfold sz; rw [ek, h3, e1]; unfold szf; rw [if_neg (by omega), if_neg (by omega)]; omega
        have hge := sz_ge Y n (szN X s t)
        rw [ev]
        refine ⟨?_, fun k hk => ?_⟩
        · show ps Y n (vdN X s t) + sz Y n (ps Y n (vdN X s t)) = _
          rw [i1, hsz.2.1]; omega
        · by_cases e : k = vdN X s t
          · subst e
            unfold okE
            rw [i1]
            refine ⟨⟨by omega, fun hb => ?_⟩, hsz.1, by omega⟩
            have := hb (szN X s t) (Nat.le_refl _) (by omega)
            rw [hsz.2.2] at this
            omega
          · exact i2 k (by omega)
      · have ev : vdN X s (t + 1) = vdN X s t := itp_neg g
        rw [ev, szN_no g]; exact ⟨i1, i2⟩
  obtain ⟨k1, k2⟩ := key 48 (by omega)
  have hbl : blnk Y n (szN X s 48) := fun q q1 q2 => hf q q1 (by omega)
  have hE : IsE Y n (vdN X s 48) := ⟨k2, fun ok => by
    have := ok.1.2
    rw [k1] at this
    exact this hbl⟩
  have en : nE Y n = vdN X s 48 := (nE_spec hY.2.2.2.1).uniq hE
  unfold frE
  rw [en, itp_pos (show stopE Y n (vdN X s 48) from Or.inr (by rw [k1]; exact hbl)), k1]
theorem ho4_XB {Z : Zt} (hB : XB N Z.1) (h3 : Z.1 3 < Z.1 0) : XB (N + 2) (ho4 Z).1 := er_XB (wr_XB (hoN_XB (mkr_XB (ho1_XB hB)) 48)) (by have := hB.2.1; omega)
theorem XB.far {X Y : Nat → Nat} (h : XB N X) (hy : ∀ q, q ≠ 3 → q ≠ 7 → q ≠ 8 → q ≠ 6 → q ≠ 9 → Y q = X q) : XB N Y := by
  obtain ⟨a, b, c, d, e, f, g, i, j, k⟩ := h
  refine ⟨?_, ?_, ?_, ?_, ?_, ?_, ?_, ?_, fun q h1 h2 => ?_, fun q h1 h2 => ?_⟩
  all_goals (rw [hy _ (by omega) (by omega) (by omega) (by omega) (by omega)])
  all_goals first | assumption | exact j q h1 h2 | exact k q h1 h2
theorem hoZ_XB {Z : Zt} (hB : XB N Z.1) (h3 : Z.1 3 < Z.1 0) : XB (N + 2) (hoZ Z).1 := by
  unfold hoZ
  split
  · exact ho4_XB hB h3
  · refine (ho4_XB hB h3).far (fun q h3 h7 _ _ _ => ?_)
    dsimp only; rw [ux_n h7, ux_n h3]
theorem ho1_far {Z : Zt} {q : Nat} (hq : fq q) : (ho1 Z).1 q = Z.1 q := by
  unfold ho1 itp
  split
  · rfl
  · exact er_far hq
theorem ho2_far {Z : Zt} {q : Nat} (hq : fq q) : (ho2 Z).1 q = Z.1 q := by
  unfold ho2 mkr
  rw [wr_far hq, wr_far hq, wr_far hq, wr_far hq]; exact ho1_far hq
theorem ho4_far {Z : Zt} {q : Nat} (hq : fq q) : (ho4 Z).1 q = Z.1 q := by
  unfold ho4
  rw [er_far hq, wr_far hq]
  exact (hoN_far hq 48).trans (ho2_far hq)
theorem hoZ_far {Z : Zt} {q : Nat} (hq : fq q) (h3 : q ≠ 3) (h7 : q ≠ 7) : (hoZ Z).1 q = Z.1 q := by
  unfold hoZ
  split
  · exact ho4_far hq
  · dsimp only; rw [ux_n h7, ux_n h3]; exact ho4_far hq
theorem hoZ_3 {Z : Zt} (hB : XB N Z.1) (h3 : Z.1 3 < Z.1 0) : (hoZ Z).1 3 < (hoZ Z).1 0 := by
  have hh : hon Z < Z.1 0 ∧ hon Z ≠ Z.1 3 := hon_s (b := Z.2) hB
  have e0 : (hoZ Z).1 0 = Z.1 0 := hoZ_far (by unfold fq; omega) (by omega) (by omega)
  rw [e0]
  unfold hoZ
  split
  · rw [ho4_far (by unfold fq; omega)]; exact h3
  · dsimp only; rw [ux_n (by omega), ux_s]; exact hh.1
theorem hoZ_fr {Z : Zt} (hB : XB N Z.1) (h3 : Z.1 3 < Z.1 0) (h : (hoZ Z).2 = false) : frE (hoZ Z).1 ((hoZ Z).1 3) = szN Z.1 (Z.1 3) 48 := by
  have hh : hon Z < Z.1 0 ∧ hon Z ≠ Z.1 3 := hon_s (b := Z.2) hB
  have b6 := hB.2.1
  have b1 := hB.2.2.2.1
  have h4 : (ho4 Z).2 = false := by
    unfold hoZ at h
    split at h
    · rename_i g; rw [g] at h; exact absurd h (by decide)
    · rename_i g; exact Bool.eq_false_iff.mpr g
  have ex : hoZ Z = (ux (ux (ho4 Z).1 3 (hon Z)) 7 ((ho4 Z).1 7 + 1), false) := by unfold hoZ; rw [h4]; rfl
  have hw : (wr (hon Z) 0 63 (ho3 Z)).2 = false := (er_ok h4).1
  have hho3 : (ho3 Z).2 = false := (wr_ok hw).1
  have hB1 := ho1_XB hB
  have hB2 : XB (N + 1) (ho2 Z).1 := mkr_XB hB1
  have hB3 : XB (N + 1) (wr (hon Z) 0 63 (ho3 Z)).1 := wr_XB (hoN_XB hB2 48)
  have e3 : (hoZ Z).1 3 = hon Z := by rw [ex]; dsimp only; rw [ux_n (by omega), ux_s]
  have eb : ∀ q, 4 ≤ q → q < 128 → bt (hoZ Z).1 (hon Z) q = bt (ho3 Z).1 (hon Z) q := by
    intro q q4 q8
    have e : bt (hoZ Z).1 (hon Z) q = bt (ho4 Z).1 (hon Z) q := by rw [ex]; unfold bt; dsimp only; rw [ux_n (by omega), ux_n (by omega)]
    rw [e]
    unfold ho4
    rw [er_o hB3 hh.2 (by omega) q8, wr_bt hw (by omega) q8, if_neg (by omega)]
  -- the sector was blank
  have hz1 : (ho2 Z).2 = false → ∀ q, 4 ≤ q → q < Z.1 1 → bt (ho2 Z).1 (hon Z) q = 255 := by
    intro hz q q4 qb
    obtain ⟨m1, m2⟩ := mkr_ok hz
    have : bt (ho2 Z).1 (hon Z) q = bt (ho1 Z).1 (hon Z) q := m2 _ _ (by omega) (by omega)
    rw [this]
    unfold ho1 at *
    by_cases g : blnk Z.1 (hon Z) 0
    · rw [itp_pos g]; exact g q (by omega) qb
    · rw [itp_neg g] at m1 ⊢; exact (er_ok m1).2.2 q qb
  have gone2 : (ho2 Z).2 = false := by
    cases hz : (ho2 Z).2 with
    | false => rfl
    | true =>
      exfalso
      have : ∀ t, (hoN Z.1 (Z.1 3) (hon Z) t (ho2 Z)).2 = true := by
        intro t
        induction t with
        | zero => exact hz
        | succ t ih =>
          by_cases g : hv Z.1 (Z.1 3) t
          · rw [hoN_hv g]
            have wg : ∀ (l : List Nat) (p : Nat) (W : Zt), W.2 = true → (lay (hon Z) p l W).2 = true := by
              intro l
              induction l with
              | nil => exact fun _ _ h => h
              | cons v l ihl => exact fun p W hW => ihl (p + 1) _ (by unfold wr; rw [if_pos hW]; exact hW)
            exact wg _ _ _ ih
          · rw [hoN_no g]; exact ih
      have h48 := this 48
      unfold ho3 at hho3
      rw [h48] at hho3
      exact absurd hho3 (by decide)
  obtain ⟨r1, r2, r3⟩ := hoN_ok hB (n := hon Z) (s := Z.1 3) (hz1 gone2) 48 (by omega) hho3
  rw [e3]
  have hY := hoZ_XB hB h3
  have hmono : ∀ t, t < 48 → szN Z.1 (Z.1 3) (t + 1) ≤ Z.1 1 := fun t _ => szN_le hB _ _
  refine fr_again (hB.mono (M := N + 2) (by omega)) hY (hoZ_far (by unfold fq; omega) (by omega) (by omega)) (fun q q1 q2 => ?_) (fun t ht g i hi => ?_)
  · have := szN_ge Z.1 (Z.1 3) 48
    rw [eb q (by omega) (by omega)]; exact r2 q q1 q2
  · have := szN_ge Z.1 (Z.1 3) t
    have := hmono t ht
    rw [eb _ (by omega) (by omega)]; exact r3 t ht g i hi
end MI
