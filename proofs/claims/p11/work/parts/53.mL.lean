/-! the reference: what a doing leaves of a change; set, begin, abort, off, power -/
def DN (X Y : Nat → Nat) : Prop := (∀ q, 11 ≤ q → q < 36 → Y q = X q) ∧ Y 10 ≤ X 10
section ML
variable {σ : Rg} {μ : Ar} {X : Nat → Nat} {N : Nat}
theorem dn_rf : DN X X := ⟨fun _ _ _ => rfl, Nat.le_refl _⟩
theorem dn_tr {A B C : Nat → Nat} (h : DN A B) (h2 : DN B C) : DN A C := ⟨fun q q1 q2 => (h2.1 q q1 q2).trans (h.1 q q1 q2), Nat.le_trans h2.2 h.2⟩
theorem dn_C {Y : Nat → Nat} (hC : CX X) (hB : XB N X) (h : DN X Y) : CX Y := fun h10 => by
  have h1 := hB.2.2.2.2.2.2.2.1
  have h2 := h.2
  obtain ⟨c1, c2⟩ := hC (by omega)
  have e11 := h.1 11 (by omega) (by omega)
  refine ⟨by omega, fun k hk => ?_⟩
  rw [h.1 (12 + k) (by omega) (by omega), h.1 (28 + k) (by omega) (by omega)]
  exact c2 k (by omega)
theorem dn_ux {k v : Nat} (hk : k < 10 ∨ 36 ≤ k) : DN X (ux X k v) := ⟨fun q _ _ => ux_n (by omega), by rw [ux_n (by omega)]; exact Nat.le_refl _⟩
theorem dn_go : DN X (goX X) := ⟨fun q _ _ => goX_far (by omega) (by omega) (by omega) (by omega) (by omega), by rw [goX_10]; split <;> omega⟩
theorem dn_wr {s p v : Nat} {Z : Zt} : DN Z.1 (wr s p v Z).1 := by
  unfold wr
  split
  · exact dn_rf
  · exact dn_tr (dn_ux (by omega)) (dn_tr dn_go (dn_ux (by omega)))
theorem dn_er {s : Nat} {Z : Zt} : DN Z.1 (er s Z).1 := by
  unfold er
  split
  · exact dn_rf
  · refine dn_tr (dn_ux (k := 36 + s) (v := Z.1 (36 + s) + 1) (by omega)) (dn_tr dn_go ⟨fun q _ _ => if_neg (by omega), ?_⟩)
    dsimp only; rw [if_neg (by omega)]; exact Nat.le_refl _
theorem dn_lay {s : Nat} : ∀ (l : List Nat) (p : Nat) {Z : Zt}, DN Z.1 (lay s p l Z).1
  | [], _, _ => dn_rf
  | _ :: l, p, _ => dn_tr dn_wr (dn_lay l (p + 1))
theorem dn_mkr {s n : Nat} {Z : Zt} : DN Z.1 (mkr s n Z).1 := dn_tr dn_wr (dn_tr dn_wr (dn_tr dn_wr dn_wr))
theorem dn_hoN {s n : Nat} {Z : Zt} : ∀ t, DN Z.1 (hoN X s n t Z).1
  | 0 => dn_rf
  | t + 1 => by
    by_cases g : hv X s t
    · rw [hoN_hv g]; exact dn_tr (dn_hoN t) (dn_lay _ _)
    · rw [hoN_no g]; exact dn_hoN t
theorem dn_ho1 {Z : Zt} : DN Z.1 (ho1 Z).1 := by
  unfold ho1 itp
  split
  · exact dn_rf
  · exact dn_er
theorem dn_ho4 {Z : Zt} : DN Z.1 (ho4 Z).1 := dn_tr dn_ho1 (dn_tr dn_mkr (dn_tr (dn_hoN 48) (dn_tr dn_wr dn_er)))
theorem dn_hoZ {Z : Zt} : DN Z.1 (hoZ Z).1 := by
  unfold hoZ
  split
  · exact dn_ho4
  · exact dn_tr dn_ho4 (dn_tr (dn_ux (by omega)) (dn_ux (by omega)))
theorem dn_mrZ {m : Nat} {Z : Zt} : DN Z.1 (mrZ m Z).1 := by
  unfold mrZ itp
  split
  · exact dn_rf
  · exact dn_hoZ
theorem dn_stZ {t n W : Nat} : DN X (stZ X t n W).1 := by
  have h0 : DN X (ux X 8 0) := dn_ux (by omega)
  unfold stZ itp
  split
  · exact dn_tr h0 (dn_tr (dn_mrZ (Z := (ux X 8 0, false))) (dn_lay _ _))
  · exact h0
theorem dn_eoN {u : Nat} {Z : Zt} : ∀ j, DN Z.1 (eoN u j Z).1
  | 0 => dn_rf
  | j + 1 => by
    show DN Z.1 (itp _ _ _ : Zt).1
    unfold itp
    split
    · exact dn_eoN j
    · exact dn_tr (dn_eoN j) dn_er
theorem dn_onX {s : Nat} {Z : Zt} : DN Z.1 (onX s Z).1 := by
  unfold onX
  split
  · exact dn_rf
  · exact dn_tr (dn_ux (by omega)) (dn_ux (by omega))
theorem dn_swZ {Z : Zt} : DN Z.1 (swZ Z).1 := by
  unfold swZ
  split
  · exact dn_tr (dn_eoN _) (dn_tr dn_mkr (dn_tr dn_wr dn_onX))
  · exact dn_tr (dn_eoN _) dn_onX
theorem stZ_I {t n W : Nat} (hI : IX N X) : IX (N + 2) (stZ X t n W).1 := ⟨stZ_XB hI.1 hI.2.1, stZ_3 hI.1 hI.2.1, dn_C hI.2.2 hI.1 dn_stZ⟩
theorem IX.mono {M : Nat} (h : IX N X) (hm : N ≤ M) : IX M X := ⟨h.1.mono hm, h.2⟩
theorem ssX_I {t n : Nat} {v : Int32} (hI : IX N X) (ht : t ≤ 31) (hn : n ≤ 4) : IX (N + 2) (ssX X t n v) := by
  unfold ssX
  split
  · rename_i h; exact (tlX_I hI h ht hn).mono (by omega)
  · exact stZ_I hI
theorem sm_isSetting (hR : RM μ X) (hB : XB N X) {x1 x2 : Int32} {Q : Int32 → Rg → Ar → Prop} (h1 : stok X x1 x2 → Q 1 σ μ) (h0 : ¬ stok X x1 x2 → Q 0 σ μ) : wp_X6_isSetting σ μ x1 x2 Q := by
  refine sm_isOn hR hB.2.2.2.2.1 (fun e => ⟨fun z => absurd z (by decide), fun _ => ?_⟩) (fun e => ⟨fun _ => ⟨bz0, h0 (fun c => absurd (c.1.symm.trans e) (by decide))⟩, fun z => absurd rfl z⟩)
  refine sm_within (fun a b => ⟨fun z => absurd z (by decide), fun _ => ?_⟩) (fun g => ⟨fun _ => ⟨bz0, h0 (fun c => ?_)⟩, fun z => absurd rfl z⟩)
  · refine sm_within (fun a2 b2 => ⟨fun z => absurd z (by decide), fun _ => ⟨bz1, h1 ?_⟩⟩) (fun g => ⟨fun _ => ⟨bz0, h0 (fun c => ?_)⟩, fun z => absurd rfl z⟩)
    · obtain ⟨t, ht⟩ := nI_of a
      have ht1 : t ≤ 31 := Nat.not_lt.mp (fun g => b (by rw [ht.2]; exact nI_lt (a := 31) g (by omega)))
      have hx2 : ¬ x2 < 0 := fun g => a2 (by
        have h2 : (0 : Int32) < 1 := by decide
        exact Int32.lt_trans g h2)
      obtain ⟨n, hn⟩ := nI_of hx2
      have hn1 : n ≤ 4 := Nat.not_lt.mp (fun g => b2 (by rw [hn.2]; exact nI_lt (a := 4) g (by omega)))
      have hn0 : 1 ≤ n := Nat.not_lt.mp (fun g => a2 (by rw [hn.2]; exact nI_lt (b := 1) g (by omega)))
      exact ⟨e, ⟨t, ht1, ht.2⟩, n, hn0, hn1, hn.2⟩
    · obtain ⟨_, _, n, hn0, hn1, hn⟩ := c
      rw [hn] at g
      rcases g with g | g
      · have := (nI_ltI (b := 1) (by omega) (by omega)).mp g; omega
      · have := (nI_ltI (a := 4) (by omega) (by omega)).mp g; omega
  · obtain ⟨_, ⟨t, ht, et⟩, _⟩ := c
    rw [et] at g
    rcases g with g | g
    · exact absurd g (nI_pos (by omega))
    · have := (nI_ltI (a := 31) (by omega) (by omega)).mp g; omega
theorem K0 {σ2 : Rg} (e : σ2 = upd σ 0 (0 : Int32)) : σ2 0 = 0 := by rw [e, up_s]
/-- set -/
theorem sm_set (hR : RM μ X) (hI : IX N X) (hN : N < 2 ^ 28) {x1 v x3 : Int32} {Q : Int32 → Rg → Ar → Prop} (h1 : ∀ t n, t ≤ 31 → 1 ≤ n → n ≤ 4 → x1 = nI t → x3 = nI n → X 2 = 1 → ∀ σ' μ', RM μ' (ssX X t n v) → μ' 1 = μ 1 → σ' 0 = 0 → Q (ssA X t n v) σ' μ') (h0 : ¬ stok X x1 x3 → ∀ σ', σ' 0 = 0 → Q (-1) σ' μ) : wp_X6_set σ μ x1 v x3 Q := by
  intro σ2 e2
  refine sm_isSetting hR hI.1 (fun c => ⟨fun z => absurd z (by decide), fun _ => ?_⟩) (fun c => ⟨fun _ => h0 c σ2 (K0 e2), fun z => absurd rfl z⟩)
  obtain ⟨c1, ⟨t, ht, et⟩, n, hn0, hn, en⟩ := c
  have h := h1 t n ht hn0 hn et en c1
  rw [et, en]
  exact sm_sets hR hI hN ht hn (fun σ' μ' R' K' => h σ' μ' R' K'.2 (K'.1.trans (K0 e2)))
end ML
