/-! the reference: laying entries -/
def byl (W : Nat) : Nat → List Nat
  | 0 => []
  | i + 1 => (W / 256 ^ i % 256) :: byl W i
def lay (s : Nat) : Nat → List Nat → Zt → Zt
  | _, [], Z => Z
  | p, v :: l, Z => lay s (p + 1) l (wr s p v Z)
def lsm : List Nat → Nat
  | [] => 0
  | v :: l => v + lsm l
def ckd (l : List Nat) : List Nat := l ++ [(lsm l + 85) % 251]
def sB (a t n W : Nat) : List Nat := ckd (t :: (a + n) :: byl W n)
def cB (t w : Nat) : List Nat := ckd [t, 43, w / 65536 % 256, w / 256 % 256, w % 256]
def RLa (σ : Rg) (μ : Ar) (Z : Zt) (s p c : Nat) : Prop := RW σ μ Z ∧ σ 5 = nI s ∧ σ 6 = nI p ∧ σ 7 = nI c
def FL (σ σ' : Rg) : Prop := ∀ k, k ≠ 1 → k ≠ 6 → k ≠ 7 → σ' k = σ k
section MG
variable {σ : Rg} {μ : Ar} {X : Nat → Nat} {N : Nat}
theorem FL.rf : FL σ σ := fun _ _ _ _ => rfl
theorem FL.tr {a b c : Rg} (h : FL a b) (h2 : FL b c) : FL a c := fun k h1 h6 h7 => (h2 k h1 h6 h7).trans (h k h1 h6 h7)
theorem byl_len (W n : Nat) : (byl W n).length = n := by
  induction n with
  | zero => rfl
  | succ n ih => show (byl W n).length + 1 = _; rw [ih]
theorem byl_le {W n v : Nat} (h : v ∈ byl W n) : v ≤ 255 := by
  induction n with
  | zero => cases h
  | succ n ih =>
    cases h with
    | head => omega
    | tail _ h => exact ih h
theorem lsm_app (l m : List Nat) : lsm (l ++ m) = lsm l + lsm m := by
  induction l with
  | nil => show lsm m = 0 + lsm m; omega
  | cons v l ih => show v + lsm (l ++ m) = v + lsm l + lsm m; omega
theorem lay_app (s : Nat) (m : List Nat) : ∀ (l : List Nat) (p : Nat) (Z : Zt), lay s p (l ++ m) Z = lay s (p + l.length) m (lay s p l Z)
  | [], p, Z => rfl
  | v :: l, p, Z => by
    show lay s (p + 1) (l ++ m) (wr s p v Z) = lay s (p + (l.length + 1)) m (lay s (p + 1) l (wr s p v Z))
    rw [lay_app s m l, show p + 1 + l.length = p + (l.length + 1) by omega]
theorem lay_XB {s : Nat} : ∀ (l : List Nat) (p : Nat) {Z : Zt}, XB N Z.1 → XB N (lay s p l Z).1
  | [], _, _, h => h
  | _ :: l, p, _, h => lay_XB l (p + 1) (wr_XB h)
theorem lay_far {s q : Nat} (h : fq q) : ∀ (l : List Nat) (p : Nat) {Z : Zt}, (lay s p l Z).1 q = Z.1 q
  | [], _, _ => rfl
  | _ :: l, p, _ => (lay_far h l (p + 1)).trans (wr_far h)
theorem sm_lays {Z : Zt} {s p c v : Nat} (hL : RLa σ μ Z s p c) (hB : XB N Z.1) (hs : s < 6) (hp : p < 128) {Q : Rg → Ar → Prop} (hQ : ∀ σ' μ', RLa σ' μ' (wr s p v Z) s (p + 1) (c + v) → FL σ σ' → FA μ μ' → Q σ' μ') {x : Int32} (hx : x = nI v) : wp_X6_lays σ μ x Q := by
  obtain ⟨hW, h5, h6, h7⟩ := hL
  unfold wp_X6_lays
  rw [h5, h6, hx]
  refine sm_writes hW hB hs hp (fun σ1 μ1 W1 S1 A1 σ2 e2 σ3 e3 => ?_)
  have F : FL σ σ3 := fun k k1 k6 k7 => by rw [e3, up_n k7, e2, up_n k6]; exact S1 k k1
  refine hQ σ3 μ1 ⟨⟨W1.1, ?_⟩, ?_, ?_, ?_⟩ F A1
  · rw [e3, up_n (by omega), e2, up_n (by omega)]; exact W1.2
  · rw [e3, up_n (by omega), e2, up_n (by omega), S1 5 (by omega), h5]
  · rw [e3, up_n (by omega), e2, up_s, S1 6 (by omega), h6]; exact i_p1 p
  · rw [e3, up_s, e2, up_n (by omega), S1 7 (by omega), h7]; exact nI_add c v
/-- all is gone: nothing is laid -/
theorem sg_lays (h1 : σ 1 = 1) {x : Int32} {Q : Rg → Ar → Prop} (hQ : ∀ σ', FL σ σ' → σ' 1 = 1 → Q σ' μ) : wp_X6_lays σ μ x Q := by
  refine ⟨fun z => absurd (h1.symm.trans z) (by decide), fun _ σ2 e2 σ3 e3 => ?_⟩
  refine hQ σ3 (fun k k1 k6 k7 => by rw [e3, up_n k7, e2, up_n k6]) ?_
  rw [e3, up_n (by omega), e2, up_n (by omega)]; exact h1
theorem sm_laysCheck {Z : Zt} {s p c : Nat} (hL : RLa σ μ Z s p c) (hB : XB N Z.1) (hs : s < 6) (hp : p < 128) (hc : c < 2 ^ 30) {Q : Rg → Ar → Prop} (hQ : ∀ σ' μ' c', RLa σ' μ' (wr s p ((c + 85) % 251) Z) s (p + 1) c' → FL σ σ' → FA μ μ' → Q σ' μ') : wp_X6_laysCheck σ μ Q := by
  unfold wp_X6_laysCheck
  rw [hL.2.2.2]
  refine sm_check hc ?_
  exact sm_lays hL hB hs hp (fun σ1 μ1 L1 F1 A1 => hQ σ1 μ1 _ L1 F1 A1) rfl
theorem sg_laysCheck (h1 : σ 1 = 1) {Q : Rg → Ar → Prop} (hQ : ∀ σ', FL σ σ' → σ' 1 = 1 → Q σ' μ) : wp_X6_laysCheck σ μ Q := sg_lays h1 hQ
theorem v_shr (v : BitVec 64) (k : Nat) (hk : k ≤ 24) : ((v.sshiftRight k).signExtend 32).toNat % 2 ^ 8 = v.toNat / 2 ^ k % 2 ^ 8 := by
  apply Nat.eq_of_testBit_eq
  intro i
  rw [Nat.testBit_mod_two_pow, Nat.testBit_mod_two_pow, Nat.testBit_div_two_pow]
  by_cases hi : i < 8
  · rw [BitVec.testBit_toNat, BitVec.testBit_toNat, BitVec.getLsbD_signExtend, BitVec.getLsbD_sshiftRight]
    have h1 : i < 32 := by omega
    have h2 : i < 64 := by omega
    have h3 : k + i < 64 := by omega
    have h4 : ¬ 64 ≤ i := by omega
    simp [hi, h1, h2, h3, h4, Nat.add_comm]
  · simp [hi]
theorem v_by (V : Int64) : ∀ j, j ≤ 3 → ((((V >>> ((((8 : Int32) * nI j)).toInt64 &&& 63))).toInt32 &&& (255 : Int32)) = nI (V.toBitVec.toNat / 256 ^ j % 256)) := by
  intro j hj
  rw [pk_and _ 8 rfl]
  rcases (show j = 0 ∨ j = 1 ∨ j = 2 ∨ j = 3 by omega) with e | e | e | e <;> subst e
  · exact congrArg nI (v_shr V.toBitVec 0 (by omega))
  · exact congrArg nI (v_shr V.toBitVec 8 (by omega))
  · exact congrArg nI (v_shr V.toBitVec 16 (by omega))
  · exact congrArg nI (v_shr V.toBitVec 24 (by omega))
theorem byl_sum (W n : Nat) : lsm (byl W n) ≤ 255 * n := by
  induction n with
  | zero => exact Nat.le_refl _
  | succ n ih => show _ % 256 + lsm (byl W n) ≤ _; omega
theorem sm_laysSetting {Z : Zt} {s p c a t n : Nat} {V : Int64} (hL : RLa σ μ Z s p c) (hB : XB N Z.1) (hs : s < 6) (hp : p + (3 + n) ≤ 128) (hn : n ≤ 4) (ha : a + t < 2 ^ 20) {Q : Rg → Ar → Prop} (hQ : ∀ σ' μ' c', RLa σ' μ' (lay s p (sB a t n V.toBitVec.toNat) Z) s (p + (3 + n)) c' → FL σ σ' → FA μ μ' → Q σ' μ') : wp_X6_laysSetting σ μ (nI a) (nI t) (nI n) V Q := by
  intro σ0 e0
  have L0 : RLa σ0 μ Z s p 0 := ⟨⟨hL.1.1, by rw [e0, up_n (by omega)]; exact hL.1.2⟩, by rw [e0, up_n (by omega)]; exact hL.2.1, by rw [e0, up_n (by omega)]; exact hL.2.2.1, by rw [e0, up_s]; rfl⟩
  have F0 : FL σ σ0 := fun k _ _ k7 => by rw [e0, up_n k7]
  refine sm_lays L0 hB hs (by omega) (fun σ1 μ1 L1 F1 A1 => ?_) rfl
  refine sm_lays L1 (wr_XB hB) hs (by omega) (fun σ2 μ2 L2 F2 A2 y ey => ?_) (nI_add a n)
  have key : ∀ i j p' c', i + j = n → p' + i + 1 ≤ 128 → c' + 255 * i < 2 ^ 29 → ∀ σ3 μ3 (Z3 : Zt), XB N Z3.1 → RLa σ3 μ3 Z3 s p' c' → FL σ σ3 → FA μ μ3 → (∀ σ' μ' c'', RLa σ' μ' (lay s p' (byl V.toBitVec.toNat i ++ [((c' + lsm (byl V.toBitVec.toNat i)) + 85) % 251]) Z3) s (p' + i + 1) c'' → FL σ σ' → FA μ μ' → Q σ' μ') → wl_X6_laysSetting_22 Q (i + 1) σ3 μ3 V (nI i - 1) := by
    intro i
    induction i with
    | zero =>
      intro j p' c' hij hp' hc' σ3 μ3 Z3 hB3 L3 F3 A3 hQ3
      refine ⟨fun _ => ?_, fun z => absurd (by decide) z⟩
      exact sm_laysCheck L3 hB3 hs (by omega) (by omega) (fun σ4 μ4 c4 L4 F4 A4 => hQ3 σ4 μ4 c4 L4 (F3.tr F4) (A3.tr A4))
    | succ i ih =>
      intro j p' c' hij hp' hc' σ3 μ3 Z3 hB3 L3 F3 A3 hQ3
      rw [nI_pred]
      refine ⟨fun z => absurd z (nI_pos (by omega)), fun _ => ?_⟩
      refine sm_lays L3 hB3 hs (by omega) (fun σ4 μ4 L4 F4 A4 y ey => ?_) (v_by V i (by omega))
      have e2 : y = nI i - 1 := by rw [ey]; exact (Int32.sub_eq_add_neg _ _).symm
      rw [e2]
      refine ih (j + 1) (p' + 1) _ (by omega) (by omega) (by omega) σ4 μ4 _ (wr_XB hB3) L4 (F3.tr F4) (A3.tr A4) (fun σ' μ' c'' L' F' A' => hQ3 σ' μ' c'' ?_ F' A')
      rw [show p' + 1 + i + 1 = p' + (i + 1) + 1 by omega] at L'
      have e3 : lsm (byl V.toBitVec.toNat (i + 1)) = V.toBitVec.toNat / 256 ^ i % 256 + lsm (byl V.toBitVec.toNat i) := rfl
      rw [Nat.add_assoc c', ← e3] at L'
      exact L'
  rw [ey]
  refine ⟨n + 1, key n 0 (p + 1 + 1) (0 + t + (a + n)) (by omega) (by omega) (by omega) σ2 μ2 _ (wr_XB (wr_XB hB)) L2 (F0.tr (F1.tr F2)) (A1.tr A2) (fun σ' μ' c'' L' F' A' => ?_)⟩
  rw [show p + 1 + 1 + n + 1 = p + (3 + n) by omega] at L'
  refine hQ σ' μ' c'' ?_ F' A'
  have e4 : lsm (t :: (a + n) :: byl V.toBitVec.toNat n) = 0 + t + (a + n) + lsm (byl V.toBitVec.toNat n) := by show t + ((a + n) + _) = _; omega
  unfold sB ckd
  rw [e4]
  exact L'
theorem sg_laysSetting (h1 : σ 1 = 1) {a t : Int32} {n : Nat} {V : Int64} (hn : n ≤ 4) {Q : Rg → Ar → Prop} (hQ : ∀ σ', FL σ σ' → σ' 1 = 1 → Q σ' μ) : wp_X6_laysSetting σ μ a t (nI n) V Q := by
  intro σ0 e0
  have F0 : FL σ σ0 := fun k _ _ k7 => by rw [e0, up_n k7]
  refine sg_lays (by rw [e0, up_n (by omega)]; exact h1) (fun σ1 F1 g1 => sg_lays g1 (fun σ2 F2 g2 y ey => ?_))
  have key : ∀ i, i ≤ 4 → ∀ σ3, FL σ σ3 → σ3 1 = 1 → wl_X6_laysSetting_22 Q (i + 1) σ3 μ V (nI i - 1) := by
    intro i
    induction i with
    | zero =>
      intro hi σ3 F3 g3
      exact ⟨fun _ => sg_laysCheck g3 (fun σ4 F4 g4 => hQ σ4 (F3.tr F4) g4), fun z => absurd (by decide) z⟩
    | succ i ih =>
      intro hi σ3 F3 g3
      rw [nI_pred]
      refine ⟨fun z => absurd z (nI_pos (by omega)), fun _ => sg_lays g3 (fun σ4 F4 g4 y ey => ?_)⟩
      have e2 : y = nI i - 1 := by rw [ey]; exact (Int32.sub_eq_add_neg _ _).symm
      rw [e2]
      exact ih (by omega) σ4 (F3.tr F4) g4
  rw [ey]
  exact ⟨n + 1, key n hn σ2 (F0.tr (F1.tr F2)) g2⟩
theorem i_b2 (w : Nat) (hw : w < 2 ^ 31) : (nI w >>> ((16 : Int32) &&& 31)) &&& (255 : Int32) = nI (w / 65536 % 256) := by
  rw [pk_shrN hw ((16 : Int32) &&& 31) 16 (by decide), pk_andN (by omega) 8 rfl]
theorem i_b1 (w : Nat) (hw : w < 2 ^ 31) : (nI w >>> ((8 : Int32) &&& 31)) &&& (255 : Int32) = nI (w / 256 % 256) := by
  rw [pk_shrN hw ((8 : Int32) &&& 31) 8 (by decide), pk_andN (by omega) 8 rfl]
theorem i_b0 (w : Nat) (hw : w < 2 ^ 31) : nI w &&& (255 : Int32) = nI (w % 256) := by rw [pk_andN (by omega) 8 rfl]
theorem sm_laysCounter {Z : Zt} {s p c t w : Nat} (hL : RLa σ μ Z s p c) (hB : XB N Z.1) (hs : s < 6) (hp : p + 14 ≤ 128) (hw : w < 2 ^ 31) (ht : t < 2 ^ 20) {Q : Rg → Ar → Prop} (hQ : ∀ σ' μ' c', RLa σ' μ' (lay s p (cB t w) Z) s (p + 14) c' → FL σ σ' → FA μ μ' → Q σ' μ') : wp_X6_laysCounter σ μ (nI t) (nI w) Q := by
  intro σ0 e0
  have L0 : RLa σ0 μ Z s p 0 := ⟨⟨hL.1.1, by rw [e0, up_n (by omega)]; exact hL.1.2⟩, by rw [e0, up_n (by omega)]; exact hL.2.1, by rw [e0, up_n (by omega)]; exact hL.2.2.1, by rw [e0, up_s]; rfl⟩
  have F0 : FL σ σ0 := fun k _ _ k7 => by rw [e0, up_n k7]
  refine sm_lays L0 hB hs (by omega) (fun σ1 μ1 L1 F1 A1 => ?_) rfl
  refine sm_lays (v := 43) L1 (wr_XB hB) hs (by omega) (fun σ2 μ2 L2 F2 A2 => ?_) rfl
  refine sm_lays L2 (wr_XB (wr_XB hB)) hs (by omega) (fun σ3 μ3 L3 F3 A3 => ?_) (i_b2 w hw)
  refine sm_lays L3 (wr_XB (wr_XB (wr_XB hB))) hs (by omega) (fun σ4 μ4 L4 F4 A4 => ?_) (i_b1 w hw)
  refine sm_lays L4 (wr_XB (wr_XB (wr_XB (wr_XB hB)))) hs (by omega) (fun σ5 μ5 L5 F5 A5 => ?_) (i_b0 w hw)
  refine sm_laysCheck L5 (wr_XB (wr_XB (wr_XB (wr_XB (wr_XB hB))))) hs (by omega) (by omega) (fun σ6 μ6 c6 L6 F6 A6 σ7 e7 => ?_)
  refine hQ σ7 μ6 c6 ⟨⟨?_, ?_⟩, ?_, ?_, ?_⟩ (F0.tr (F1.tr (F2.tr (F3.tr (F4.tr (F5.tr (F6.tr (fun k _ k6 _ => by rw [e7, up_n k6])))))))) (A1.tr (A2.tr (A3.tr (A4.tr (A5.tr A6)))))
  · have e4 : lsm [t, 43, w / 65536 % 256, w / 256 % 256, w % 256] = 0 + t + 43 + w / 65536 % 256 + w / 256 % 256 + w % 256 := by
      show t + (43 + (w / 65536 % 256 + (w / 256 % 256 + (w % 256 + 0)))) = _; omega
    unfold cB ckd; rw [e4]; exact L6.1.1
  · have e4 : lsm [t, 43, w / 65536 % 256, w / 256 % 256, w % 256] = 0 + t + 43 + w / 65536 % 256 + w / 256 % 256 + w % 256 := by
      show t + (43 + (w / 65536 % 256 + (w / 256 % 256 + (w % 256 + 0)))) = _; omega
    unfold cB ckd; rw [e4, e7, up_n (by omega)]; exact L6.1.2
  · rw [e7, up_n (by omega)]; exact L6.2.1
  · rw [e7, up_s, L6.2.2.1, show (8 : Int32) = nI 8 from rfl, nI_add]
  · rw [e7, up_n (by omega)]; exact L6.2.2.2
theorem sg_laysCounter (h1 : σ 1 = 1) {t w : Int32} {Q : Rg → Ar → Prop} (hQ : ∀ σ', FL σ σ' → σ' 1 = 1 → Q σ' μ) : wp_X6_laysCounter σ μ t w Q := by
  intro σ0 e0
  have F0 : FL σ σ0 := fun k _ _ k7 => by rw [e0, up_n k7]
  refine sg_lays (by rw [e0, up_n (by omega)]; exact h1) (fun σ1 F1 g1 => sg_lays g1 (fun σ2 F2 g2 => sg_lays g2 (fun σ3 F3 g3 => sg_lays g3 (fun σ4 F4 g4 => sg_lays g4 (fun σ5 F5 g5 => sg_laysCheck g5 (fun σ6 F6 g6 σ7 e7 => ?_))))))
  exact hQ σ7 (F0.tr (F1.tr (F2.tr (F3.tr (F4.tr (F5.tr (F6.tr (fun k _ k6 _ => by rw [e7, up_n k6])))))))) (by rw [e7, up_n (by omega)]; exact g6)
/-! what is laid, all not being gone -/
theorem wr_ok {s p v : Nat} {Z : Zt} (h : (wr s p v Z).2 = false) : Z.2 = false ∧ Z.1 4 ≠ 1 ∧ (wr s p v Z).1 = ux (goX (ux Z.1 9 (Z.1 9 + 1))) (42 + 128 * s + p) (bt Z.1 s p &&& v) := by
  unfold wr at *
  cases hz : Z.2 with
  | true => rw [hz] at h; rw [if_pos rfl] at h; exact absurd (hz.symm.trans h) (by decide)
  | false =>
    rw [hz, if_neg (by decide)] at h
    have h4 : Z.1 4 ≠ 1 := of_decide_eq_false h
    refine ⟨rfl, h4, ?_⟩
    rw [if_neg (by decide), if_neg h4]
theorem bt_go {s p : Nat} (Y : Nat → Nat) (k : Nat) : bt (goX (ux Y 9 k)) s p = bt Y s p := by
  unfold bt
  rw [goX_far (by omega) (by omega) (by omega) (by omega) (by omega), ux_n (by omega)]
theorem wr_bt {s p v : Nat} {Z : Zt} (h : (wr s p v Z).2 = false) {s' q : Nat} (hp : p < 128) (hq : q < 128) : bt (wr s p v Z).1 s' q = if s' = s ∧ q = p then bt Z.1 s p &&& v else bt Z.1 s' q := by
  rw [(wr_ok h).2.2]
  by_cases e : s' = s ∧ q = p
  · rw [if_pos e, e.1, e.2]; exact ux_s
  · rw [if_neg e]
    have : bt (ux (goX (ux Z.1 9 (Z.1 9 + 1))) (42 + 128 * s + p) (bt Z.1 s p &&& v)) s' q = bt (goX (ux Z.1 9 (Z.1 9 + 1))) s' q := bt_ux (by omega)
    rw [this, bt_go]
theorem lay_ok {s : Nat} : ∀ (l : List Nat) (p : Nat) {Z : Zt}, (lay s p l Z).2 = false → p + l.length ≤ 128 → Z.2 = false ∧ (∀ i v, l[i]? = some v → bt (lay s p l Z).1 s (p + i) = bt Z.1 s (p + i) &&& v) ∧ (∀ s' q, q < 128 → (s' ≠ s ∨ q < p ∨ p + l.length ≤ q) → bt (lay s p l Z).1 s' q = bt Z.1 s' q)
  | [], p, Z, h, hp => ⟨h, fun i v hi => by simp at hi, fun s' q _ _ => rfl⟩
  | v :: l, p, Z, h, hp => by
    have hl : (v :: l).length = l.length + 1 := rfl
    have h1 : (lay s (p + 1) l (wr s p v Z)).2 = false := h
    obtain ⟨g1, g2, g3⟩ := lay_ok l (p + 1) h1 (by omega)
    refine ⟨(wr_ok g1).1, fun i w hi => ?_, fun s' q hq hd => ?_⟩
    · show bt (lay s (p + 1) l (wr s p v Z)).1 s (p + i) = _
      cases i with
      | zero =>
        have : v = w := by simpa using hi
        subst this
        rw [g3 s (p + 0) (by omega) (by omega), wr_bt g1 (by omega) (by omega), if_pos ⟨rfl, rfl⟩]; rfl
      | succ i =>
        have hi2 : l[i]? = some w := by simpa using hi
        have hil : i < l.length := (List.getElem?_eq_some_iff.mp hi2).1
        have := g2 i w hi2
        rw [show p + (i + 1) = p + 1 + i by omega, this, wr_bt g1 (by omega) (by omega), if_neg (by omega)]
    · show bt (lay s (p + 1) l (wr s p v Z)).1 s' q = _
      rw [g3 s' q hq (by omega), wr_bt g1 (by omega) hq, if_neg (by omega)]
end MG
