/-! theirs: between calls; room, a setting kept -/
def CHg (X : Nat → Nat) (σ : Rg) (μ : Ar) : Prop := σ 16 = nI (X 11) ∧ ∀ j, j < X 11 → μ 9 j = nI (X (12 + j)) ∧ μ 10 j = nI (X (20 + j)) ∧ μ 11 j = nI (X (28 + j))
def RCh (X : Nat → Nat) (σ : Rg) (μ : Ar) : Prop := (X 10 = 1 → σ 15 = 1 ∧ CHg X σ μ) ∧ (X 10 = 0 → σ 15 = 0)
/-- theirs is X's, between calls -/
def RCn (σ : Rg) (μ : Ar) (X : Nat → Nat) : Prop := (RCs σ X ∧ RCb μ X) ∧ σ 1 = nI (X 7) ∧ (X 2 = 1 → σ 0 = nI (X 3) ∧ σ 7 = 1) ∧ (X 2 = 0 → σ 0 = -1 ∧ σ 7 = 0) ∧ RCh X σ μ
def FX (σ : Rg) (μ : Ar) (σ' : Rg) (μ' : Ar) : Prop := σ' 15 = σ 15 ∧ σ' 16 = σ 16 ∧ ∀ q, 9 ≤ q → q ≤ 11 → μ' q = μ q
/-- power: gone or as before -/
def GZ (Z Z' : Zt) : Prop := (Z'.2 = true → (Z.2 = true → Z.1 2 = 0 ∧ Z.1 10 = 0) → Z'.1 2 = 0 ∧ Z'.1 10 = 0) ∧ (Z'.2 = false → Z.2 = false ∧ Z'.1 2 = Z.1 2 ∧ Z'.1 10 = Z.1 10)
section CH
variable {σ : Rg} {μ : Ar} {X : Nat → Nat} {N k : Nat}
theorem gz_rf {Z : Zt} : GZ Z Z := ⟨fun h g => g h, fun h => ⟨h, rfl, rfl⟩⟩
theorem gz_tr {A B C : Zt} (h : GZ A B) (h2 : GZ B C) : GZ A C := ⟨fun c g => h2.1 c (fun b => h.1 b g), fun c => by
  obtain ⟨b, e1, e2⟩ := h2.2 c
  obtain ⟨a, e3, e4⟩ := h.2 b
  exact ⟨a, e1.trans e3, e2.trans e4⟩⟩
theorem gz_wr {s p v : Nat} {Z : Zt} : GZ Z (wr s p v Z) := by
  cases hz : Z.2 with
  | true => rw [show wr s p v Z = Z by unfold wr; rw [if_pos hz]]; exact gz_rf
  | false =>
    have e : wr s p v Z = (ux (goX (ux Z.1 9 (Z.1 9 + 1))) (42 + 128 * s + p) (bt Z.1 s p &&& (if Z.1 4 = 1 then v ||| (255 ^^^ Z.1 5) else v)), decide (Z.1 4 = 1)) := by unfold wr; rw [if_neg (by rw [hz]; decide)]
    have e2 : (wr s p v Z).1 2 = if Z.1 4 = 1 then 0 else Z.1 2 := by rw [e]; dsimp only; rw [ux_n (by omega), goX_2, ux_n (by omega), ux_n (by omega)]
    have e10 : (wr s p v Z).1 10 = if Z.1 4 = 1 then 0 else Z.1 10 := by rw [e]; dsimp only; rw [ux_n (by omega), goX_10, ux_n (by omega), ux_n (by omega)]
    have eg : (wr s p v Z).2 = decide (Z.1 4 = 1) := by rw [e]
    refine ⟨fun h _ => ?_, fun h => ⟨hz, ?_⟩⟩
    · rw [eg] at h
      have := of_decide_eq_true h
      rw [e2, e10, if_pos this, if_pos this]; exact ⟨rfl, rfl⟩
    · rw [eg] at h
      have := of_decide_eq_false h
      rw [e2, e10, if_neg this, if_neg this]; exact ⟨rfl, rfl⟩
theorem gz_er {s : Nat} {Z : Zt} : GZ Z (er s Z) := by
  cases hz : Z.2 with
  | true => rw [show er s Z = Z by unfold er; rw [if_pos hz]]; exact gz_rf
  | false =>
    have e : er s Z = ((fun q => if 42 + 128 * s ≤ q ∧ q < 42 + 128 * s + erm Z.1 then 255 else goX (ux Z.1 (36 + s) (Z.1 (36 + s) + 1)) q), decide (Z.1 4 = 1)) := by unfold er; rw [if_neg (by rw [hz]; decide)]
    have e2 : (er s Z).1 2 = if Z.1 4 = 1 then 0 else Z.1 2 := by rw [e]; dsimp only; rw [if_neg (by omega), goX_2, ux_n (by omega), ux_n (by omega)]
    have e10 : (er s Z).1 10 = if Z.1 4 = 1 then 0 else Z.1 10 := by rw [e]; dsimp only; rw [if_neg (by omega), goX_10, ux_n (by omega), ux_n (by omega)]
    have eg : (er s Z).2 = decide (Z.1 4 = 1) := by rw [e]
    refine ⟨fun h _ => ?_, fun h => ⟨hz, ?_⟩⟩
    · rw [eg] at h
      have := of_decide_eq_true h
      rw [e2, e10, if_pos this, if_pos this]; exact ⟨rfl, rfl⟩
    · rw [eg] at h
      have := of_decide_eq_false h
      rw [e2, e10, if_neg this, if_neg this]; exact ⟨rfl, rfl⟩
theorem gz_lay {s : Nat} : ∀ (l : List Nat) (p : Nat) {Z : Zt}, GZ Z (lay s p l Z)
  | [], _, _ => gz_rf
  | _ :: l, p, _ => gz_tr gz_wr (gz_lay l (p + 1))
theorem gz_mkr {s n : Nat} {Z : Zt} : GZ Z (mkr s n Z) := gz_tr gz_wr (gz_tr gz_wr (gz_tr gz_wr gz_wr))
theorem gz_hoN {s n : Nat} {Z : Zt} : ∀ t, GZ Z (hoN X s n t Z)
  | 0 => gz_rf
  | t + 1 => by
    by_cases g : hv X s t
    · rw [hoN_hv g]; exact gz_tr (gz_hoN t) (gz_lay _ _)
    · rw [hoN_no g]; exact gz_hoN t
theorem gz_ho1 {Z : Zt} : GZ Z (ho1 Z) := by
  unfold ho1 itp
  split
  · exact gz_rf
  · exact gz_er
theorem gz_ho4 {Z : Zt} : GZ Z (ho4 Z) := gz_tr gz_ho1 (gz_tr gz_mkr (gz_tr (gz_hoN 48) (gz_tr gz_wr gz_er)))
theorem gz_hoZ {Z : Zt} : GZ Z (hoZ Z) := by
  unfold hoZ
  split
  · exact gz_ho4
  · rename_i h
    refine gz_tr gz_ho4 ⟨fun c => absurd (show false = true from c) (by decide), fun _ => ⟨by cases hz : (ho4 Z).2 with
      | true => exact absurd hz h
      | false => rfl, ?_, ?_⟩⟩
    · dsimp only; rw [ux_n (by omega), ux_n (by omega)]
    · dsimp only; rw [ux_n (by omega), ux_n (by omega)]
theorem gz_mrZ {m : Nat} {Z : Zt} : GZ Z (mrZ m Z) := by
  unfold mrZ itp
  split
  · exact gz_rf
  · exact gz_hoZ
theorem gz_eoN {u : Nat} {Z : Zt} : ∀ j, GZ Z (eoN u j Z)
  | 0 => gz_rf
  | j + 1 => by
    show GZ Z (itp _ _ _ : Zt)
    unfold itp
    split
    · exact gz_eoN j
    · exact gz_tr (gz_eoN j) gz_er
theorem FX.rf : FX σ μ σ μ := ⟨rfl, rfl, fun _ _ _ => rfl⟩
theorem FX.tr {σ1 σ2 : Rg} {μ1 μ2 : Ar} (h : FX σ μ σ1 μ1) (h2 : FX σ1 μ1 σ2 μ2) : FX σ μ σ2 μ2 := ⟨h2.1.trans h.1, h2.2.1.trans h.2.1, fun q a b => (h2.2.2 q a b).trans (h.2.2 q a b)⟩
theorem FX.fc {σ' : Rg} {μ' : Ar} (f : FCs σ σ') (g : FCm μ μ') : FX σ μ σ' μ' := ⟨f _ (by omega) (by omega) (by omega) (by omega), f _ (by omega) (by omega) (by omega) (by omega), fun q _ _ => g q (by omega)⟩
theorem FX.fr {σ' : Rg} {μ' : Ar} (f : FR σ μ σ' μ') : FX σ μ σ' μ' := ⟨f.1 _ (by omega) (by omega), f.1 _ (by omega) (by omega), fun q _ _ => f.2 q (by omega)⟩
theorem FX.fd {σ' : Rg} {μ' : Ar} (f : FD σ μ σ' μ') : FX σ μ σ' μ' := ⟨f.1 _ (by omega) (by omega) (by omega) (by omega) (by omega), f.1 _ (by omega) (by omega) (by omega) (by omega) (by omega), fun q _ _ => f.2 q (by omega)⟩
theorem FX.fh {σ' : Rg} {μ' : Ar} (f : FHs σ σ') (g : FHm μ μ') : FX σ μ σ' μ' := ⟨f _ (by omega) (by omega) (by omega) (by omega) (by omega) (by omega) (by omega) (by omega) (by omega), f _ (by omega) (by omega) (by omega) (by omega) (by omega) (by omega) (by omega) (by omega) (by omega), fun q _ _ => g q (by omega) (by omega)⟩
theorem RCh.fx {σ' : Rg} {μ' : Ar} (h : RCh X σ μ) (f : FX σ μ σ' μ') : RCh X σ' μ' := ⟨fun c => ⟨by rw [f.1]; exact (h.1 c).1, by rw [f.2.1]; exact (h.1 c).2.1, fun j hj => by rw [f.2.2 9 (by omega) (by omega), f.2.2 10 (by omega) (by omega), f.2.2 11 (by omega) (by omega)]; exact (h.1 c).2.2 j hj⟩, fun c => by rw [f.1]; exact h.2 c⟩
theorem RCh.ch {Y : Nat → Nat} (h : RCh X σ μ) (e10 : Y 10 = X 10) (hc : ∀ q, 11 ≤ q → q < 36 → Y q = X q) (h11 : X 10 = 1 → X 11 ≤ 8) : RCh Y σ μ := by
  refine ⟨fun c => ?_, fun c => h.2 (by omega)⟩
  obtain ⟨h15, h16, hj⟩ := h.1 (by omega)
  have := h11 (by omega)
  refine ⟨h15, by rw [hc 11 (by omega) (by omega)]; exact h16, fun j hlt => ?_⟩
  rw [hc 11 (by omega) (by omega)] at hlt
  rw [hc _ (by omega) (by omega), hc _ (by omega) (by omega), hc _ (by omega) (by omega)]
  exact hj j hlt
theorem RZ.f2 {Z : Zt} {σ' : Rg} (h : RZ k σ μ Z) (f : ∀ q, 3 ≤ q → q ≤ 10 → σ' q = σ q) : RZ k σ' μ Z := by
  obtain ⟨⟨⟨a3, a4, a5, a8, a9, a10⟩, hb⟩, h6, h7⟩ := h
  exact ⟨⟨⟨by rw [f _ (by omega) (by omega)]; exact a3, by rw [f _ (by omega) (by omega)]; exact a4, by rw [f _ (by omega) (by omega)]; exact a5, by rw [f _ (by omega) (by omega)]; exact a8, by rw [f _ (by omega) (by omega)]; exact a9, by rw [f _ (by omega) (by omega)]; exact a10⟩, hb⟩, by rw [f _ (by omega) (by omega)]; exact h6, by rw [f _ (by omega) (by omega)]; exact h7⟩
theorem sc_makeRoom {Z : Zt} {m : Nat} (hZ : RZ k σ μ Z) (hB : XB N Z.1) (hN : N < 2 ^ 28) (h3 : Z.1 3 < Z.1 0) (h0 : σ 0 = nI (Z.1 3)) (h1 : σ 1 = nI (Z.1 7)) (hm : m < 2 ^ 20) {Q : Int32 → Rg → Ar → Prop}
    (hy : fits m Z → ∀ σ' μ', RZ k σ' μ' (mrZ m Z) → σ' 0 = nI ((mrZ m Z).1 3) → σ' 1 = nI ((mrZ m Z).1 7) → σ' 2 = nI (frE (mrZ m Z).1 ((mrZ m Z).1 3)) → FX σ μ σ' μ' → Q 1 σ' μ')
    (hn : ¬ fits m Z → ∀ σ' μ', RZ k σ' μ' Z → σ' 0 = σ 0 → σ' 1 = σ 1 → FX σ μ σ' μ' → Q 0 σ' μ') {x : Int32} (hx : x = nI m) : wp_X4_makeRoom σ μ x Q := by
  subst hx
  have b1 := hB.2.2.2.1
  refine sc_scan hZ.1.1 hZ.1.2 hB h3 (fun σ1 μ1 f1 g1 D1 => ?_) h0
  have Z1 := hZ.fc f1 g1
  have a0 : σ1 0 = σ 0 := f1 0 (by omega) (by omega) (by omega) (by omega)
  have a1 : σ1 1 = σ 1 := f1 1 (by omega) (by omega) (by omega) (by omega)
  have hfr := frE_le hB (Z.1 3)
  have X1 := FX.fc f1 g1
  show (nI m ≤ σ1 11 - σ1 13 → _) ∧ _
  have e58 : ∀ (Y : Zt) σ2 μ2, RZ k σ2 μ2 Y → σ2 0 = nI (Y.1 3) → σ2 1 = nI (Y.1 7) → σ2 13 = nI (frE Y.1 (Y.1 3)) → FX σ μ σ2 μ2 → fits m Z → mrZ m Z = Y → wb_X4_makeRoom_58 Q σ2 μ2 := by
    intro Y σ2 μ2 Z2 c0 c1 c13 c8 hf eY σ3 e3
    subst eY
    refine hy hf σ3 μ2 (Z2.f2 (fun q _ _ => by rw [e3, up_n (by omega)])) (by rw [e3, up_n (by omega)]; exact c0) (by rw [e3, up_n (by omega)]; exact c1) (by rw [e3, up_s]; exact c13) ?_
    exact ⟨by rw [e3, up_n (by omega)]; exact c8.1, by rw [e3, up_n (by omega)]; exact c8.2.1, c8.2.2⟩
  refine pk_le m (Z.1 1 - frE Z.1 (Z.1 3)) (fun g => ?_) (fun g => ?_) rfl (by rw [D1.1.1, D1.2.2.1, pk_sub hfr])
  · exact e58 Z σ1 μ1 Z1 (by rw [a0]; exact h0) (by rw [a1]; exact h1) D1.2.2.1 X1 (Or.inl g) (itp_pos g)
  · refine sc_freeBehind hB D1 ?_
    have hsl := szN_le hB (Z.1 3) 48
    refine pk_le m (Z.1 1 - szN Z.1 (Z.1 3) 48) (fun g2 => ?_) (fun g2 => ?_) rfl rfl
    · have em : mrZ m Z = hoZ Z := itp_neg (by omega)
      refine sc_handOver Z1 hB (by omega) h3 (by rw [a0]; exact h0) (by rw [a1]; exact h1) D1 (fun σ2 μ2 Z2 c0 c1 fs fm => ?_)
      refine sc_scan Z2.1.1 Z2.1.2 (hoZ_XB hB h3) (hoZ_3 hB h3) (fun σ3 μ3 f3 g3 D3 => ?_) c0
      refine e58 (hoZ Z) σ3 μ3 (Z2.fc f3 g3) (by rw [f3 0 (by omega) (by omega) (by omega) (by omega)]; exact c0) (by rw [f3 1 (by omega) (by omega) (by omega) (by omega)]; exact c1) D3.2.2.1 (X1.tr ((FX.fh fs fm).tr (FX.fc f3 g3))) (Or.inr g2) em
    · exact hn (fun c => c.elim (fun h => by omega) (fun h => by omega)) σ1 μ1 Z1 a0 a1 X1
theorem sc_switchOff {Q : Rg → Ar → Prop} (hQ : ∀ σ', σ' 0 = -1 → σ' 7 = 0 → σ' 15 = 0 → (∀ q, q ≠ 0 → q ≠ 7 → q ≠ 15 → q ≠ 16 → σ' q = σ q) → Q σ' μ) : wp_X4_switchOff σ μ Q := by
  intro σ2 e2 σ3 e3 σ4 e4 σ5 e5
  refine hQ σ5 ?_ ?_ ?_ (fun q q0 q7 q15 q16 => by rw [e5, up_n q16, e4, up_n q15, e3, up_n q7, e2, up_n q0])
  · rw [e5, up_n (by omega), e4, up_n (by omega), e3, up_n (by omega), e2, up_s]
  · rw [e5, up_n (by omega), e4, up_n (by omega), e3, up_s]
  · rw [e5, up_n (by omega), e4, up_s]
/-- the end of a call that did doings -/
theorem sc_out {Z : Zt} (hZ : RZ k σ μ Z) (h0 : σ 0 = nI (Z.1 3)) (h1 : σ 1 = nI (Z.1 7)) (hg : Z.2 = true → Z.1 2 = 0 ∧ Z.1 10 = 0) (h2 : Z.2 = false → Z.1 2 = 1 ∧ RCh Z.1 σ μ) {r : Int32} {Q : Int32 → Rg → Ar → Prop} (hQ : ∀ σ' μ', RCn σ' μ' Z.1 → Q (if Z.2 = true then -3 else r) σ' μ') : wp_X4_outcome σ μ r Q := by
  obtain ⟨⟨⟨a3, a4, a5, a8, a9, a10⟩, hb⟩, h6, h7⟩ := hZ
  cases hz : Z.2 with
  | true =>
    rw [hz] at h7 hQ
    obtain ⟨g2, g10⟩ := hg hz
    refine ⟨fun _ => sc_switchOff (fun σ' c0 c7 c15 cf => ?_), fun z => absurd h7 z⟩
    refine hQ σ' μ ⟨⟨⟨?_, ?_, ?_, ?_, ?_, ?_⟩, hb⟩, ?_, fun c => absurd (g2.symm.trans c) (by decide), fun _ => ⟨c0, c7⟩, fun c => absurd (g10.symm.trans c) (by decide), fun _ => c15⟩
    · rw [cf _ (by omega) (by omega) (by omega) (by omega)]; exact a3
    · rw [cf _ (by omega) (by omega) (by omega) (by omega)]; exact a4
    · rw [cf _ (by omega) (by omega) (by omega) (by omega)]; exact a5
    · rw [cf _ (by omega) (by omega) (by omega) (by omega)]; exact a8
    · rw [cf _ (by omega) (by omega) (by omega) (by omega)]; exact a9
    · rw [cf _ (by omega) (by omega) (by omega) (by omega)]; exact a10
    · rw [cf _ (by omega) (by omega) (by omega) (by omega)]; exact h1
  | false =>
    obtain ⟨g2, gc⟩ := h2 hz
    refine ⟨fun z => absurd z (s7_ne h7 hz), fun _ => ?_⟩
    rw [hz] at h7 hQ
    exact hQ σ μ ⟨⟨⟨a3, a4, a5, a8, a9, a10⟩, hb⟩, h1, fun _ => ⟨h0, h7⟩, fun c => absurd (g2.symm.trans c) (by decide), gc⟩
theorem RCn.z0 (h : RCn σ μ X) (h2 : X 2 = 1) {σ' : Rg} (e : σ' = upd σ 6 0) : RZ 0 σ' μ (ux X 8 0, false) ∧ σ' 0 = nI (X 3) ∧ σ' 1 = nI (X 7) ∧ FX σ μ σ' μ := by
  obtain ⟨⟨⟨a3, a4, a5, a8, a9, a10⟩, hb⟩, h1, on, _, _⟩ := h
  have hon := on h2
  refine ⟨⟨⟨⟨?_, ?_, ?_, ?_, ?_, ?_⟩, ⟨fun s p q1 q2 => ?_, fun s q1 => ?_⟩⟩, ?_, ?_⟩, ?_, ?_, ?_⟩
  · dsimp only; rw [e, up_n (by omega), ux_n (by omega)]; exact a3
  · dsimp only; rw [e, up_n (by omega), ux_n (by omega)]; exact a4
  · dsimp only; rw [e, up_n (by omega), ux_n (by omega)]; exact a5
  · dsimp only; rw [e, up_n (by omega), ux_n (by omega)]; exact a8
  · dsimp only; rw [e, up_n (by omega), ux_n (by omega)]; exact a9
  · dsimp only; rw [e, up_n (by omega), ux_n (by omega)]; exact a10
  · dsimp only at q1 q2 ⊢; rw [ux_n (by omega)] at q1 q2 ⊢; rw [bt_ux (by omega)]; exact hb.1 s p q1 q2
  · dsimp only at q1 ⊢; rw [ux_n (by omega)] at q1 ⊢; exact hb.2 s q1
  · dsimp only; rw [e, up_s, ux_s]; rfl
  · rw [e, up_n (by omega)]; exact hon.2
  · rw [e, up_n (by omega)]; exact hon.1
  · rw [e, up_n (by omega)]; exact h1
  · exact ⟨by rw [e, up_n (by omega)], by rw [e, up_n (by omega)], fun _ _ _ => rfl⟩
theorem byl_mod {a b : Nat} (h : a % 4294967296 = b % 4294967296) : ∀ n, n ≤ 4 → byl a n = byl b n
  | 0, _ => rfl
  | n + 1, hn => by
    show (a / 256 ^ n % 256) :: byl a n = (b / 256 ^ n % 256) :: byl b n
    rw [byl_mod h n (by omega)]
    congr 1
    rcases (show n = 0 ∨ n = 1 ∨ n = 2 ∨ n = 3 by omega) with e | e | e | e <;> subst e
    · show a / 1 % 256 = b / 1 % 256; omega
    · show a / 256 % 256 = b / 256 % 256; omega
    · show a / 65536 % 256 = b / 65536 % 256; omega
    · show a / 16777216 % 256 = b / 16777216 % 256; omega
theorem se_mod (v : Int32) : v.toInt64.toBitVec.toNat % 4294967296 = tn v % 4294967296 := by
  show (v.toBitVec.signExtend 64).toNat % 2 ^ 32 = v.toBitVec.toNat % 2 ^ 32
  apply Nat.eq_of_testBit_eq
  intro i
  rw [Nat.testBit_mod_two_pow, Nat.testBit_mod_two_pow]
  by_cases hi : i < 32
  · rw [BitVec.testBit_toNat, BitVec.testBit_toNat, BitVec.getLsbD_signExtend]
    have h1 : i < 64 := by omega
    simp [hi, h1]
  · simp [hi]
theorem sB_w (a t n : Nat) (hn : n ≤ 4) (v : Int32) : sB a t n v.toInt64.toBitVec.toNat = sB a t n (tn v) := by
  unfold sB; rw [byl_mod (se_mod v) n hn]
theorem h11_of (hI : IX N X) : X 10 = 1 → X 11 ≤ 8 := fun c => (hI.2.2 c).1
theorem sc_keep (hC : RCn σ μ X) (hI : IX N X) (hN : N < 2 ^ 28) (h2 : X 2 = 1) {t n : Nat} {v : Int32} (ht : t ≤ 31) (hn : n ≤ 4) {Q : Int32 → Rg → Ar → Prop} (hQ : ∀ σ' μ', RCn σ' μ' (stZ X t n v.toInt64.toBitVec.toNat).1 → Q (stA X t n v.toInt64.toBitVec.toNat) σ' μ') {x y : Int32} (hx : x = nI t) (hy : y = nI n) : wp_X4_keep σ μ x v y Q := by
  subst hx hy
  have hB := hI.1
  have h3 := hI.2.1
  have b1 := hB.2.2.2.1
  intro σ1 e1
  obtain ⟨Z1, a0, a1, x1⟩ := hC.z0 h2 e1
  have hch : RCh X σ μ := hC.2.2.2.2
  have hZB : XB N (ux X 8 0) := x8_XB hB
  have h30 := x8_3 h3
  have e1X : (ux X 8 0, false).1 1 = X 1 := show ux X 8 0 1 = X 1 from ux_n (by omega)
  have u3 : (ux X 8 0) 3 = X 3 := ux_n (by omega)
  have u7 : (ux X 8 0) 7 = X 7 := ux_n (by omega)
  refine sc_makeRoom (m := 3 + n) Z1 hZB hN h30 (by dsimp only; rw [u3]; exact a0) (by dsimp only; rw [u7]; exact a1) (by omega) (fun hf σ2 μ2 Z2 c0 c1 c2 x2 => ⟨fun _ => ?_, fun z => absurd z (by decide)⟩) (fun hf σ2 μ2 Z2 c0 c1 x2 => ⟨fun z => absurd rfl z, fun _ => ?_⟩) (by rw [show (3 : Int32) = nI 3 from rfl, nI_add])
  · have ea : stA X t n v.toInt64.toBitVec.toNat = tdI (stZ X t n v.toInt64.toBitVec.toNat) := by unfold stA; rw [itp_pos hf]
    have es : stZ X t n v.toInt64.toBitVec.toNat = lyZ (sB 16 t n v.toInt64.toBitVec.toNat) (mrZ (3 + n) (ux X 8 0, false)) := by unfold stZ; rw [itp_pos hf]
    refine sc_fillSetting (a := 16) hn (by omega) (fun σ3 μ3 D3 F3 => ?_) rfl rfl rfl
    rw [← sB_w 16 t n hn v] at D3
    have Z3 := Z2.fr F3
    have G : GZ (ux X 8 0, false) (stZ X t n v.toInt64.toBitVec.toNat) := by rw [es]; exact gz_tr gz_mrZ (gz_lay _ _)
    have dn : DN X (stZ X t n v.toInt64.toBitVec.toNat).1 := dn_stZ
    have o : ∀ σ4 μ4, RZ 0 σ4 μ4 (stZ X t n v.toInt64.toBitVec.toNat) → σ4 0 = nI ((mrZ (3 + n) (ux X 8 0, false)).1 3) → σ4 1 = nI ((mrZ (3 + n) (ux X 8 0, false)).1 7) → FX σ μ σ4 μ4 → wp_X4_outcome σ4 μ4 (σ4 6) (fun r60 σ60 μ60 => Q r60 σ60 μ60) := by
      intro σ4 μ4 Z4 d0 d1 x4
      have l3 : (stZ X t n v.toInt64.toBitVec.toNat).1 3 = (mrZ (3 + n) (ux X 8 0, false)).1 3 := by rw [es]; unfold lyZ; rw [lay_far fq3]
      have l7 : (stZ X t n v.toInt64.toBitVec.toNat).1 7 = (mrZ (3 + n) (ux X 8 0, false)).1 7 := by rw [es]; unfold lyZ; rw [lay_far (by unfold fq; omega)]
      refine sc_out Z4 (by rw [l3]; exact d0) (by rw [l7]; exact d1) (fun g => G.1 g (fun c => absurd (show false = true from c) (by decide))) (fun g => ?_) (fun σ5 μ5 C5 => ?_)
      · obtain ⟨_, g2, g10⟩ := G.2 g
        refine ⟨by rw [g2]; dsimp only; rw [ux_n (by omega)]; exact h2, ?_⟩
        exact (hch.fx x4).ch (by rw [g10]; dsimp only; rw [ux_n (by omega)]) dn.1 (h11_of hI)
      · have := hQ σ5 μ5 C5
        rw [ea] at this
        unfold tdI at this
        rw [Z4.2.1, Nat.zero_add]
        exact this
    cases hz : (mrZ (3 + n) (ux X 8 0, false)).2 with
    | false =>
      have hfr := mrZ_fr hZB h30 hf hz (by omega)
      rw [e1X] at hfr
      have m1 : (mrZ (3 + n) (ux X 8 0, false)).1 1 = X 1 := by rw [mrZ_far fq1 (by omega) (by omega)]; exact e1X
      refine sc_writeDraft D3 Z3 (mrZ_XB hZB h30) (s := (mrZ (3 + n) (ux X 8 0, false)).1 3) (p := frE (mrZ (3 + n) (ux X 8 0, false)).1 ((mrZ (3 + n) (ux X 8 0, false)).1 3)) (mrZ_3 hZB h30) (by rw [sB_len, m1]; omega) (fun σ4 μ4 Z4 F4 => ?_) (by rw [F3.1 0 (by omega) (by omega)]; exact c0) (by rw [F3.1 2 (by omega) (by omega)]; exact c2)
      refine o σ4 μ4 (by rw [es]; exact Z4) ?_ ?_ (x1.tr (x2.tr ((FX.fr F3).tr (FX.fd F4))))
      · rw [F4.1 0 (by omega) (by omega) (by omega) (by omega) (by omega), F3.1 0 (by omega) (by omega)]; exact c0
      · rw [F4.1 1 (by omega) (by omega) (by omega) (by omega) (by omega), F3.1 1 (by omega) (by omega)]; exact c1
    | true =>
      have h7 : σ3 7 = 0 := by rw [Z3.2.2, hz]; rfl
      have es2 : stZ X t n v.toInt64.toBitVec.toNat = mrZ (3 + n) (ux X 8 0, false) := by rw [es]; unfold lyZ; rw [lay_g _ _ hz]
      refine sc_writeDraft_g D3 h7 (o σ3 μ3 (by rw [es2]; exact Z3) ?_ ?_ (x1.tr (x2.tr (FX.fr F3))))
      · rw [F3.1 0 (by omega) (by omega)]; exact c0
      · rw [F3.1 1 (by omega) (by omega)]; exact c1
  · have ea : stA X t n v.toInt64.toBitVec.toNat = -2 := by unfold stA; rw [itp_neg hf]
    have es : stZ X t n v.toInt64.toBitVec.toNat = (ux X 8 0, false) := by unfold stZ; rw [itp_neg hf]
    have := hQ σ2 μ2 (by
      rw [es]
      refine ⟨Z2.1, ?_, fun _ => ⟨?_, Z2.2.2⟩, fun c => ?_, ?_⟩
      · dsimp only; rw [c1, u7]; exact a1
      · dsimp only; rw [c0, u3]; exact a0
      · dsimp only at c; rw [ux_n (by omega)] at c; omega
      · exact (hch.fx (x1.tr x2)).ch (show ux X 8 0 10 = X 10 from ux_n (by omega)) (fun q _ _ => show ux X 8 0 q = X q from ux_n (by omega)) (h11_of hI))
    rw [ea] at this; exact this
end CH
