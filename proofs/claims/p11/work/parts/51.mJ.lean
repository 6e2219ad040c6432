/-! the reference: room, setting -/
def fits (m : Nat) (Z : Zt) : Prop := m ≤ Z.1 1 - frE Z.1 (Z.1 3) ∨ m ≤ Z.1 1 - szN Z.1 (Z.1 3) 48
noncomputable def mrZ (m : Nat) (Z : Zt) : Zt := itp (m ≤ Z.1 1 - frE Z.1 (Z.1 3)) Z (hoZ Z)
/-- the entry is laid where there is room -/
noncomputable def lyZ (l : List Nat) (Z : Zt) : Zt := lay (Z.1 3) (frE Z.1 (Z.1 3)) l Z
noncomputable def stZ (X : Nat → Nat) (t n W : Nat) : Zt := itp (fits (3 + n) (ux X 8 0, false)) (lyZ (sB 16 t n W) (mrZ (3 + n) (ux X 8 0, false))) (ux X 8 0, false)
noncomputable def stA (X : Nat → Nat) (t n W : Nat) : Int32 := itp (fits (3 + n) (ux X 8 0, false)) (tdI (stZ X t n W)) (-2)
/-- 1 + where a tag stands in a change, those below j looked at; 0: nowhere -/
def icN (X : Nat → Nat) (t : Nat) : Nat → Nat
  | 0 => 0
  | j + 1 => if icN X t j ≠ 0 then icN X t j else if X (12 + j) = t then j + 1 else 0
def tl3 (X : Nat → Nat) (k t v n : Nat) : Nat → Nat := ux (ux (ux X (12 + k) t) (20 + k) v) (28 + k) n
def tlX (X : Nat → Nat) (t v n : Nat) : Nat → Nat := if icN X t (X 11) ≠ 0 then tl3 X (icN X t (X 11) - 1) t v n else if X 11 = 8 then X else tl3 (ux X 11 (X 11 + 1)) (X 11) t v n
def tlA (X : Nat → Nat) (t : Nat) : Int32 := if icN X t (X 11) ≠ 0 then 0 else if X 11 = 8 then -1 else 0
/-- a change that is begun -/
def CX (X : Nat → Nat) : Prop := X 10 = 1 → X 11 ≤ 8 ∧ ∀ k, k < X 11 → X (12 + k) ≤ 31 ∧ X (28 + k) ≤ 4
section MJ
variable {σ : Rg} {μ : Ar} {X : Nat → Nat} {N : Nat}
theorem RW.rd {Z : Zt} {σ' : Rg} {μ' : Ar} (h : RW σ μ Z) (F : F01 μ μ') (G : G3 σ σ') : RW σ' μ' Z := ⟨F.RM h.1, by rw [G 1 (by omega) (by omega) (by omega)]; exact h.2⟩
theorem sm_freeNow {Z : Zt} (hW : RW σ μ Z) (hB : XB N Z.1) (h3 : Z.1 3 < Z.1 0) {Q : Int32 → Rg → Ar → Prop} (hQ : ∀ σ' μ', RW σ' μ' Z → FK σ μ σ' μ' → RD Z.1 (Z.1 3) σ' μ' → Q (nI (Z.1 1 - frE Z.1 (Z.1 3))) σ' μ') : wp_X6_freeNow σ μ Q := by
  have b6 := hB.2.1
  unfold wp_X6_freeNow
  rw [hW.1 3 (by omega)]
  refine sm_reads hW.1 hB (by omega) (fun σ1 μ1 F1 G1 D1 => ?_)
  have W1 := hW.rd F1 G1
  rw [W1.1 1 (by omega), D1.2.1, pk_sub (frE_le hB _)]
  exact hQ σ1 μ1 W1 (FK.fg G1 F1) D1
theorem sm_freeThen {Z : Zt} (hW : RW σ μ Z) (hB : XB N Z.1) (h3 : Z.1 3 < Z.1 0) {Q : Int32 → Rg → Ar → Prop} (hQ : ∀ σ' μ', RW σ' μ' Z → FK σ μ σ' μ' → Q (nI (Z.1 1 - szN Z.1 (Z.1 3) 48)) σ' μ') : wp_X6_freeThen σ μ Q := by
  have b6 := hB.2.1
  unfold wp_X6_freeThen
  rw [hW.1 3 (by omega)]
  refine sm_reads hW.1 hB (by omega) (fun σ1 μ1 F1 G1 D1 => ?_)
  have W1 := hW.rd F1 G1
  rw [W1.1 3 (by omega)]
  refine sm_sizeNext (W1.1.rt (by omega)) hB (by omega) D1 ?_
  rw [W1.1 1 (by omega), pk_sub (szN_le hB _ _)]
  exact hQ σ1 μ1 W1 (FK.fg G1 F1)
theorem mrZ_XB {m : Nat} {Z : Zt} (hB : XB N Z.1) (h3 : Z.1 3 < Z.1 0) : XB (N + 2) (mrZ m Z).1 := by
  unfold mrZ itp
  split
  · exact hB.mono (by omega)
  · exact hoZ_XB hB h3
theorem mrZ_3 {m : Nat} {Z : Zt} (hB : XB N Z.1) (h3 : Z.1 3 < Z.1 0) : (mrZ m Z).1 3 < (mrZ m Z).1 0 := by
  unfold mrZ itp
  split
  · exact h3
  · exact hoZ_3 hB h3
theorem mrZ_far {m q : Nat} {Z : Zt} (hq : fq q) (h3 : q ≠ 3) (h7 : q ≠ 7) : (mrZ m Z).1 q = Z.1 q := by
  unfold mrZ itp
  split
  · rfl
  · exact hoZ_far hq h3 h7
theorem mrZ_fr {m : Nat} {Z : Zt} (hB : XB N Z.1) (h3 : Z.1 3 < Z.1 0) (hf : fits m Z) (hg : (mrZ m Z).2 = false) (h0 : 0 < m) : frE (mrZ m Z).1 ((mrZ m Z).1 3) + m ≤ Z.1 1 := by
  unfold mrZ at *
  by_cases g : m ≤ Z.1 1 - frE Z.1 (Z.1 3)
  · rw [itp_pos g]; omega
  · rw [itp_neg g] at hg ⊢
    rw [hoZ_fr hB h3 hg]
    rcases hf with f | f
    · exact absurd f g
    · omega
theorem sm_makesRoom {Z : Zt} {m : Nat} (hW : RW σ μ Z) (hB : XB N Z.1) (hN : N < 2 ^ 28) (h3 : Z.1 3 < Z.1 0) (hm : m < 2 ^ 20) {Q : Int32 → Rg → Ar → Prop}
    (h1 : fits m Z → (mrZ m Z).2 = false → ∀ σ' μ' c, RLa σ' μ' (mrZ m Z) ((mrZ m Z).1 3) (frE (mrZ m Z).1 ((mrZ m Z).1 3)) c → FK σ μ σ' μ' → Q 1 σ' μ')
    (hg : fits m Z → (mrZ m Z).2 = true → ∀ σ' μ', RW σ' μ' (mrZ m Z) → FK σ μ σ' μ' → Q 1 σ' μ')
    (h0 : ¬ fits m Z → ∀ σ' μ', RW σ' μ' Z → FK σ μ σ' μ' → Q 0 σ' μ') {x : Int32} (hx : x = nI m) : wp_X6_makesRoom σ μ x Q := by
  have b6 := hB.2.1
  have b1 := hB.2.2.2.1
  rw [hx]
  have k22 : fits m Z → ∀ σ1 μ1, RW σ1 μ1 (mrZ m Z) → FK σ μ σ1 μ1 → wb_X6_makesRoom_22 Q σ1 μ1 := by
    intro hf σ1 μ1 W1 K1
    have hB2 := mrZ_XB (m := m) hB h3
    have h32 := mrZ_3 (m := m) hB h3
    have b62 := hB2.2.1
    cases hz : (mrZ m Z).2 with
    | true =>
      refine ⟨fun z => ?_, fun _ => hg hf hz σ1 μ1 W1 K1⟩
      have := W1.2
      rw [hz] at this
      exact absurd (this.symm.trans z) (by decide)
    | false =>
      refine ⟨fun _ => ?_, fun z => ?_⟩
      · rw [W1.1 3 (by omega)]
        refine sm_reads W1.1 hB2 (by omega) (fun σ2 μ2 F2 G2 D2 σ3 e3 σ4 e4 => ?_)
        have W2 := W1.rd F2 G2
        refine h1 hf hz σ4 μ2 (σ4 7).toBitVec.toNat ⟨⟨W2.1, ?_⟩, ?_, ?_, ?_⟩ (K1.tr ((FK.fg G2 F2).tr ⟨?_, rfl⟩))
        · rw [e4, up_n (by omega), e3, up_n (by omega)]; exact W2.2
        · rw [e4, up_n (by omega), e3, up_s, W2.1 3 (by omega)]
        · rw [e4, up_s, e3, up_n (by omega)]; exact D2.2.1
        · show σ4 7 = Int32.ofNat _
          apply Int32.toBitVec_inj.mp
          show _ = BitVec.ofNat 32 _
          simp
        · rw [e4, up_n (by omega), e3, up_n (by omega)]
      · have := W1.2
        rw [hz] at this
        exact absurd this z
  refine sm_freeNow hW hB h3 (fun σ1 μ1 W1 K1 D1 => ?_)
  refine pk_le m _ (fun g => k22 (Or.inl g) σ1 μ1 (by unfold mrZ; rw [itp_pos g]; exact W1) K1) (fun g => ?_) rfl rfl
  refine sm_freeThen W1 hB h3 (fun σ2 μ2 W2 K2 => ?_)
  refine pk_le m _ (fun g2 => ?_) (fun g2 => h0 (fun c => by rcases c with c | c <;> omega) σ2 μ2 W2 (K1.tr K2)) rfl rfl
  refine sm_handsOver W2 hB (by omega) h3 (fun σ3 μ3 W3 K3 => k22 (Or.inr g2) σ3 μ3 (by unfold mrZ; rw [itp_neg (by omega)]; exact W3) (K1.tr (K2.tr K3)))
theorem lay_g {s : Nat} : ∀ (l : List Nat) (p : Nat) {Z : Zt}, Z.2 = true → lay s p l Z = Z
  | [], _, _, _ => rfl
  | v :: l, p, Z, h => by
    have e : wr s p v Z = Z := by unfold wr; rw [if_pos h]
    show lay s (p + 1) l (wr s p v Z) = Z
    rw [e]; exact lay_g l (p + 1) h
theorem FK.fl {σ' : Rg} {μ' : Ar} (h : FL σ σ') (h2 : FA μ μ') : FK σ μ σ' μ' := ⟨h 0 (by omega) (by omega) (by omega), h2 1 (by omega)⟩
theorem x8_XB (hB : XB N X) : XB N (ux X 8 0) := hB.far (fun q _ _ h8 _ _ => ux_n h8)
theorem lyZ_XB {l : List Nat} {Z : Zt} (hB : XB N Z.1) : XB N (lyZ l Z).1 := lay_XB _ _ hB
theorem stZ_XB {t n W : Nat} (hB : XB N X) (h3 : X 3 < X 0) : XB (N + 2) (stZ X t n W).1 := by
  have h3' : ux X 8 0 3 < ux X 8 0 0 := by rw [ux_n (by omega), ux_n (by omega)]; exact h3
  unfold stZ itp
  split
  · exact lyZ_XB (mrZ_XB (Z := (ux X 8 0, false)) (x8_XB hB) h3')
  · exact (x8_XB hB).mono (by omega)
theorem stZ_3 {t n W : Nat} (hB : XB N X) (h3 : X 3 < X 0) : (stZ X t n W).1 3 < (stZ X t n W).1 0 := by
  have h3' : ux X 8 0 3 < ux X 8 0 0 := by rw [ux_n (by omega), ux_n (by omega)]; exact h3
  unfold stZ itp
  split
  · have := mrZ_3 (m := 3 + n) (Z := (ux X 8 0, false)) (x8_XB hB) h3'
    unfold lyZ
    rw [lay_far (by unfold fq; omega), lay_far (by unfold fq; omega)]; exact this
  · exact h3'
theorem sm_lyS {Z : Zt} {t n : Nat} {V : Int64} {c : Nat} (hL : RLa σ μ Z (Z.1 3) (frE Z.1 (Z.1 3)) c) (hB : XB N Z.1) (h3 : Z.1 3 < Z.1 0) (hp : frE Z.1 (Z.1 3) + (3 + n) ≤ 128) (hn : n ≤ 4) (ht : t < 2 ^ 16) {Q : Rg → Ar → Prop} (hQ : ∀ σ' μ', RW σ' μ' (lyZ (sB 16 t n V.toBitVec.toNat) Z) → FK σ μ σ' μ' → Q σ' μ') : wp_X6_laysSetting σ μ 16 (nI t) (nI n) V Q := by
  have b6 := hB.2.1
  exact sm_laysSetting (a := 16) hL hB (by omega) hp hn (by omega) (fun σ1 μ1 c1 L1 F1 A1 => hQ σ1 μ1 L1.1 (FK.fl F1 A1))
/-- setting outside a change -/
theorem sm_set0 (hR : RM μ X) (hB : XB N X) (hN : N < 2 ^ 28) (h3 : X 3 < X 0) {t n : Nat} {v : Int32} (ht : t ≤ 31) (hn : n ≤ 4) {Q : Int32 → Rg → Ar → Prop} (hQ : ∀ σ' μ', RM μ' (stZ X t n v.toInt64.toBitVec.toNat).1 → FK σ μ σ' μ' → Q (stA X t n v.toInt64.toBitVec.toNat) σ' μ') (h10 : X 10 ≠ 1) : wp_X6_sets σ μ (nI t) v (nI n) Q := by
  have h3' : ux X 8 0 3 < ux X 8 0 0 := by rw [ux_n (by omega), ux_n (by omega)]; exact h3
  have hi := hB.2.2.2.2.2.2.2.1
  refine ⟨fun _ => ?_, fun z => absurd ((nI_eq (b := 1) (by omega) (by omega)).mp ((hR 10 (by omega)).symm.trans z)) h10⟩
  refine sm_begins hR (fun σ1 μ1 W1 S1 A1 => ?_)
  have K1 := FK.fs S1 A1
  have hB1 : XB N (((ux X 8 0, false) : Zt)).1 := x8_XB hB
  have hB2 := mrZ_XB (m := 3 + n) (Z := (ux X 8 0, false)) hB1 h3'
  refine sm_makesRoom (m := 3 + n) W1 hB1 (by omega) h3' (by omega) (fun hf hz σ2 μ2 c L2 K2 => ⟨fun _ => ?_, fun z => absurd z (by decide)⟩) (fun hf hz σ2 μ2 W2 K2 => ⟨fun _ => ?_, fun z => absurd z (by decide)⟩) (fun hf σ2 μ2 W2 K2 => ⟨fun z => absurd rfl z, fun _ => ?_⟩) (by rw [show (3 : Int32) = nI 3 from rfl, nI_add])
  · have hfr := mrZ_fr (Z := (ux X 8 0, false)) hB1 h3' hf hz (by omega)
    have b1 := hB1.2.2.2.1
    refine sm_lyS L2 hB2 (mrZ_3 (Z := (ux X 8 0, false)) hB1 h3') (by omega) hn (by omega) (fun σ3 μ3 W3 K3 => sm_told W3 ?_)
    have es : stZ X t n v.toInt64.toBitVec.toNat = lyZ (sB 16 t n v.toInt64.toBitVec.toNat) (mrZ (3 + n) (ux X 8 0, false)) := by unfold stZ; rw [itp_pos hf]
    have ea : stA X t n v.toInt64.toBitVec.toNat = tdI (stZ X t n v.toInt64.toBitVec.toNat) := by unfold stA; rw [itp_pos hf]
    have := hQ σ3 μ3 (by rw [es]; exact W3.1) (K1.tr (K2.tr K3))
    rw [ea, es] at this
    exact this
  · have h1 : σ2 1 = 1 := by have := W2.2; rw [hz] at this; exact this
    refine sg_laysSetting h1 hn (fun σ3 F3 g3 => ?_)
    have es : stZ X t n v.toInt64.toBitVec.toNat = mrZ (3 + n) (ux X 8 0, false) := by unfold stZ lyZ; rw [itp_pos hf, lay_g _ _ hz]
    have ea : stA X t n v.toInt64.toBitVec.toNat = tdI (stZ X t n v.toInt64.toBitVec.toNat) := by unfold stA; rw [itp_pos hf]
    have W3 : RW σ3 μ2 (mrZ (3 + n) (ux X 8 0, false)) := ⟨W2.1, by rw [hz, g3]; rfl⟩
    refine sm_told W3 ?_
    have := hQ σ3 μ2 (by rw [es]; exact W2.1) (K1.tr (K2.tr (FK.fl F3 FA.rf)))
    rw [ea, es] at this
    exact this
  · have es : stZ X t n v.toInt64.toBitVec.toNat = (ux X 8 0, false) := by unfold stZ; rw [itp_neg hf]
    have ea : stA X t n v.toInt64.toBitVec.toNat = -2 := by unfold stA; rw [itp_neg hf]
    have := hQ σ2 μ2 (by rw [es]; exact W2.1) (K1.tr K2)
    rw [ea] at this
    exact this
end MJ
