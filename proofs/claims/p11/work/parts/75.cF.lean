/-! theirs: the draft, writing it; what is left of a call -/
def DR (l : List Nat) (σ : Rg) (μ : Ar) : Prop := σ 17 = nI l.length ∧ l.length ≤ 7 ∧ (∀ i v, l[i]? = some v → μ 12 i = nI v) ∧ σ 18 = nI (lsm l)
def FRs (σ σ' : Rg) : Prop := ∀ k, k ≠ 17 → k ≠ 18 → σ' k = σ k
def FRm (μ μ' : Ar) : Prop := ∀ k, k ≠ 12 → μ' k = μ k
def FR (σ : Rg) (μ : Ar) (σ' : Rg) (μ' : Ar) : Prop := FRs σ σ' ∧ FRm μ μ'
section CF
variable {σ : Rg} {μ : Ar} {X : Nat → Nat} {N k : Nat}
theorem FR.rf : FR σ μ σ μ := ⟨fun _ _ _ => rfl, fun _ _ => rfl⟩
theorem FR.tr {σ1 σ2 : Rg} {μ1 μ2 : Ar} (h : FR σ μ σ1 μ1) (h2 : FR σ1 μ1 σ2 μ2) : FR σ μ σ2 μ2 := ⟨fun q a b => (h2.1 q a b).trans (h.1 q a b), fun q a => (h2.2 q a).trans (h.2 q a)⟩
theorem sc_put {l : List Nat} (hD : DR l σ μ) (hl : l.length < 7) {v : Nat} {Q : Rg → Ar → Prop} (hQ : ∀ σ' μ', DR (l ++ [v]) σ' μ' → FR σ μ σ' μ' → Q σ' μ') {x : Int32} (hx : x = nI v) : wp_X2_put σ μ x Q := by
  subst hx
  obtain ⟨h17, _, hr, h18⟩ := hD
  refine pk_le 7 l.length (fun z => absurd z (by omega)) (fun _ => ⟨pk_in l.length 7 hl h17, fun μ2 e2 σ3 e3 σ4 e4 => ?_⟩) rfl h17
  have ec : (σ 17).toNatClampNeg = l.length := by rw [h17, nI_clamp (by omega)]
  rw [ec] at e2
  refine hQ σ4 μ2 ⟨?_, ?_, fun i w hw => ?_, ?_⟩ ⟨fun q h17 h18 => by rw [e4, up_n h18, e3, up_n h17], fun q hq => by rw [e2, ua_n hq]⟩
  · rw [e4, up_n (by omega), e3, up_s, h17, i_p1, List.length_append]; rfl
  · rw [List.length_append]; show l.length + 1 ≤ 7; omega
  · rw [e2, ua_s]
    by_cases g : i < l.length
    · rw [up_n (by omega)]
      rw [List.getElem?_append_left g] at hw
      exact hr i w hw
    · rw [List.getElem?_append_right (by omega)] at hw
      by_cases g2 : i = l.length
      · rw [g2, Nat.sub_self] at hw
        have : v = w := by simpa using hw
        rw [g2, up_s, this]
      · rw [show ([v] : List Nat)[i - l.length]? = none from List.getElem?_eq_none (by show 1 ≤ _; omega)] at hw
        cases hw
  · rw [e4, up_s, e3, up_n (by omega), h18, nI_add, lsm_app]; rfl
theorem sc_dstart {a b : Nat} {Q : Rg → Ar → Prop} (hQ : ∀ σ' μ', DR [a, b] σ' μ' → FR σ μ σ' μ' → Q σ' μ') {x y : Int32} (hx : x = nI a) (hy : y = nI b) : wp_X2_start σ μ x y Q := by
  intro σ2 e2 σ3 e3
  have D3 : DR [] σ3 μ := ⟨by rw [e3, up_n (by omega), e2, up_s]; rfl, by show 0 ≤ 7; omega, fun i v h => by simp at h, by rw [e3, up_s]; rfl⟩
  have F3 : FR σ μ σ3 μ := ⟨fun q h17 h18 => by rw [e3, up_n h18, e2, up_n h17], fun _ _ => rfl⟩
  exact sc_put D3 (by show 0 < 7; omega) (fun σ4 μ4 D4 F4 => sc_put D4 (by show 1 < 7; omega) (fun σ5 μ5 D5 F5 => hQ σ5 μ5 D5 (F3.tr (F4.tr F5))) hy) hx
theorem v_shr32 (v : BitVec 32) (k : Nat) (hk : k ≤ 24) : (v.sshiftRight k).toNat % 2 ^ 8 = v.toNat / 2 ^ k % 2 ^ 8 := by
  apply Nat.eq_of_testBit_eq
  intro i
  rw [Nat.testBit_mod_two_pow, Nat.testBit_mod_two_pow, Nat.testBit_div_two_pow]
  by_cases hi : i < 8
  · rw [BitVec.testBit_toNat, BitVec.testBit_toNat, BitVec.getLsbD_sshiftRight]
    have h2 : i < 32 := by omega
    have h3 : k + i < 32 := by omega
    have h4 : ¬ 32 ≤ i := by omega
    simp [hi, h2, h3, h4, Nat.add_comm]
  · simp [hi]
theorem v_by32 (V : Int32) : ∀ j, j ≤ 3 → (((V >>> (((8 : Int32) * nI j) &&& 31))) &&& (255 : Int32)) = nI (tn V / 256 ^ j % 256) := by
  intro j hj
  rw [pk_and _ 8 rfl]
  rcases (show j = 0 ∨ j = 1 ∨ j = 2 ∨ j = 3 by omega) with e | e | e | e <;> subst e
  · exact congrArg nI (v_shr32 V.toBitVec 0 (by omega))
  · exact congrArg nI (v_shr32 V.toBitVec 8 (by omega))
  · exact congrArg nI (v_shr32 V.toBitVec 16 (by omega))
  · exact congrArg nI (v_shr32 V.toBitVec 24 (by omega))
theorem sc_putBytes {l : List Nat} (hD : DR l σ μ) {n : Nat} (hn : n ≤ 4) (hl : l.length + n ≤ 7) {v : Int32} {Q : Rg → Ar → Prop} (hQ : ∀ σ' μ', DR (l ++ byl (tn v) n) σ' μ' → FR σ μ σ' μ' → Q σ' μ') {x : Int32} (hx : x = nI n) : wp_X2_putBytes σ μ v x Q := by
  subst hx
  intro y ey
  have key : ∀ n, n ≤ 4 → ∀ (l : List Nat) σ1 μ1, DR l σ1 μ1 → l.length + n ≤ 7 → FR σ μ σ1 μ1 → (∀ σ' μ', DR (l ++ byl (tn v) n) σ' μ' → FR σ μ σ' μ' → Q σ' μ') → wl_X2_putBytes_4 Q (n + 1) σ1 μ1 v (nI n - 1) := by
    intro n
    induction n with
    | zero =>
      intro _ l σ1 μ1 D1 _ F1 h
      refine ⟨fun _ => h σ1 μ1 (by rw [show byl (tn v) 0 = [] from rfl, List.append_nil]; exact D1) F1, fun z => absurd (show nI 0 - 1 < 0 by decide) z⟩
    | succ n ih =>
      intro h4 l σ1 μ1 D1 hl F1 h
      rw [nI_pred]
      refine ⟨fun z => absurd z (nI_pos (by omega)), fun _ => ?_⟩
      rw [v_by32 v n (by omega)]
      refine sc_put D1 (by omega) (fun σ2 μ2 D2 F2 y ey => ?_) rfl
      rw [ey, ← Int32.sub_eq_add_neg]
      refine ih (by omega) (l ++ [tn v / 256 ^ n % 256]) σ2 μ2 D2 (by rw [List.length_append]; show l.length + 1 + n ≤ 7; omega) (F1.tr F2) (fun σ' μ' D' F' => h σ' μ' ?_ F')
      rw [List.append_assoc] at D'
      exact D'
  rw [ey]
  exact ⟨n + 1, key n hn l σ μ hD hl FR.rf hQ⟩
theorem sc_fillSetting {a t n : Nat} (hn : n ≤ 4) (ha : a + t < 2 ^ 20) {v : Int32} {Q : Rg → Ar → Prop} (hQ : ∀ σ' μ', DR (sB a t n (tn v)) σ' μ' → FR σ μ σ' μ' → Q σ' μ') {x y w : Int32} (hx : x = nI t) (hy : y = nI a) (hw : w = nI n) : wp_X2_fillSetting σ μ x y v w Q := by
  subst hy hw
  unfold wp_X2_fillSetting
  rw [nI_add]
  refine sc_dstart (fun σ1 μ1 D1 F1 => sc_putBytes D1 hn (by show 2 + n ≤ 7; omega) (fun σ2 μ2 D2 F2 => ?_) rfl) hx rfl
  rw [D2.2.2.2]
  have hb := byl_sum (tn v) n
  have hs : lsm ([t, a + n] ++ byl (tn v) n) < 2 ^ 30 := by rw [lsm_app]; show t + (a + n + 0) + _ < _; omega
  refine sc_check hs (sc_put D2 (by rw [List.length_append, byl_len]; show 2 + n < 7; omega) (fun σ3 μ3 D3 F3 => hQ σ3 μ3 D3 (F1.tr (F2.tr F3))) rfl)
theorem byl3 (w : Nat) : byl w 3 = [w / 65536 % 256, w / 256 % 256, w % 256] := by
  show [w / 256 ^ 2 % 256, w / 256 ^ 1 % 256, w / 256 ^ 0 % 256] = _
  rw [show 256 ^ 2 = 65536 from rfl, show 256 ^ 1 = 256 from rfl, show 256 ^ 0 = 1 from rfl, Nat.div_one]
theorem sc_fillCounter {t w : Nat} (hw : w < 2 ^ 31) (ht : t < 2 ^ 20) {Q : Rg → Ar → Prop} (hQ : ∀ σ' μ', DR (cB t w) σ' μ' → FR σ μ σ' μ' → Q σ' μ') {x y : Int32} (hx : x = nI t) (hy : y = nI w) : wp_X2_fillCounter σ μ x y Q := by
  refine sc_dstart (b := 43) (fun σ1 μ1 D1 F1 => sc_putBytes (n := 3) D1 (by omega) (by show 2 + 3 ≤ 7; omega) (fun σ2 μ2 D2 F2 => ?_) rfl) hx rfl
  rw [hy, tn_nI hw, byl3] at D2
  rw [D2.2.2.2]
  have hs : lsm ([t, 43] ++ [w / 65536 % 256, w / 256 % 256, w % 256]) < 2 ^ 30 := by show t + (43 + (w / 65536 % 256 + (w / 256 % 256 + (w % 256 + 0)))) < _; omega
  exact sc_check hs (sc_put D2 (by show 5 < 7; omega) (fun σ3 μ3 D3 F3 => hQ σ3 μ3 D3 (F1.tr (F2.tr F3))) rfl)
theorem sc_fillCommit {m : Nat} (hm : m ≤ 8) {Q : Rg → Ar → Prop} (hQ : ∀ σ' μ', DR (ckd [63, 65, m]) σ' μ' → FR σ μ σ' μ' → Q σ' μ') {x : Int32} (hx : x = nI m) : wp_X2_fillCommit σ μ x Q := by
  refine sc_dstart (a := 63) (b := 65) (fun σ1 μ1 D1 F1 => sc_put D1 (by show 2 < 7; omega) (fun σ2 μ2 D2 F2 => ?_) hx) rfl rfl
  rw [D2.2.2.2]
  have hs : lsm ([63, 65] ++ [m]) < 2 ^ 30 := by show 63 + (65 + (m + 0)) < _; omega
  exact sc_check hs (sc_put D2 (by show 3 < 7; omega) (fun σ3 μ3 D3 F3 => hQ σ3 μ3 D3 (F1.tr (F2.tr F3))) rfl)
theorem DR.fd {l : List Nat} {σ' : Rg} {μ' : Ar} (h : DR l σ μ) (f : FD σ μ σ' μ') : DR l σ' μ' := ⟨by rw [f.1 17 (by omega) (by omega) (by omega) (by omega) (by omega)]; exact h.1, h.2.1, fun i v g => by rw [f.2 12 (by omega)]; exact h.2.2.1 i v g, by rw [f.1 18 (by omega) (by omega) (by omega) (by omega) (by omega)]; exact h.2.2.2⟩
theorem sc_writeDraft {Z : Zt} {l : List Nat} (hD : DR l σ μ) (hZ : RZ k σ μ Z) (hB : XB N Z.1) {s p : Nat} (hs : s < Z.1 0) (hp : p + l.length ≤ Z.1 1) {Q : Rg → Ar → Prop} (hQ : ∀ σ' μ', RZ k σ' μ' (lay s p l Z) → FD σ μ σ' μ' → Q σ' μ') {x y : Int32} (hx : x = nI s) (hy : y = nI p) : wp_X1_writeDraft σ μ x y Q := by
  subst hx hy
  have hl7 := hD.2.1
  have b1 := hB.2.2.2.1
  have key : ∀ d j, j + d = l.length → ∀ σ1 μ1, RZ k σ1 μ1 (lay s p (l.take j) Z) → FD σ μ σ1 μ1 → wl_X1_writeDraft_3 Q (d + 1) σ1 μ1 (nI s) (nI p) (nI j) := by
    intro d
    induction d with
    | zero =>
      intro j hj σ1 μ1 Z1 F1
      have e : j = l.length := by omega
      subst e
      rw [List.take_length] at Z1
      exact pk_le l.length l.length (fun _ => hQ σ1 μ1 Z1 F1) (fun z => absurd z (by omega)) (hD.fd F1).1 rfl
    | succ d ih =>
      intro j hj σ1 μ1 Z1 F1
      have D1 := hD.fd F1
      have hjl : j < l.length := by omega
      have e1 : l[j]? = some l[j] := List.getElem?_eq_getElem hjl
      have B1 := lay_XB (N := N) (s := s) (l.take j) p hB
      have f0 : (lay s p (l.take j) Z).1 0 = Z.1 0 := lay_far fq0 _ _
      have f1 : (lay s p (l.take j) Z).1 1 = Z.1 1 := lay_far fq1 _ _
      refine pk_le l.length j (fun z => absurd z (by omega)) (fun _ => pk_le 7 j (fun z => absurd z (by omega)) (fun _ => ⟨pk_in j 7 (by omega) rfl, ?_⟩) rfl rfl) D1.1 rfl
      rw [nI_clamp (by omega), D1.2.2.1 j _ e1, nI_add]
      refine sc_write Z1 B1 (s := s) (p := p + j) (by rw [f0]; exact hs) (by rw [f1]; omega) (fun σ2 μ2 Z2 F2 y ey => ?_) rfl rfl rfl
      rw [ey, i_p1]
      refine ih (j + 1) (by omega) σ2 μ2 ?_ (F1.tr F2)
      have et : l.take (j + 1) = l.take j ++ [l[j]] := by rw [List.take_succ_eq_append_getElem hjl]
      rw [et, lay_app, List.length_take, Nat.min_eq_left (by omega)]
      exact Z2
  exact ⟨l.length + 1, key l.length 0 (by omega) σ μ hZ FD.rf⟩
theorem sc_write_g {x y w : Int32} (h7 : σ 7 = 0) {Q : Rg → Ar → Prop} (hQ : Q σ μ) : wp_X1_write σ μ x y w Q := ⟨fun _ => hQ, fun z => absurd h7 z⟩
theorem sc_writeDraft_g {l : List Nat} (hD : DR l σ μ) (h7 : σ 7 = 0) {x y : Int32} {Q : Rg → Ar → Prop} (hQ : Q σ μ) : wp_X1_writeDraft σ μ x y Q := by
  have hl7 := hD.2.1
  have key : ∀ d j, j + d = l.length → wl_X1_writeDraft_3 Q (d + 1) σ μ x y (nI j) := by
    intro d
    induction d with
    | zero =>
      intro j hj
      have e : j = l.length := by omega
      subst e
      exact pk_le l.length l.length (fun _ => hQ) (fun z => absurd z (by omega)) hD.1 rfl
    | succ d ih =>
      intro j hj
      refine pk_le l.length j (fun z => absurd z (by omega)) (fun _ => pk_le 7 j (fun z => absurd z (by omega)) (fun _ => ⟨pk_in j 7 (by omega) rfl, sc_write_g h7 (fun z ez => ?_)⟩) rfl rfl) hD.1 rfl
      rw [ez, i_p1]
      exact ih (j + 1) (by omega)
  exact ⟨l.length + 1, key l.length 0 (by omega)⟩
theorem RZ.fr {Z : Zt} {σ' : Rg} {μ' : Ar} (h : RZ k σ μ Z) (f : FR σ μ σ' μ') : RZ k σ' μ' Z := by
  obtain ⟨⟨⟨a3, a4, a5, a8, a9, a10⟩, hb⟩, h6, h7⟩ := h
  refine ⟨⟨⟨?_, ?_, ?_, ?_, ?_, ?_⟩, ⟨fun s p h1 h2 => ?_, fun s h1 => ?_⟩⟩, ?_, ?_⟩
  · rw [f.1 _ (by omega) (by omega)]; exact a3
  · rw [f.1 _ (by omega) (by omega)]; exact a4
  · rw [f.1 _ (by omega) (by omega)]; exact a5
  · rw [f.1 _ (by omega) (by omega)]; exact a8
  · rw [f.1 _ (by omega) (by omega)]; exact a9
  · rw [f.1 _ (by omega) (by omega)]; exact a10
  · rw [f.2 _ (by omega)]; exact hb.1 s p h1 h2
  · rw [f.2 _ (by omega)]; exact hb.2 s h1
  · rw [f.1 _ (by omega) (by omega)]; exact h6
  · rw [f.1 _ (by omega) (by omega)]; exact h7
theorem RZ.fc {Z : Zt} {σ' : Rg} {μ' : Ar} (h : RZ k σ μ Z) (f : FCs σ σ') (g : FCm μ μ') : RZ k σ' μ' Z := by
  obtain ⟨⟨⟨a3, a4, a5, a8, a9, a10⟩, hb⟩, h6, h7⟩ := h
  refine ⟨⟨⟨?_, ?_, ?_, ?_, ?_, ?_⟩, ⟨fun s p h1 h2 => ?_, fun s h1 => ?_⟩⟩, ?_, ?_⟩
  · rw [f _ (by omega) (by omega) (by omega) (by omega)]; exact a3
  · rw [f _ (by omega) (by omega) (by omega) (by omega)]; exact a4
  · rw [f _ (by omega) (by omega) (by omega) (by omega)]; exact a5
  · rw [f _ (by omega) (by omega) (by omega) (by omega)]; exact a8
  · rw [f _ (by omega) (by omega) (by omega) (by omega)]; exact a9
  · rw [f _ (by omega) (by omega) (by omega) (by omega)]; exact a10
  · rw [g _ (by omega)]; exact hb.1 s p h1 h2
  · rw [g _ (by omega)]; exact hb.2 s h1
  · rw [f _ (by omega) (by omega) (by omega) (by omega)]; exact h6
  · rw [f _ (by omega) (by omega) (by omega) (by omega)]; exact h7
theorem RDc.fd {s : Nat} {σ' : Rg} {μ' : Ar} (h : RDc X s σ μ) (f : ∀ q, 11 ≤ q → q ≤ 14 → σ' q = σ q) (g : ∀ q, 2 ≤ q → q ≤ 8 → μ' q = μ q) : RDc X s σ' μ' := by
  obtain ⟨⟨r1, r2⟩, ⟨c1, c2⟩, h13, h14, n8, m7⟩ := h
  refine ⟨⟨?_, fun p hp => ?_⟩, ⟨?_, fun i hi => ?_⟩, ?_, ?_, fun t ht => ?_, fun i hi => ?_⟩
  · rw [f _ (by omega) (by omega)]; exact r1
  · rw [g _ (by omega) (by omega)]; exact r2 p hp
  · rw [f _ (by omega) (by omega)]; exact c1
  · rw [g 3 (by omega) (by omega), g 4 (by omega) (by omega), g 5 (by omega) (by omega), g 6 (by omega) (by omega)]; exact c2 i hi
  · rw [f _ (by omega) (by omega)]; exact h13
  · rw [f _ (by omega) (by omega)]; exact h14
  · rw [g _ (by omega) (by omega)]; exact n8 t ht
  · rw [g _ (by omega) (by omega)]; exact m7 i hi
end CF
