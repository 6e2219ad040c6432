/-! the reference: which sector, switching on -/
/-- 1 + the least erased of the sectors below j but u; 0: none -/
def leN (X : Nat → Nat) (u : Nat) : Nat → Nat
  | 0 => 0
  | j + 1 => if j = u then leN X u j else if leN X u j = 0 then j + 1 else if X (36 + (leN X u j - 1)) ≤ X (36 + j) then leN X u j else j + 1
def nb (X : Nat → Nat) (s : Nat) : Nat := 256 * bt X s 1 + bt X s 2
def mkr (s n : Nat) (Z : Zt) : Zt := wr s 0 127 (wr s 3 ((n / 256 + n % 256 + 85) % 251) (wr s 2 (n % 256) (wr s 1 (n / 256) Z)))
noncomputable def eoN (u : Nat) : Nat → Zt → Zt
  | 0, Z => Z
  | j + 1, Z => itp (j = u ∨ blnk (eoN u j Z).1 j 0) (eoN u j Z) (er j (eoN u j Z))
def hd63 (X : Nat → Nat) (s : Nat) : Prop := bt X s 0 = 63 ∧ (bt X s 1 + bt X s 2 + 85) % 251 = bt X s 3
noncomputable def fdN (X : Nat → Nat) : Nat → Nat
  | 0 => 0
  | j + 1 => itp (hd63 X j) (if fdN X j = 0 then j + 1 else if nb X j ≤ nb X (fdN X j - 1) then fdN X j else j + 1) (fdN X j)
def onX (s : Nat) (Z : Zt) : Zt := if Z.2 = true then Z else (ux (ux Z.1 2 1) 3 s, false)
noncomputable def swZ (Z : Zt) : Zt :=
  if fdN Z.1 (Z.1 0) = 0 then onX (leN (eoN 9 (Z.1 0) Z).1 9 (Z.1 0) - 1) (wr (leN (eoN 9 (Z.1 0) Z).1 9 (Z.1 0) - 1) 0 63 (mkr (leN (eoN 9 (Z.1 0) Z).1 9 (Z.1 0) - 1) 1 (eoN 9 (Z.1 0) Z)))
  else onX (fdN Z.1 (Z.1 0) - 1) (eoN (fdN Z.1 (Z.1 0) - 1) (Z.1 0) Z)
/-- what a doing of the reference leaves alone -/
def FK (σ : Rg) (μ : Ar) (σ' : Rg) (μ' : Ar) : Prop := σ' 0 = σ 0 ∧ μ' 1 = μ 1
section MF
variable {σ : Rg} {μ : Ar} {X : Nat → Nat} {N : Nat}
theorem FK.rf : FK σ μ σ μ := ⟨rfl, rfl⟩
theorem FK.tr {σ1 σ2 : Rg} {μ1 μ2 : Ar} (h : FK σ μ σ1 μ1) (h2 : FK σ1 μ1 σ2 μ2) : FK σ μ σ2 μ2 := ⟨h2.1.trans h.1, h2.2.trans h.2⟩
theorem FK.fs {σ' : Rg} {μ' : Ar} (h : FS σ σ') (h2 : FA μ μ') : FK σ μ σ' μ' := ⟨h 0 (by omega), h2 1 (by omega)⟩
theorem FK.fg {σ' : Rg} {μ' : Ar} (h : G3 σ σ') (h2 : F01 μ μ') : FK σ μ σ' μ' := ⟨h 0 (by omega) (by omega) (by omega), h2.2⟩
theorem leN_le (X : Nat → Nat) (u j : Nat) : leN X u j ≤ j := by
  induction j with
  | zero => exact Nat.le_refl _
  | succ j ih => unfold leN; (repeat' split) <;> omega
theorem leN_ne (X : Nat → Nat) (u j : Nat) : leN X u j ≠ u + 1 := by
  induction j with
  | zero => show (0 : Nat) ≠ _; omega
  | succ j ih => unfold leN; (repeat' split) <;> omega
theorem leN_pos (X : Nat → Nat) (u j : Nat) (h : 2 ≤ j) : leN X u j ≠ 0 := by
  have h1 : ∀ j, leN X u j ≠ 0 → leN X u (j + 1) ≠ 0 := by
    intro j h; unfold leN; (repeat' split) <;> omega
  have h2 : leN X u 2 ≠ 0 := by
    by_cases e : u = 0
    · subst e; simp [leN]
    · refine h1 1 ?_
      show (if 0 = u then 0 else if (0 : Nat) = 0 then 1 else _) ≠ 0
      rw [if_neg (fun g => e g.symm), if_pos rfl]; omega
  obtain ⟨d, rfl⟩ := Nat.exists_eq_add_of_le h
  clear h
  induction d with
  | zero => exact h2
  | succ d ih => exact h1 _ ih
theorem sm_leastErased (hR : RM μ X) (hB : XB N X) (hN : N < 2 ^ 30) {x : Int32} {u : Nat} (hu : ∀ j, j < 6 → (nI j = x ↔ j = u)) {Q : Int32 → Rg → Ar → Prop} (hQ : Q (nI (leN X u (X 0) - 1)) σ μ) : wp_X6_leastErased σ μ x Q := by
  have b0 := hB.1
  have b6 := hB.2.1
  have hb := hB.2.2.2.2.2.2.2.2.2
  have key : ∀ d j, j + d = X 0 → wl_X6_leastErased_4 Q (d + 1) σ μ x (nwI (leN X u j)) (nI j) := by
    intro d
    induction d with
    | zero =>
      intro j hj
      have e : j = X 0 := by omega
      rw [e]
      refine pk_le (X 0) (X 0) (fun _ => ?_) (fun z => absurd z (by omega)) (hR 0 (by omega)) rfl
      rw [nwI_some (leN_pos X u _ b0)]; exact hQ
    | succ d ih =>
      intro j hj
      refine pk_le (X 0) j (fun z => absurd z (by omega)) (fun _ => ?_) (hR 0 (by omega)) rfl
      have hle := leN_le X u j
      have keep : leN X u (j + 1) = leN X u j → wb_X6_leastErased_46 Q (wl_X6_leastErased_4 Q (d + 1)) σ μ x (nwI (leN X u j)) (nI j) := by
        intro e y ey
        rw [ey, i_p1, ← e]; exact ih (j + 1) (by omega)
      have take : leN X u (j + 1) = j + 1 → wb_X6_leastErased_44 Q (wl_X6_leastErased_4 Q (d + 1)) σ μ x (nI j) := by
        intro e y ey
        rw [ey, i_p1]
        have := ih (j + 1) (by omega)
        rw [e] at this
        exact this
      refine ⟨fun z => keep ?_, fun z => ?_⟩
      · show (if j = u then _ else _) = _
        rw [if_pos ((hu j (by omega)).mp z)]
      · have hne : j ≠ u := fun g => z ((hu j (by omega)).mpr g)
        have e1 : leN X u (j + 1) = if leN X u j = 0 then j + 1 else if X (36 + (leN X u j - 1)) ≤ X (36 + j) then leN X u j else j + 1 := by
          show (if j = u then _ else _) = _
          rw [if_neg hne]
        refine ⟨fun z => take ?_, fun z => ?_⟩
        · rw [e1, if_pos ((nwI_neg (by omega)).mp z)]
        · have h0 : leN X u j ≠ 0 := fun g => z ((nwI_neg (by omega)).mpr g)
          have h36 := hb (36 + j) (by omega) (by omega)
          have h37 := hb (36 + (leN X u j - 1)) (by omega) (by omega)
          rw [if_neg h0] at e1
          rw [nwI_some h0] at keep ⊢
          rw [i_36, i_36, nI_clamp (by omega), nI_clamp (by omega), hR _ (by omega), hR _ (by omega)]
          refine ⟨pk_in _ 810 (by omega) rfl, pk_in _ 810 (by omega) rfl, ?_⟩
          refine pk_le _ _ (fun g => keep (by rw [e1, if_pos g])) (fun g => take (by rw [e1, if_neg (by omega)])) rfl rfl
  exact ⟨X 0 + 1, key (X 0) 0 (by omega)⟩
theorem sm_numberOf (hR : RM μ X) {s : Nat} (hs : s < 6) {Q : Int32 → Rg → Ar → Prop} (hQ : Q (nI (nb X s)) σ μ) : wp_X6_numberOf σ μ (nI s) Q := by
  refine sm_byteAt (p := 1) hR hs (by omega) (sm_byteAt (p := 2) hR hs (by omega) ?_)
  rw [show (256 : Int32) = nI 256 from rfl, pk_mul, nI_add]; exact hQ
theorem mkr_XB {s n : Nat} {Z : Zt} (h : XB N Z.1) : XB N (mkr s n Z).1 := wr_XB (wr_XB (wr_XB (wr_XB h)))
theorem sm_makesReady {Z : Zt} (hW : RW σ μ Z) (hB : XB N Z.1) {s n : Nat} (hs : s < 6) (hn : n < 65536) {Q : Rg → Ar → Prop} (hQ : ∀ σ' μ', RW σ' μ' (mkr s n Z) → FS σ σ' → FA μ μ' → Q σ' μ') : wp_X6_makesReady σ μ (nI s) (nI n) Q := by
  intro y5 e5 y11 e11
  have h5 : y5 = nI (n / 256) := by rw [e5]; exact pk_div (d := 256) (by omega) (by omega) (by omega)
  have h11 : y11 = nI (n % 256) := by rw [e11]; exact i_rem n 256 (by omega) (by omega) (by omega) rfl rfl
  rw [h5, h11]
  refine sm_writes (p := 1) hW hB hs (by omega) (fun σ1 μ1 W1 S1 A1 => ?_)
  refine sm_writes (p := 2) W1 (wr_XB hB) hs (by omega) (fun σ2 μ2 W2 S2 A2 => ?_)
  rw [nI_add]
  refine sm_check (by omega) ?_
  refine sm_writes (p := 3) W2 (wr_XB (wr_XB hB)) hs (by omega) (fun σ3 μ3 W3 S3 A3 => ?_)
  refine sm_writes (p := 0) (v := 127) W3 (wr_XB (wr_XB (wr_XB hB))) hs (by omega) (fun σ4 μ4 W4 S4 A4 => ?_)
  exact hQ σ4 μ4 W4 (S1.tr (S2.tr (S3.tr S4))) (A1.tr (A2.tr (A3.tr A4)))
/-- an index that no doing touches -/
def fq (q : Nat) : Prop := q ≠ 2 ∧ q ≠ 4 ∧ q ≠ 6 ∧ q ≠ 8 ∧ q ≠ 9 ∧ q ≠ 10 ∧ q < 36
theorem wr_far {s p v q : Nat} {Z : Zt} (h : fq q) : (wr s p v Z).1 q = Z.1 q := by
  obtain ⟨h2, h4, h6, h8, h9, h10, h36⟩ := h
  unfold wr
  split
  · rfl
  · dsimp only; rw [ux_n (by omega), goX_far h8 h4 h6 h2 h10, ux_n h9]
theorem er_far {s q : Nat} {Z : Zt} (h : fq q) : (er s Z).1 q = Z.1 q := by
  obtain ⟨h2, h4, h6, h8, h9, h10, h36⟩ := h
  unfold er
  split
  · rfl
  · dsimp only; rw [if_neg (by omega), goX_far h8 h4 h6 h2 h10, ux_n (by omega)]
theorem eoN_far {u q : Nat} {Z : Zt} (h : fq q) : ∀ j, (eoN u j Z).1 q = Z.1 q
  | 0 => rfl
  | j + 1 => by
    show (itp _ _ _ : Zt).1 q = _
    unfold itp
    split
    · exact eoN_far h j
    · rw [er_far h]; exact eoN_far h j
theorem eoN_XB {u : Nat} {Z : Zt} (h : XB N Z.1) : ∀ j, j ≤ 6 → XB (N + j) (eoN u j Z).1
  | 0, _ => h
  | j + 1, hj => by
    show XB _ (itp _ _ _ : Zt).1
    unfold itp
    split
    · exact (eoN_XB h j (by omega)).mono (by omega)
    · exact er_XB (eoN_XB h j (by omega)) (by omega)
theorem sm_erasesOthers {Z : Zt} (hW : RW σ μ Z) (hB : XB N Z.1) {x : Int32} {u : Nat} (hu : ∀ j, j < 6 → (nI j = x ↔ j = u)) {Q : Rg → Ar → Prop} (hQ : ∀ σ' μ', RW σ' μ' (eoN u (Z.1 0) Z) → FS σ σ' → FA μ μ' → Q σ' μ') : wp_X6_erasesOthers σ μ x Q := by
  have b6 := hB.2.1
  have key : ∀ d j, j + d = Z.1 0 → ∀ σ1 μ1, RW σ1 μ1 (eoN u j Z) → FS σ σ1 → FA μ μ1 → wl_X6_erasesOthers_2 Q (d + 1) σ1 μ1 x (nI j) := by
    intro d
    induction d with
    | zero =>
      intro j hj σ1 μ1 W S A
      have e : j = Z.1 0 := by omega
      refine pk_le (Z.1 0) j (fun _ => hQ σ1 μ1 (by rw [← e]; exact W) S A) (fun z => absurd z (by omega)) ?_ rfl
      rw [W.1 0 (by omega), eoN_far (by unfold fq; omega)]
    | succ d ih =>
      intro j hj σ1 μ1 W S A
      have hBj := eoN_XB (u := u) hB j (by omega)
      refine pk_le (Z.1 0) j (fun z => absurd z (by omega)) (fun _ => ?_) (by rw [W.1 0 (by omega), eoN_far (by unfold fq; omega)]) rfl
      have keep : (j = u ∨ blnk (eoN u j Z).1 j 0) → wb_X6_erasesOthers_31 Q (wl_X6_erasesOthers_2 Q (d + 1)) σ1 μ1 x (nI j) := by
        intro g y ey
        rw [ey, i_p1]
        exact ih (j + 1) (by omega) σ1 μ1 (by show RW σ1 μ1 (itp _ _ _); rw [itp_pos g]; exact W) S A
      refine ⟨fun z => keep (Or.inl ((hu j (by omega)).mp z)), fun z => ?_⟩
      refine sm_isBlank (p := 0) W.1 hBj (by omega) (by omega) (fun g => ⟨fun _ => keep (Or.inr g), fun z => absurd z (by decide)⟩) (fun g => ⟨fun z => absurd rfl z, fun _ => ?_⟩)
      refine sm_erases W hBj (by omega) (fun σ2 μ2 W2 S2 A2 y ey => ?_)
      rw [ey, i_p1]
      refine ih (j + 1) (by omega) σ2 μ2 ?_ (S.tr S2) (A.tr A2)
      show RW σ2 μ2 (itp _ _ _)
      rw [itp_neg (fun c => c.elim (fun c => z ((hu j (by omega)).mpr c)) g)]
      exact W2
  exact ⟨Z.1 0 + 1, key (Z.1 0) 0 (by omega) σ μ hW FS.rf FA.rf⟩
theorem fdN_le (X : Nat → Nat) (j : Nat) : fdN X j ≤ j := by
  induction j with
  | zero => exact Nat.le_refl _
  | succ j ih => show itp _ _ _ ≤ _; unfold itp; (repeat' split) <;> omega
theorem nb_le (hB : XB N X) {s : Nat} (hs : s < 6) : nb X s ≤ 65535 := by
  have h1 := hB.b (s := s) (p := 1) hs (by omega)
  have h2 := hB.b (s := s) (p := 2) hs (by omega)
  unfold nb; omega
theorem sm_found (hR : RM μ X) (hB : XB N X) {Q : Int32 → Rg → Ar → Prop} (hQ : Q (nwI (fdN X (X 0))) σ μ) : wp_X6_found σ μ Q := by
  have b6 := hB.2.1
  have key : ∀ d j, j + d = X 0 → wl_X6_found_4 Q (d + 1) σ μ (nwI (fdN X j)) (nI j) := by
    intro d
    induction d with
    | zero =>
      intro j hj
      have e : j = X 0 := by omega
      rw [e]
      exact pk_le (X 0) (X 0) (fun _ => hQ) (fun z => absurd z (by omega)) (hR 0 (by omega)) rfl
    | succ d ih =>
      intro j hj
      refine pk_le (X 0) j (fun z => absurd z (by omega)) (fun _ => ?_) (hR 0 (by omega)) rfl
      have hle := fdN_le X j
      have keep : fdN X (j + 1) = fdN X j → wb_X6_found_72 Q (wl_X6_found_4 Q (d + 1)) σ μ (nwI (fdN X j)) (nI j) := by
        intro e y ey
        rw [ey, i_p1, ← e]; exact ih (j + 1) (by omega)
      have take : fdN X (j + 1) = j + 1 → wb_X6_found_70 Q (wl_X6_found_4 Q (d + 1)) σ μ (nI j) := by
        intro e y ey
        rw [ey, i_p1]
        have := ih (j + 1) (by omega)
        rw [e] at this
        exact this
      have no : ¬ hd63 X j → fdN X (j + 1) = fdN X j := fun g => itp_neg g
      have b0 := hB.b (s := j) (p := 0) (by omega) (by omega)
      have b1 := hB.b (s := j) (p := 1) (by omega) (by omega)
      have b2 := hB.b (s := j) (p := 2) (by omega) (by omega)
      have b3 := hB.b (s := j) (p := 3) (by omega) (by omega)
      refine sm_byteAt (p := 0) hR (by omega) (by omega) ⟨fun z => keep (no (fun c => z (by rw [c.1]; rfl))), fun z => ?_⟩
      have z63 : bt X j 0 = 63 := (nI_eq (b := 63) (by omega) (by omega)).mp z
      refine sm_byteAt (p := 1) hR (by omega) (by omega) (sm_byteAt (p := 2) hR (by omega) (by omega) ?_)
      rw [nI_add]
      refine sm_check (by omega) (sm_byteAt (p := 3) hR (by omega) (by omega) ⟨fun z => ?_, fun z => keep (no (fun c => z (by rw [c.2])))⟩)
      have yes : hd63 X j := ⟨z63, (nI_eq (by omega) (by omega)).mp z⟩
      have e1 : fdN X (j + 1) = if fdN X j = 0 then j + 1 else if nb X j ≤ nb X (fdN X j - 1) then fdN X j else j + 1 := itp_pos yes
      refine ⟨fun z => take ?_, fun z => ?_⟩
      · rw [e1, if_pos ((nwI_neg (by omega)).mp z)]
      · have h0 : fdN X j ≠ 0 := fun g => z ((nwI_neg (by omega)).mpr g)
        rw [if_neg h0] at e1
        rw [nwI_some h0] at keep ⊢
        have n1 := nb_le hB (s := j) (by omega)
        have n2 := nb_le hB (s := fdN X j - 1) (by omega)
        refine sm_numberOf hR (by omega) (sm_numberOf hR (by omega) ?_)
        exact pk_le _ _ (fun g => keep (by rw [e1, if_pos g])) (fun g => take (by rw [e1, if_neg (by omega)])) rfl rfl
  exact ⟨X 0 + 1, key (X 0) 0 (by omega)⟩
theorem onX_RW {s : Nat} {Z : Zt} (hW : RW σ μ Z) {Q : Rg → Ar → Prop} (hQ : ∀ μ', RW σ μ' (onX s Z) → FA μ μ' → Q σ μ') : wb_X6_switchesOn_34 Q σ μ (nI s) := by
  obtain ⟨hR, hg⟩ := hW
  cases hz : Z.2 with
  | false =>
    rw [hz] at hg
    refine ⟨fun _ μ1 e1 μ2 e2 => ?_, fun z => absurd hg z⟩
    have ex : onX s Z = (ux (ux Z.1 2 1) 3 s, false) := by unfold onX; rw [hz]; rfl
    refine hQ μ2 ⟨?_, ?_⟩ ?_
    · rw [ex, e2, e1]; exact (hR.set rfl).set rfl
    · rw [ex]; exact hg
    · rw [e2, e1]; exact FA.set.tr FA.set
  | true =>
    rw [hz] at hg
    refine ⟨fun z => absurd (hg.symm.trans z) (by decide), fun _ => ?_⟩
    refine hQ μ ⟨?_, ?_⟩ FA.rf
    · unfold onX; rw [if_pos hz]; exact hR
    · unfold onX; rw [if_pos hz, hz]; exact hg
theorem sm_switchesOn {Z : Zt} (hW : RW σ μ Z) (hB : XB N Z.1) (hN : N < 2 ^ 29) {Q : Rg → Ar → Prop} (hQ : ∀ σ' μ', RW σ' μ' (swZ Z) → FS σ σ' → FA μ μ' → Q σ' μ') : wp_X6_switchesOn σ μ Q := by
  have b0 := hB.1
  have b6 := hB.2.1
  have hle := fdN_le Z.1 (Z.1 0)
  refine sm_found hW.1 hB ?_
  by_cases h0 : fdN Z.1 (Z.1 0) = 0
  · rw [h0]
    refine sm_erasesOthers (u := 9) hW hB (fun j hj => ⟨fun z => ?_, fun z => by omega⟩) (fun σ1 μ1 W1 S1 A1 => ?_)
    · exact absurd ((nwI_neg (n := 0) (by omega)).mpr rfl) (by rw [← z]; exact nI_pos (by omega))
    · have hB1 := eoN_XB (u := 9) hB (Z.1 0) b6
      have hB1' : XB (N + 6) (eoN 9 (Z.1 0) Z).1 := hB1.mono (by omega)
      refine ⟨fun z => absurd z (by decide), fun _ => ?_⟩
      have e0 : (eoN 9 (Z.1 0) Z).1 0 = Z.1 0 := eoN_far (by unfold fq; omega) _
      refine sm_leastErased (u := 9) W1.1 hB1' (by omega) (fun j hj => ⟨fun z => ?_, fun z => by omega⟩) ?_
      · exact absurd (show nI j < 0 by rw [z]; decide) (nI_pos (by omega))
      · rw [e0]
        have l1 := leN_le (eoN 9 (Z.1 0) Z).1 9 (Z.1 0)
        have l2 := leN_pos (eoN 9 (Z.1 0) Z).1 9 (Z.1 0) b0
        refine sm_makesReady (n := 1) W1 hB1' (by omega) (by omega) (fun σ2 μ2 W2 S2 A2 => ?_)
        refine sm_writes (p := 0) (v := 63) W2 (mkr_XB hB1') (by omega) (by omega) (fun σ3 μ3 W3 S3 A3 => ?_)
        refine onX_RW W3 (fun μ4 W4 A4 => hQ σ3 μ4 ?_ (S1.tr (S2.tr S3)) (A1.tr (A2.tr (A3.tr A4))))
        unfold swZ; rw [if_pos h0]; exact W4
  · rw [nwI_some h0]
    refine sm_erasesOthers (u := fdN Z.1 (Z.1 0) - 1) hW hB (fun j hj => nI_eq (by omega) (by omega)) (fun σ1 μ1 W1 S1 A1 => ?_)
    refine ⟨fun _ => ?_, fun z => absurd (nI_pos' (by omega)) z⟩
    refine onX_RW W1 (fun μ4 W4 A4 => hQ σ1 μ4 ?_ S1 (A1.tr A4))
    unfold swZ; rw [if_neg h0]; exact W4
theorem sm_begins (hR : RM μ X) {Q : Rg → Ar → Prop} (hQ : ∀ σ' μ', RW σ' μ' (ux X 8 0, false) → FS σ σ' → FA μ μ' → Q σ' μ') : wp_X6_begins σ μ Q := by
  intro σ2 e2 μ2 e3
  refine hQ σ2 μ2 ⟨?_, ?_⟩ ?_ ?_
  · rw [e3]; exact hR.set rfl
  · rw [e2, up_s]; rfl
  · rw [e2]; exact fun k hk => up_n hk
  · rw [e3]; exact FA.set
def tdI (Z : Zt) : Int32 := if Z.2 = true then -3 else nI (Z.1 8)
theorem sm_told {Z : Zt} (hW : RW σ μ Z) {Q : Int32 → Rg → Ar → Prop} (hQ : Q (tdI Z) σ μ) : wp_X6_told σ μ Q := by
  obtain ⟨hR, hg⟩ := hW
  unfold tdI at hQ
  cases hz : Z.2 with
  | false =>
    rw [hz] at hg hQ
    refine ⟨fun _ => ?_, fun z => absurd hg z⟩
    show Q (μ 0 8) σ μ
    rw [hR 8 (by omega)]; exact hQ
  | true =>
    rw [hz] at hg hQ
    exact ⟨fun z => absurd (hg.symm.trans z) (by decide), fun _ => hQ⟩
end MF
