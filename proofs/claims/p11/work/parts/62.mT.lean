/-! the reference: entry, space, history, tags, extreme, wears, wear -/
noncomputable def lvN (X : Nat → Nat) (s : Nat) : Nat → Nat
  | 0 => 0
  | j + 1 => lvN X s j + itp (kd X s (ps X s j) ≠ 3 ∧ st2 X s j = 0 ∧ 0 < ln X s j) (sz X s (ps X s j)) 0
def alN (X : Nat → Nat) (s j : Nat) : Nat := smN (fun i => sz X s (ps X s i)) j
noncomputable def spA (X : Nat → Nat) (x1 x2 : Int32) : Int32 := itp (tn x1 < X 0 ∧ tn x2 ≤ 3) (if tn x2 = 0 then nI (frE X (tn x1)) else if tn x2 = 1 then nI (loE X (tn x1)) else if tn x2 = 2 then nI (lvN X (tn x1) (nE X (tn x1))) else nI (alN X (tn x1) (nE X (tn x1)) - lvN X (tn x1) (nE X (tn x1)))) (-1)
def isof (X : Nat → Nat) (s k t : Nat) : Prop := bt X s (ps X s k) = t ∧ kd X s (ps X s k) ≠ 3 ∧ st2 X s k < 2
noncomputable def hsF (X : Nat → Nat) (s t : Nat) (i : Int32) : Nat → Nat → Int64
  | 0, met => if i = -1 then (nI met).toInt64 else -5
  | k + 1, met => itp (isof X s k t) (if nI met = i then vlL X s k else hsF X s t i k (met + 1)) (hsF X s t i k met)
noncomputable def hsA (X : Nat → Nat) (x1 x2 : Int32) : Int64 := itp (X 2 = 1 ∧ tn x1 ≤ 47 ∧ -1 ≤ x2) (hsF X (X 3) (tn x1) x2 (nE X (X 3)) 0) (-1)
noncomputable def tgN (X : Nat → Nat) (s : Nat) : Nat → Int64
  | 0 => 0
  | t + 1 => itp (hv X s t) (tgN X s t ||| ((1 : Int64) <<< ((nI t).toInt64 &&& 63))) (tgN X s t)
noncomputable def tgA (X : Nat → Nat) : Int64 := if X 2 = 1 then tgN X (X 3) 48 else -1
/-- the sector of most (m not 0) or fewest ERASES, those up to d looked at -/
def exB (X : Nat → Nat) (m : Int32) : Nat → Nat
  | 0 => 0
  | d + 1 => if m = 0 then (if X (36 + exB X m d) ≤ X (36 + (d + 1)) then exB X m d else d + 1) else (if X (36 + (d + 1)) ≤ X (36 + exB X m d) then exB X m d else d + 1)
def exV (X : Nat → Nat) (m : Int32) : Nat := X (36 + exB X m (X 0 - 1))
def eaN (X : Nat → Nat) : Nat → Nat := smN (fun s => X (36 + s))
/-- sector s is filled with v -/
def flS (s v m : Nat) (X : Nat → Nat) : Nat → Nat := fun q => if 42 + 128 * s ≤ q ∧ q < 42 + 128 * s + m then v else X q
noncomputable def wrS (p : (Nat → Nat) × Nat) : (Nat → Nat) × Nat :=
  (ux (flS p.2 255 (p.1 1) (flS (leN p.1 p.2 (p.1 0) - 1) 0 (p.1 1) (itp (blnk p.1 (leN p.1 p.2 (p.1 0) - 1) 0) p.1 (ux p.1 (36 + (leN p.1 p.2 (p.1 0) - 1)) (p.1 (36 + (leN p.1 p.2 (p.1 0) - 1)) + 1))))) (36 + p.2) ((itp (blnk p.1 (leN p.1 p.2 (p.1 0) - 1) 0) p.1 (ux p.1 (36 + (leN p.1 p.2 (p.1 0) - 1)) (p.1 (36 + (leN p.1 p.2 (p.1 0) - 1)) + 1))) (36 + p.2) + 1), leN p.1 p.2 (p.1 0) - 1)
noncomputable def wsN (X : Nat → Nat) (u : Nat) : Nat → (Nat → Nat) × Nat
  | 0 => (X, u)
  | k + 1 => wrS (wsN X u k)
noncomputable def wsA (X : Nat → Nat) (x1 x2 : Int32) : Int32 := itp (X 2 = 1 ∧ tn x1 ≤ 1000 ∧ tn x2 ≤ 2) (if x2 = 2 then nI (wsN X (X 3) (tn x1)).2 else nI (exV (wsN X (X 3) (tn x1)).1 (if x2 = 0 then 1 else 0))) (-1)
noncomputable def weA (X : Nat → Nat) (x : Int32) : Int32 := if x = 0 then nI (exV X 1) else if x = 1 then nI (exV X 0) else if x = 2 then nI (eaN X (X 0)) else if x = 3 then nI (X 9) else if x = 4 then (if eaN X (X 0) = 0 then 0 else (FP.fdiv (FP.i2f (nI (exV X 1))) (FP.fdiv (FP.i2f (nI (eaN X (X 0)))) (FP.i2f (nI (X 0))))).toInt32) else -1
section MT
variable {σ : Rg} {μ : Ar} {X : Nat → Nat} {N : Nat}
theorem ecl {x : Int32} {n : Nat} (h : tn x ≤ n) (hn : n < 2 ^ 31) : (x).toNatClampNeg = tn x := by rw [tn_e x, nI_clamp (by omega), ← tn_e x]
theorem sm_entry (hR : RM μ X) (hB : XB N X) {x1 x2 x3 : Int32} {Q : Int32 → Rg → Ar → Prop} (hQ : ∀ r σ' μ', RM μ' X → σ' 0 = 0 → Q r σ' μ') : wp_X6_entry σ μ x1 x2 x3 Q := by
  intro σ2 e2
  have K2 := K0 e2
  have b6 := hB.2.1
  have b1 := hB.2.2.2.1
  refine sm_isSector hR hB (fun s1 => ⟨fun z => absurd z (by decide), fun _ => ?_⟩) (fun g => ⟨fun _ => hQ _ σ2 μ hR K2, fun z => absurd rfl z⟩)
  refine sm_win (lo := 0) (hi := 4) (by omega) (by omega) rfl rfl (fun _ s3 => ⟨fun _ => ?_, fun z => absurd z (by decide)⟩) (fun g => ⟨fun z => absurd rfl z, fun _ => hQ _ σ2 μ hR K2⟩)
  have := sm_reads (σ := σ2) hR hB (s := tn x1) (by omega) (Q := fun σ26 μ26 => ((¬ x2 = (-1 : Int32) → wp_X6_within x2 (0 : Int32) ((σ26 2) - (1 : Int32)) (fun r47 => ((¬ r47 = 0 → (((x3).toInt < 0 ∨ 3 < (x3).toInt → (vp_in x2 64) ∧ (Q (μ26 5 (x2).toNatClampNeg) σ26 μ26)) ∧ (x3 = 0 → (vp_in x2 64) ∧ (Q (μ26 2 (x2).toNatClampNeg) σ26 μ26)) ∧ (x3 = 1 → (vp_in x2 64) ∧ (wp_X6_byteAt σ26 μ26 x1 (μ26 2 (x2).toNatClampNeg) (fun r103 σ103 μ103 => Q r103 σ103 μ103))) ∧ (x3 = 2 → (vp_in x2 64) ∧ (Q (μ26 3 (x2).toNatClampNeg) σ26 μ26)) ∧ (x3 = 3 → (vp_in x2 64) ∧ (Q (μ26 4 (x2).toNatClampNeg) σ26 μ26)))) ∧ (r47 = 0 → Q (-1 : Int32) σ26 μ26)))) ∧ (x2 = (-1 : Int32) → Q (σ26 2) σ26 μ26))) (fun σ3 μ3 F3 G3' D3 => ?_)
  · rw [← tn_e x1] at this; exact this
  · have R3 := F3.RM hR
    have k3 : σ3 0 = 0 := (G3' 0 (by omega) (by omega) (by omega)).trans K2
    refine ⟨fun _ => ?_, fun _ => hQ _ σ3 μ3 R3 k3⟩
    have hE := nE_le (X := X) (s := tn x1) b1
    have e2' : σ3 2 = nI (nE X (tn x1)) := D3.1.1
    have fin : ∀ r : Int32, (r = 1 → tn x2 < nE X (tn x1)) → (((¬ r = 0 → (((x3).toInt < 0 ∨ 3 < (x3).toInt → (vp_in x2 64) ∧ (Q (μ3 5 (x2).toNatClampNeg) σ3 μ3)) ∧ (x3 = 0 → (vp_in x2 64) ∧ (Q (μ3 2 (x2).toNatClampNeg) σ3 μ3)) ∧ (x3 = 1 → (vp_in x2 64) ∧ (wp_X6_byteAt σ3 μ3 x1 (μ3 2 (x2).toNatClampNeg) (fun r103 σ103 μ103 => Q r103 σ103 μ103))) ∧ (x3 = 2 → (vp_in x2 64) ∧ (Q (μ3 3 (x2).toNatClampNeg) σ3 μ3)) ∧ (x3 = 3 → (vp_in x2 64) ∧ (Q (μ3 4 (x2).toNatClampNeg) σ3 μ3)))) ∧ (r = 0 → Q (-1 : Int32) σ3 μ3)) ∨ (r ≠ 0 ∧ r ≠ 1)) := by
      intro r hr
      by_cases r0 : r = 0
      · exact Or.inl ⟨fun z => absurd r0 z, fun _ => hQ _ σ3 μ3 R3 k3⟩
      · by_cases r1 : r = 1
        · have hlt := hr r1
          have hv : vp_in x2 64 := pk_in (tn x2) 64 (by omega) (tn_e x2)
          refine Or.inl ⟨fun _ => ⟨fun _ => ⟨hv, hQ _ σ3 μ3 R3 k3⟩, fun _ => ⟨hv, hQ _ σ3 μ3 R3 k3⟩, fun _ => ⟨hv, ?_⟩, fun _ => ⟨hv, hQ _ σ3 μ3 R3 k3⟩, fun _ => ⟨hv, hQ _ σ3 μ3 R3 k3⟩⟩, fun z => absurd z r0⟩
          rw [ecl (n := 64) (by omega) (by omega), (D3.1.2 _ hlt).1]
          have hen := (ent hB hlt).1
          have hge := sz_ge X (tn x1) (ps X (tn x1) (tn x2))
          have := sm_byteAt (σ := σ3) R3 (s := tn x1) (p := ps X (tn x1) (tn x2)) (by omega) (by omega) (Q := fun r103 σ103 μ103 => Q r103 σ103 μ103) (hQ _ σ3 μ3 R3 k3)
          rw [← tn_e x1] at this; exact this
        · exact Or.inr ⟨r0, r1⟩
    refine sm_within (fun a b => ?_) (fun _ => (fin 0 (fun z => absurd z (by decide))).resolve_right (fun c => c.1 rfl))
    refine (fin 1 (fun _ => ?_)).resolve_right (fun c => c.2 rfl)
    obtain ⟨t, ht, et⟩ := nI_of a
    subst et
    rw [tn_nI ht]
    rw [e2'] at b
    by_cases h0 : nE X (tn x1) = 0
    · rw [h0] at b
      exact absurd (Int32.lt_of_lt_of_le (show nI 0 - 1 < 0 by decide) (nI_pos' ht)) b
    · rw [show (1 : Int32) = nI 1 from rfl, pk_sub (by omega), nI_ltI (by omega) ht] at b
      omega
theorem lvN_le (X : Nat → Nat) (s j : Nat) : lvN X s j ≤ alN X s j := by
  induction j with
  | zero => exact Nat.le_refl _
  | succ j ih =>
    show lvN X s j + itp _ _ _ ≤ alN X s j + sz X s (ps X s j)
    unfold itp
    split <;> omega
theorem sm_space (hR : RM μ X) (hB : XB N X) {x1 x2 : Int32} {Q : Int32 → Rg → Ar → Prop} (hQ : ∀ σ' μ', RM μ' X → σ' 0 = 0 → Q (spA X x1 x2) σ' μ') : wp_X6_space σ μ x1 x2 Q := by
  intro σ2 e2
  have K2 := K0 e2
  have b6 := hB.2.1
  have b1 := hB.2.2.2.1
  unfold spA at hQ
  refine sm_isSector hR hB (fun s1 => ⟨fun z => absurd z (by decide), fun _ => ?_⟩) (fun g => ⟨fun _ => ?_, fun z => absurd rfl z⟩)
  rotate_left
  · rw [itp_neg (fun c => g c.1)] at hQ; exact hQ σ2 μ hR K2
  refine sm_win (lo := 0) (hi := 3) (by omega) (by omega) rfl rfl (fun _ s3 => ⟨fun _ => ?_, fun z => absurd z (by decide)⟩) (fun g => ⟨fun z => absurd rfl z, fun _ => ?_⟩)
  rotate_left
  · rw [itp_neg (fun c => g ⟨Nat.zero_le _, c.2⟩)] at hQ; exact hQ σ2 μ hR K2
  rw [itp_pos ⟨s1, s3⟩] at hQ
  have hx1 := tn_e x1
  generalize hs : tn x1 = s at *
  subst hx1
  refine sm_reads hR hB (s := s) (by omega) (fun σ3 μ3 F3 G3' D3 => ?_)
  have R3 := F3.RM hR
  have k3 : σ3 0 = 0 := (G3' 0 (by omega) (by omega) (by omega)).trans K2
  have hq := hQ σ3 μ3 R3 k3
  have hE := nE_le (X := X) (s := s) b1
  refine pk_le 2 (tn x2) (fun z => ⟨nE X s + 1, ?_⟩) (fun z => ?_) rfl (tn_e x2)
  · have key : ∀ d j, j + d = nE X s → wl_X6_space_58 Q (d + 1) σ3 μ3 (nI s) x2 (nI (lvN X s j)) (nI (alN X s j)) (nI j) := by
      intro d
      induction d with
      | zero =>
        intro j hj
        have e : j = nE X s := by omega
        subst e
        refine pk_le (nE X s) (nE X s) (fun _ => ?_) (fun z => absurd z (by omega)) D3.1.1 rfl
        refine And.comm.mp (pk_eq (tn x2) 2 (fun z2 => ?_) (fun z2 => ?_) (tn_e x2) rfl)
        · rw [if_neg (by omega), if_neg (by omega), if_pos z2] at hq; exact hq
        · rw [if_neg (by omega), if_neg (by omega), if_neg z2] at hq
          rw [pk_sub (lvN_le _ _ _)]; exact hq
      | succ d ih =>
        intro j hj
        have hj' : j < nE X s := by omega
        obtain ⟨p2, p3, p4⟩ := D3.1.2 j hj'
        have p5 := D3.2.2.2.2 j hj'
        have hkd := (ent hB hj').2.1
        have vin : vp_in (nI j) 64 := pk_in j 64 (by omega) rfl
        refine pk_le (nE X s) j (fun z => absurd z (by omega)) (fun _ => ⟨vin, fun y ey => ⟨vin, ?_⟩⟩) D3.1.1 rfl
        have ej : (nI j).toNatClampNeg = j := nI_clamp (by omega)
        rw [ej, p4, nI_add] at ey
        have eal : y = nI (alN X s (j + 1)) := ey
        rw [ej, p3, p5]
        have st2le : st2 X s j < 2 ^ 31 := by
          unfold st2 itp
          split
          · omega
          · have := st1_le X s (nE X s) j; omega
        have no : ¬ (kd X s (ps X s j) ≠ 3 ∧ st2 X s j = 0 ∧ 0 < ln X s j) → wb_X6_space_120 Q (wl_X6_space_58 Q (d + 1)) σ3 μ3 (nI s) x2 (nI (lvN X s j)) y (nI j) := fun g y2 ey2 => by
          rw [ey2, i_p1, eal]
          have := ih (j + 1) (by omega)
          rw [show lvN X s (j + 1) = lvN X s j from by show lvN X s j + itp _ _ _ = _; rw [itp_neg g]; rfl] at this
          exact this
        refine pk_eq (kd X s (ps X s j)) 3 (fun z3 => no (fun c => c.1 z3)) (fun z3 => ⟨vin, ?_⟩) rfl rfl
        refine And.comm.mp (pk_eq (st2 X s j) 0 (fun z4 => ?_) (fun z4 => no (fun c => z4 c.2.1)) rfl rfl)
        refine sm_lengthOf (R3.rt (s := s) (by omega)) hB (by omega) D3.1 hj' ?_
        have hln : ln X s j ≤ 15 := by unfold ln; split <;> omega
        refine pk_le (ln X s j) 0 (fun z5 => no (fun c => absurd c.2.2 (by omega))) (fun z5 => ⟨vin, fun y3 ey3 y2 ey2 => ?_⟩) rfl rfl
        rw [p4, nI_add] at ey3
        rw [ey3, ey2, i_p1, eal]
        have := ih (j + 1) (by omega)
        rw [show lvN X s (j + 1) = lvN X s j + sz X s (ps X s j) from by show lvN X s j + itp _ _ _ = _; rw [itp_pos ⟨z3, z4, z5⟩]] at this
        exact this
    exact key (nE X s) 0 (by omega)
  · refine And.comm.mp (pk_eq (tn x2) 0 (fun z2 => ?_) (fun z2 => ?_) (tn_e x2) rfl)
    · rw [if_pos z2] at hq; rw [D3.2.1]; exact hq
    · rw [if_neg z2, if_pos (by omega)] at hq; rw [D3.2.2.1]; exact hq
end MT
