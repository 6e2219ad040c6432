/-! READING a sector, in closed form -/
def kdf (a b : Nat) : Nat := if a < 32 ∧ 16 ≤ b ∧ b ≤ 20 then 0 else if a < 32 ∧ 48 ≤ b ∧ b ≤ 52 then 2 else if 32 ≤ a ∧ a ≤ 47 ∧ b = 43 then 1 else if a = 63 ∧ b = 65 then 3 else 4
def kd (X : Nat → Nat) (s p : Nat) : Nat := if p + 1 < X 1 then kdf (bt X s p) (bt X s (p + 1)) else 4
def szf (k b : Nat) : Nat := if k = 1 then 14 else if k = 3 then 4 else 3 + b % 16
def sz (X : Nat → Nat) (s p : Nat) : Nat := szf (kd X s p) (bt X s (p + 1))
def ps (X : Nat → Nat) (s : Nat) : Nat → Nat
  | 0 => 4
  | k + 1 => ps X s k + sz X s (ps X s k)
def okE (X : Nat → Nat) (s k : Nat) : Prop := (ps X s k < X 1 ∧ ¬ blnk X s (ps X s k)) ∧ kd X s (ps X s k) ≠ 4 ∧ ps X s k + sz X s (ps X s k) ≤ X 1
def IsE (X : Nat → Nat) (s e : Nat) : Prop := (∀ k, k < e → okE X s k) ∧ ¬ okE X s e
noncomputable def nE (X : Nat → Nat) (s : Nat) : Nat := @Classical.epsilon Nat ⟨0⟩ (fun e => IsE X s e)
def stopE (X : Nat → Nat) (s e : Nat) : Prop := X 1 ≤ ps X s e ∨ blnk X s (ps X s e)
noncomputable def frE (X : Nat → Nat) (s : Nat) : Nat := itp (stopE X s (nE X s)) (ps X s (nE X s)) (X 1)
noncomputable def loE (X : Nat → Nat) (s : Nat) : Nat := itp (stopE X s (nE X s)) 0 (X 1 - ps X s (nE X s))
def sm (X : Nat → Nat) (s p : Nat) : Nat → Nat
  | 0 => 0
  | n + 1 => sm X s p n + bt X s (p + n)
def ckn (X : Nat → Nat) (s p : Nat) : Nat := if kd X s p = 1 then 5 else sz X s p - 1
def bad (X : Nat → Nat) (s p : Nat) : Prop := (sm X s p (ckn X s p) + 85) % 251 ≠ bt X s (p + ckn X s p)
noncomputable def st0 (X : Nat → Nat) (s p : Nat) : Nat := itp (bad X s p) 2 (if kd X s p < 2 then 1 else 3)
def due (X : Nat → Nat) (s k : Nat) : Nat := bt X s (ps X s k + 2)
def cn (X : Nat → Nat) (s k : Nat) : Prop := kd X s (ps X s k) = 3 ∧ ¬ bad X s (ps X s k) ∧ 1 ≤ due X s k ∧ due X s k ≤ 8 ∧ due X s k ≤ k ∧ ∀ i, k - due X s k ≤ i → i < k → kd X s (ps X s i) = 2 ∧ ¬ bad X s (ps X s i)
/-- marks of entry i, commits below j having been looked at -/
noncomputable def st1 (X : Nat → Nat) (s j i : Nat) : Nat := itp (bad X s (ps X s i)) 2 (if kd X s (ps X s i) < 2 then 1 else if kd X s (ps X s i) = 2 then itp (∃ k, k < j ∧ cn X s k ∧ k - due X s k ≤ i ∧ i < k) 1 3 else itp (i < j ∧ cn X s i) 0 3)
/-- 1 + the newest of a tag among entries below j; 0: none -/
noncomputable def nwN (X : Nat → Nat) (s : Nat) : Nat → Nat → Nat
  | 0, _ => 0
  | j + 1, t => itp (kd X s (ps X s j) ≠ 3 ∧ st1 X s (nE X s) j = 1 ∧ bt X s (ps X s j) = t) (j + 1) (nwN X s j t)
noncomputable def nwt (X : Nat → Nat) (s t : Nat) : Nat := nwN X s (nE X s) t
noncomputable def st2 (X : Nat → Nat) (s i : Nat) : Nat := itp (∃ t, t < 48 ∧ nwt X s t = i + 1) 0 (st1 X s (nE X s) i)
def kI (k : Nat) : Int32 := if k = 4 then -1 else nI k
def nwI (n : Nat) : Int32 := if n = 0 then -1 else nI (n - 1)
theorem kdf_le (a b : Nat) : kdf a b ≤ 4 := by unfold kdf; (repeat' split) <;> omega
theorem kd_le (X : Nat → Nat) (s p : Nat) : kd X s p ≤ 4 := by unfold kd; split; exact kdf_le _ _; omega
theorem szf_ge (k b : Nat) : 3 ≤ szf k b := by unfold szf; (repeat' split) <;> omega
theorem szf_le (k b : Nat) : szf k b ≤ 18 := by unfold szf; (repeat' split) <;> omega
theorem sz_ge (X : Nat → Nat) (s p : Nat) : 3 ≤ sz X s p := szf_ge _ _
theorem sz_le (X : Nat → Nat) (s p : Nat) : sz X s p ≤ 18 := szf_le _ _
theorem ps_ge (X : Nat → Nat) (s k : Nat) : 4 + 3 * k ≤ ps X s k := by
  induction k with
  | zero => exact Nat.le_refl _
  | succ k ih => have := sz_ge X s (ps X s k); unfold ps; omega
theorem ps_lt {X : Nat → Nat} {s i j : Nat} (h : i < j) : ps X s i + sz X s (ps X s i) ≤ ps X s j := by
  induction j with
  | zero => omega
  | succ j ih =>
    by_cases e : i = j
    · subst e; exact Nat.le_refl _
    · have := ih (by omega); have h2 : ps X s (j + 1) = ps X s j + sz X s (ps X s j) := rfl; omega
theorem ok_lt {X : Nat → Nat} {s k : Nat} (h : okE X s k) (hb : X 1 ≤ 128) : k ≤ 40 := by
  have h1 := ps_ge X s k
  have h2 := h.2.2
  have h3 := sz_ge X s (ps X s k)
  omega
theorem ex_E {X : Nat → Nat} {s : Nat} (hb : X 1 ≤ 128) : ∃ e, IsE X s e := by
  obtain ⟨e, h1, h2⟩ := pk_least (fun k => ¬ okE X s k) ⟨41, fun h => absurd (ok_lt h hb) (by omega)⟩
  exact ⟨e, fun k hk => Classical.byContradiction (fun g => h2 k hk g), h1⟩
theorem nE_spec {X : Nat → Nat} {s : Nat} (hb : X 1 ≤ 128) : IsE X s (nE X s) := Classical.epsilon_spec (ex_E hb)
theorem nE_le {X : Nat → Nat} {s : Nat} (hb : X 1 ≤ 128) : nE X s ≤ 41 := by
  by_cases h : nE X s = 0
  · omega
  · have := ok_lt ((nE_spec (s := s) hb).1 (nE X s - 1) (by omega)) hb
    omega
theorem IsE.uniq {X : Nat → Nat} {s e f : Nat} (h : IsE X s e) (h2 : IsE X s f) : e = f := by
  rcases Nat.lt_trichotomy e f with g | g | g
  · exact absurd (h2.1 e g) h.2
  · exact g
  · exact absurd (h.1 f g) h2.2
theorem kd_ok {X : Nat → Nat} {s p : Nat} (h : kd X s p ≠ 4) : p + 1 < X 1 ∧ kd X s p = kdf (bt X s p) (bt X s (p + 1)) := by
  unfold kd at *
  split at h
  · rename_i g; exact ⟨g, by rw [if_pos g]⟩
  · exact absurd rfl h
theorem kdf_tag {a b : Nat} (h : kdf a b ≠ 4) (h3 : kdf a b ≠ 3) : a < 48 := by
  unfold kdf at *
  repeat' split at h
  all_goals first | omega | (simp_all; omega) | simp_all
theorem szf_r {a b : Nat} (h : kdf a b ≠ 4) : szf (kdf a b) b ≤ 14 ∧ (kdf a b = 1 → szf (kdf a b) b = 14) ∧ (kdf a b = 3 → szf (kdf a b) b = 4) ∧ (kdf a b = 0 ∨ kdf a b = 2 → szf (kdf a b) b = 3 + b % 16 ∧ b % 16 ≤ 4) := by
  have h4 := kdf_le a b
  rcases (show kdf a b = 0 ∨ kdf a b = 1 ∨ kdf a b = 2 ∨ kdf a b = 3 by omega) with e | e | e | e
  · have hb : 16 ≤ b ∧ b ≤ 20 := by
      unfold kdf at e
      repeat' split at e
      all_goals first | omega | assumption | (rename_i g; exact g.2)
    rw [e]; unfold szf; simp; omega
  · rw [e]; unfold szf; simp
  · have hb : 48 ≤ b ∧ b ≤ 52 := by
      unfold kdf at e
      repeat' split at e
      all_goals first | omega | assumption | (rename_i g; exact g.2)
    rw [e]; unfold szf; simp; omega
  · rw [e]; unfold szf; simp
