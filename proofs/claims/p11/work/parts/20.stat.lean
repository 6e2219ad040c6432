abbrev rmJ7_fill_53178_2 : Room := { frames := 0, cells := 0, slots := 0, locals := 0 }
def wb_J7_fill_53178_2_5 (Q : Rg → Ar → Prop) (k5 : Rg → Ar → Int32 → Int32 → Int32 → Prop) (σ : Rg) (μ : Ar) (v1 : Int32) (v2 : Int32) (v3 : Int32) : Prop := ((v3 ≤ v2 → Q σ μ) ∧ (¬ v3 ≤ v2 → (vp_in v2 768) ∧ (∀ μ13 : Ar, μ13 = updA μ 0 (upd (μ 0) (v2).toNatClampNeg v1) → (∀ y14 : Int32, y14 = v2 + (1 : Int32) → (k5 σ μ13 v1 y14 v3)))))
set_option maxHeartbeats 4000000 in
set_option maxRecDepth 100000 in
theorem wk_J7_fill_53178_2_5 {p : Program} {l : Launch} {e : Env} {s : State} {m : MethodId} {args : Array Value} {below : List Frame} {meth : Method} {c : Code} {D : va_G} {cy : ClassId} {Ad : Nat → Nat} (C : Cx p s m args meth c RJ7 cJ7_fill_53178 4 (none : Option FieldType) D [(cy, .int)]) (hap : apt 18 Ad) {Q : Rg → Ar → Prop} {k5 : Rg → Ar → Int32 → Int32 → Int32 → Prop} (hk5 : ∀ {σ : Rg} {μ : Ar} {v1 : Int32} {v2 : Int32} {v3 : Int32} {H : Heap} {locs : List Loc} {ls : Array Slot}, k5 σ μ v1 v2 v3 → va_P D vwCl (wS Ad cy σ μ) H → va_S (AS 18 Ad) s.heap H locs → lv_has ls 4 [(0, .ref (Ad 2)), (1, .int v1), (2, .int v2), (3, .int v3)] → W p l e rmJ7_fill_53178_2 s m args below meth c H locs 0 0 (MQ below (Qcg (PWv (wS Ad cy) D Q) (AS 18 Ad)) args s 0 0 (AS 18 Ad)) (F0 m 5 ls [])) {σ : Rg} {μ : Ar} {v1 : Int32} {v2 : Int32} {v3 : Int32} {H : Heap} {locs : List Loc} {ls : Array Slot} (h : wb_J7_fill_53178_2_5 Q k5 σ μ v1 v2 v3) (hP : va_P D vwCl (wS Ad cy σ μ) H) (hS : va_S (AS 18 Ad) s.heap H locs) (hl : lv_has ls 4 [(0, .ref (Ad 2)), (1, .int v1), (2, .int v2), (3, .int v3)]) : W p l e rmJ7_fill_53178_2 s m args below meth c H locs 0 0 (MQ below (Qcg (PWv (wS Ad cy) D Q) (AS 18 Ad)) args s 0 0 (AS 18 Ad)) (F0 m 5 ls []) := by
  have hx := C.1
  have hb := C.2.1
  refine lv_iload_n hx hb dJ7_fill_53178_5 rfl (lv_at hl 2 rfl) ?_
  refine lv_iload_n hx hb dJ7_fill_53178_6 rfl (lv_at hl 3 rfl) ?_
  refine lv_icmp_ge (tgt := 20) hx hb dJ7_fill_53178_7 (by decide) (fun hc => ?_) (fun hc => ?_)
  · have h := h.1 hc
    exact endV C hS ⟨_, _, rfl, h, hP⟩ dJ7_fill_53178_20
  · have h := h.2 hc
    refine lv_aload_n hx hb dJ7_fill_53178_10 rfl (lv_at hl 0 rfl) ?_
    refine lv_iload_n hx hb dJ7_fill_53178_11 rfl (lv_at hl 2 rfl) ?_
    refine lv_iload_n hx hb dJ7_fill_53178_12 rfl (lv_at hl 1 rfl) ?_
    obtain ⟨hc, h⟩ := h
    refine sS_0 C hap (fun _ h => h) hP hS hc dJ7_fill_53178_13 (fun H locs hP hS => ?_)
    obtain ⟨μ13, e13⟩ : ∃ z : Ar, z = updA μ 0 (upd (μ 0) (v2).toNatClampNeg v1) := ⟨_, rfl⟩
    have hP : va_P D vwCl (wS Ad cy σ μ13) H := by rw [e13]; exact hP
    have h := h μ13 e13
    obtain ⟨y14, e14⟩ : ∃ y : Int32, y = v2 + (1 : Int32) := ⟨_, rfl⟩
    have h := h y14 e14
    refine lv_iinc (v := y14) (lv' := [(2, .int y14), (0, .ref (Ad 2)), (1, .int v1), (3, .int v3)]) hx hb dJ7_fill_53178_14 hl (k := 2) rfl (by rw [e14]; rfl) (by decide) rfl (fun ls hl => ?_)
    refine lv_goto (tgt := 5) hx hb dJ7_fill_53178_17 (by decide) ?_
    exact hk5 h hP hS (lv_sub hl [1, 2, 0, 3] rfl)
def wl_J7_fill_53178_2_5 (Q : Rg → Ar → Prop) (n : Nat) : Rg → Ar → Int32 → Int32 → Int32 → Prop := Nat.rec (motive := fun _ => Rg → Ar → Int32 → Int32 → Int32 → Prop) (fun _ _ _ _ _ => False) (fun _ k => wb_J7_fill_53178_2_5 Q k) n
set_option maxHeartbeats 4000000 in
theorem wkl_J7_fill_53178_2_5 {p : Program} {l : Launch} {e : Env} {s : State} {m : MethodId} {args : Array Value} {below : List Frame} {meth : Method} {c : Code} {D : va_G} {cy : ClassId} {Ad : Nat → Nat} (C : Cx p s m args meth c RJ7 cJ7_fill_53178 4 (none : Option FieldType) D [(cy, .int)]) (hap : apt 18 Ad) {Q : Rg → Ar → Prop}  : ∀ (n : Nat) {σ : Rg} {μ : Ar} {v1 : Int32} {v2 : Int32} {v3 : Int32} {H : Heap} {locs : List Loc} {ls : Array Slot} (h : wl_J7_fill_53178_2_5 Q  n σ μ v1 v2 v3) (hP : va_P D vwCl (wS Ad cy σ μ) H) (hS : va_S (AS 18 Ad) s.heap H locs) (hl : lv_has ls 4 [(0, .ref (Ad 2)), (1, .int v1), (2, .int v2), (3, .int v3)]), W p l e rmJ7_fill_53178_2 s m args below meth c H locs 0 0 (MQ below (Qcg (PWv (wS Ad cy) D Q) (AS 18 Ad)) args s 0 0 (AS 18 Ad)) (F0 m 5 ls []) := by
  intro n
  induction n with
  | zero => intro σ μ v1 v2 v3 H locs ls h; exact h.elim
  | succ n ih =>
    intro σ μ v1 v2 v3 H locs ls h hP hS hl
    exact wk_J7_fill_53178_2_5 C hap (fun h hP hS hl => ih h hP hS hl) h hP hS hl
def wp_J7_fill_53178_2 (σ : Rg) (μ : Ar) (x2 : Int32) (Q : Rg → Ar → Prop) : Prop := ∃ n, wl_J7_fill_53178_2_5 Q n σ μ x2 (0 : Int32) (768 : Int32)
set_option maxHeartbeats 4000000 in
set_option maxRecDepth 100000 in
theorem ct_J7_fill_53178_2 (l : Launch) (D : va_G) (cy : ClassId) (Ad : Nat → Nat) (hap : apt 18 Ad) {σ : Rg} {μ : Ar} {x2 : Int32} {Q : Rg → Ar → Prop} (h : wp_J7_fill_53178_2 σ μ x2 Q) : Ct l yJ7_fill_53178 cJ7_fill_53178 4 (none : Option FieldType) rmJ7_fill_53178_2 D [(cy, .int)] (fun H => va_P D vwCl (wS Ad cy σ μ) H) [.ref (Ad 2), .int x2] (AS 18 Ad) (PWv (wS Ad cy) D Q) := by
  refine Ct.of (by decide) (Nat.le_of_ble_eq_true rfl) ?_
  intro p e s m below meth c ls C hP hl
  have hl : lv_has ls 4 [(0, .ref (Ad 2)), (1, .int x2)] := hl
  have hS : va_S (AS 18 Ad) s.heap s.heap [] := va_S.rf
  have hx := C.1
  have hb := C.2.1
  refine lv_iconst (v := 0) hx hb dJ7_fill_53178_0 (by decide) ?_
  refine lv_istore_n (lv' := [(2, .int (0 : Int32)), (0, .ref (Ad 2)), (1, .int x2)]) hx hb dJ7_fill_53178_1 rfl hl (by decide) rfl (fun ls hl => ?_)
  refine lv_aload_n hx hb dJ7_fill_53178_2 rfl (lv_at hl 1 rfl) ?_
  refine nS_0 C hP dJ7_fill_53178_3 ?_
  refine lv_istore_n (lv' := [(3, .int (768 : Int32)), (2, .int (0 : Int32)), (0, .ref (Ad 2)), (1, .int x2)]) hx hb dJ7_fill_53178_4 rfl hl (by decide) rfl (fun ls hl => ?_)
  obtain ⟨n, h⟩ := h
  exact wkl_J7_fill_53178_2_5 C hap n h hP hS (lv_sub hl [2, 3, 1, 0] rfl)
abbrev rmJ7_fill_53178_3 : Room := { frames := 0, cells := 0, slots := 0, locals := 0 }
def wb_J7_fill_53178_3_5 (Q : Rg → Ar → Prop) (k5 : Rg → Ar → Int32 → Int32 → Int32 → Prop) (σ : Rg) (μ : Ar) (v1 : Int32) (v2 : Int32) (v3 : Int32) : Prop := ((v3 ≤ v2 → Q σ μ) ∧ (¬ v3 ≤ v2 → (vp_in v2 6) ∧ (∀ μ13 : Ar, μ13 = updA μ 1 (upd (μ 1) (v2).toNatClampNeg v1) → (∀ y14 : Int32, y14 = v2 + (1 : Int32) → (k5 σ μ13 v1 y14 v3)))))
set_option maxHeartbeats 4000000 in
set_option maxRecDepth 100000 in
theorem wk_J7_fill_53178_3_5 {p : Program} {l : Launch} {e : Env} {s : State} {m : MethodId} {args : Array Value} {below : List Frame} {meth : Method} {c : Code} {D : va_G} {cy : ClassId} {Ad : Nat → Nat} (C : Cx p s m args meth c RJ7 cJ7_fill_53178 4 (none : Option FieldType) D [(cy, .int)]) (hap : apt 18 Ad) {Q : Rg → Ar → Prop} {k5 : Rg → Ar → Int32 → Int32 → Int32 → Prop} (hk5 : ∀ {σ : Rg} {μ : Ar} {v1 : Int32} {v2 : Int32} {v3 : Int32} {H : Heap} {locs : List Loc} {ls : Array Slot}, k5 σ μ v1 v2 v3 → va_P D vwCl (wS Ad cy σ μ) H → va_S (AS 18 Ad) s.heap H locs → lv_has ls 4 [(0, .ref (Ad 3)), (1, .int v1), (2, .int v2), (3, .int v3)] → W p l e rmJ7_fill_53178_3 s m args below meth c H locs 0 0 (MQ below (Qcg (PWv (wS Ad cy) D Q) (AS 18 Ad)) args s 0 0 (AS 18 Ad)) (F0 m 5 ls [])) {σ : Rg} {μ : Ar} {v1 : Int32} {v2 : Int32} {v3 : Int32} {H : Heap} {locs : List Loc} {ls : Array Slot} (h : wb_J7_fill_53178_3_5 Q k5 σ μ v1 v2 v3) (hP : va_P D vwCl (wS Ad cy σ μ) H) (hS : va_S (AS 18 Ad) s.heap H locs) (hl : lv_has ls 4 [(0, .ref (Ad 3)), (1, .int v1), (2, .int v2), (3, .int v3)]) : W p l e rmJ7_fill_53178_3 s m args below meth c H locs 0 0 (MQ below (Qcg (PWv (wS Ad cy) D Q) (AS 18 Ad)) args s 0 0 (AS 18 Ad)) (F0 m 5 ls []) := by
  have hx := C.1
  have hb := C.2.1
  refine lv_iload_n hx hb dJ7_fill_53178_5 rfl (lv_at hl 2 rfl) ?_
  refine lv_iload_n hx hb dJ7_fill_53178_6 rfl (lv_at hl 3 rfl) ?_
  refine lv_icmp_ge (tgt := 20) hx hb dJ7_fill_53178_7 (by decide) (fun hc => ?_) (fun hc => ?_)
  · have h := h.1 hc
    exact endV C hS ⟨_, _, rfl, h, hP⟩ dJ7_fill_53178_20
  · have h := h.2 hc
    refine lv_aload_n hx hb dJ7_fill_53178_10 rfl (lv_at hl 0 rfl) ?_
    refine lv_iload_n hx hb dJ7_fill_53178_11 rfl (lv_at hl 2 rfl) ?_
    refine lv_iload_n hx hb dJ7_fill_53178_12 rfl (lv_at hl 1 rfl) ?_
    obtain ⟨hc, h⟩ := h
    refine sS_1 C hap (fun _ h => h) hP hS hc dJ7_fill_53178_13 (fun H locs hP hS => ?_)
    obtain ⟨μ13, e13⟩ : ∃ z : Ar, z = updA μ 1 (upd (μ 1) (v2).toNatClampNeg v1) := ⟨_, rfl⟩
    have hP : va_P D vwCl (wS Ad cy σ μ13) H := by rw [e13]; exact hP
    have h := h μ13 e13
    obtain ⟨y14, e14⟩ : ∃ y : Int32, y = v2 + (1 : Int32) := ⟨_, rfl⟩
    have h := h y14 e14
    refine lv_iinc (v := y14) (lv' := [(2, .int y14), (0, .ref (Ad 3)), (1, .int v1), (3, .int v3)]) hx hb dJ7_fill_53178_14 hl (k := 2) rfl (by rw [e14]; rfl) (by decide) rfl (fun ls hl => ?_)
    refine lv_goto (tgt := 5) hx hb dJ7_fill_53178_17 (by decide) ?_
    exact hk5 h hP hS (lv_sub hl [1, 2, 0, 3] rfl)
def wl_J7_fill_53178_3_5 (Q : Rg → Ar → Prop) (n : Nat) : Rg → Ar → Int32 → Int32 → Int32 → Prop := Nat.rec (motive := fun _ => Rg → Ar → Int32 → Int32 → Int32 → Prop) (fun _ _ _ _ _ => False) (fun _ k => wb_J7_fill_53178_3_5 Q k) n
set_option maxHeartbeats 4000000 in
theorem wkl_J7_fill_53178_3_5 {p : Program} {l : Launch} {e : Env} {s : State} {m : MethodId} {args : Array Value} {below : List Frame} {meth : Method} {c : Code} {D : va_G} {cy : ClassId} {Ad : Nat → Nat} (C : Cx p s m args meth c RJ7 cJ7_fill_53178 4 (none : Option FieldType) D [(cy, .int)]) (hap : apt 18 Ad) {Q : Rg → Ar → Prop}  : ∀ (n : Nat) {σ : Rg} {μ : Ar} {v1 : Int32} {v2 : Int32} {v3 : Int32} {H : Heap} {locs : List Loc} {ls : Array Slot} (h : wl_J7_fill_53178_3_5 Q  n σ μ v1 v2 v3) (hP : va_P D vwCl (wS Ad cy σ μ) H) (hS : va_S (AS 18 Ad) s.heap H locs) (hl : lv_has ls 4 [(0, .ref (Ad 3)), (1, .int v1), (2, .int v2), (3, .int v3)]), W p l e rmJ7_fill_53178_3 s m args below meth c H locs 0 0 (MQ below (Qcg (PWv (wS Ad cy) D Q) (AS 18 Ad)) args s 0 0 (AS 18 Ad)) (F0 m 5 ls []) := by
  intro n
  induction n with
  | zero => intro σ μ v1 v2 v3 H locs ls h; exact h.elim
  | succ n ih =>
    intro σ μ v1 v2 v3 H locs ls h hP hS hl
    exact wk_J7_fill_53178_3_5 C hap (fun h hP hS hl => ih h hP hS hl) h hP hS hl
def wp_J7_fill_53178_3 (σ : Rg) (μ : Ar) (x2 : Int32) (Q : Rg → Ar → Prop) : Prop := ∃ n, wl_J7_fill_53178_3_5 Q n σ μ x2 (0 : Int32) (6 : Int32)
set_option maxHeartbeats 4000000 in
set_option maxRecDepth 100000 in
theorem ct_J7_fill_53178_3 (l : Launch) (D : va_G) (cy : ClassId) (Ad : Nat → Nat) (hap : apt 18 Ad) {σ : Rg} {μ : Ar} {x2 : Int32} {Q : Rg → Ar → Prop} (h : wp_J7_fill_53178_3 σ μ x2 Q) : Ct l yJ7_fill_53178 cJ7_fill_53178 4 (none : Option FieldType) rmJ7_fill_53178_3 D [(cy, .int)] (fun H => va_P D vwCl (wS Ad cy σ μ) H) [.ref (Ad 3), .int x2] (AS 18 Ad) (PWv (wS Ad cy) D Q) := by
  refine Ct.of (by decide) (Nat.le_of_ble_eq_true rfl) ?_
  intro p e s m below meth c ls C hP hl
  have hl : lv_has ls 4 [(0, .ref (Ad 3)), (1, .int x2)] := hl
  have hS : va_S (AS 18 Ad) s.heap s.heap [] := va_S.rf
  have hx := C.1
  have hb := C.2.1
  refine lv_iconst (v := 0) hx hb dJ7_fill_53178_0 (by decide) ?_
  refine lv_istore_n (lv' := [(2, .int (0 : Int32)), (0, .ref (Ad 3)), (1, .int x2)]) hx hb dJ7_fill_53178_1 rfl hl (by decide) rfl (fun ls hl => ?_)
  refine lv_aload_n hx hb dJ7_fill_53178_2 rfl (lv_at hl 1 rfl) ?_
  refine nS_1 C hP dJ7_fill_53178_3 ?_
  refine lv_istore_n (lv' := [(3, .int (6 : Int32)), (2, .int (0 : Int32)), (0, .ref (Ad 3)), (1, .int x2)]) hx hb dJ7_fill_53178_4 rfl hl (by decide) rfl (fun ls hl => ?_)
  obtain ⟨n, h⟩ := h
  exact wkl_J7_fill_53178_3_5 C hap n h hP hS (lv_sub hl [2, 3, 1, 0] rfl)
abbrev rmJ7_fill_53178_11 : Room := { frames := 0, cells := 0, slots := 0, locals := 0 }
def wb_J7_fill_53178_11_5 (Q : Rg → Ar → Prop) (k5 : Rg → Ar → Int32 → Int32 → Int32 → Prop) (σ : Rg) (μ : Ar) (v1 : Int32) (v2 : Int32) (v3 : Int32) : Prop := ((v3 ≤ v2 → Q σ μ) ∧ (¬ v3 ≤ v2 → (vp_in v2 48) ∧ (∀ μ13 : Ar, μ13 = updA μ 8 (upd (μ 8) (v2).toNatClampNeg v1) → (∀ y14 : Int32, y14 = v2 + (1 : Int32) → (k5 σ μ13 v1 y14 v3)))))
set_option maxHeartbeats 4000000 in
set_option maxRecDepth 100000 in
theorem wk_J7_fill_53178_11_5 {p : Program} {l : Launch} {e : Env} {s : State} {m : MethodId} {args : Array Value} {below : List Frame} {meth : Method} {c : Code} {D : va_G} {cy : ClassId} {Ad : Nat → Nat} (C : Cx p s m args meth c RJ7 cJ7_fill_53178 4 (none : Option FieldType) D [(cy, .int)]) (hap : apt 18 Ad) {Q : Rg → Ar → Prop} {k5 : Rg → Ar → Int32 → Int32 → Int32 → Prop} (hk5 : ∀ {σ : Rg} {μ : Ar} {v1 : Int32} {v2 : Int32} {v3 : Int32} {H : Heap} {locs : List Loc} {ls : Array Slot}, k5 σ μ v1 v2 v3 → va_P D vwCl (wS Ad cy σ μ) H → va_S (AS 18 Ad) s.heap H locs → lv_has ls 4 [(0, .ref (Ad 11)), (1, .int v1), (2, .int v2), (3, .int v3)] → W p l e rmJ7_fill_53178_11 s m args below meth c H locs 0 0 (MQ below (Qcg (PWv (wS Ad cy) D Q) (AS 18 Ad)) args s 0 0 (AS 18 Ad)) (F0 m 5 ls [])) {σ : Rg} {μ : Ar} {v1 : Int32} {v2 : Int32} {v3 : Int32} {H : Heap} {locs : List Loc} {ls : Array Slot} (h : wb_J7_fill_53178_11_5 Q k5 σ μ v1 v2 v3) (hP : va_P D vwCl (wS Ad cy σ μ) H) (hS : va_S (AS 18 Ad) s.heap H locs) (hl : lv_has ls 4 [(0, .ref (Ad 11)), (1, .int v1), (2, .int v2), (3, .int v3)]) : W p l e rmJ7_fill_53178_11 s m args below meth c H locs 0 0 (MQ below (Qcg (PWv (wS Ad cy) D Q) (AS 18 Ad)) args s 0 0 (AS 18 Ad)) (F0 m 5 ls []) := by
  have hx := C.1
  have hb := C.2.1
  refine lv_iload_n hx hb dJ7_fill_53178_5 rfl (lv_at hl 2 rfl) ?_
  refine lv_iload_n hx hb dJ7_fill_53178_6 rfl (lv_at hl 3 rfl) ?_
  refine lv_icmp_ge (tgt := 20) hx hb dJ7_fill_53178_7 (by decide) (fun hc => ?_) (fun hc => ?_)
  · have h := h.1 hc
    exact endV C hS ⟨_, _, rfl, h, hP⟩ dJ7_fill_53178_20
  · have h := h.2 hc
    refine lv_aload_n hx hb dJ7_fill_53178_10 rfl (lv_at hl 0 rfl) ?_
    refine lv_iload_n hx hb dJ7_fill_53178_11 rfl (lv_at hl 2 rfl) ?_
    refine lv_iload_n hx hb dJ7_fill_53178_12 rfl (lv_at hl 1 rfl) ?_
    obtain ⟨hc, h⟩ := h
    refine sS_8 C hap (fun _ h => h) hP hS hc dJ7_fill_53178_13 (fun H locs hP hS => ?_)
    obtain ⟨μ13, e13⟩ : ∃ z : Ar, z = updA μ 8 (upd (μ 8) (v2).toNatClampNeg v1) := ⟨_, rfl⟩
    have hP : va_P D vwCl (wS Ad cy σ μ13) H := by rw [e13]; exact hP
    have h := h μ13 e13
    obtain ⟨y14, e14⟩ : ∃ y : Int32, y = v2 + (1 : Int32) := ⟨_, rfl⟩
    have h := h y14 e14
    refine lv_iinc (v := y14) (lv' := [(2, .int y14), (0, .ref (Ad 11)), (1, .int v1), (3, .int v3)]) hx hb dJ7_fill_53178_14 hl (k := 2) rfl (by rw [e14]; rfl) (by decide) rfl (fun ls hl => ?_)
    refine lv_goto (tgt := 5) hx hb dJ7_fill_53178_17 (by decide) ?_
    exact hk5 h hP hS (lv_sub hl [1, 2, 0, 3] rfl)
def wl_J7_fill_53178_11_5 (Q : Rg → Ar → Prop) (n : Nat) : Rg → Ar → Int32 → Int32 → Int32 → Prop := Nat.rec (motive := fun _ => Rg → Ar → Int32 → Int32 → Int32 → Prop) (fun _ _ _ _ _ => False) (fun _ k => wb_J7_fill_53178_11_5 Q k) n
set_option maxHeartbeats 4000000 in
theorem wkl_J7_fill_53178_11_5 {p : Program} {l : Launch} {e : Env} {s : State} {m : MethodId} {args : Array Value} {below : List Frame} {meth : Method} {c : Code} {D : va_G} {cy : ClassId} {Ad : Nat → Nat} (C : Cx p s m args meth c RJ7 cJ7_fill_53178 4 (none : Option FieldType) D [(cy, .int)]) (hap : apt 18 Ad) {Q : Rg → Ar → Prop}  : ∀ (n : Nat) {σ : Rg} {μ : Ar} {v1 : Int32} {v2 : Int32} {v3 : Int32} {H : Heap} {locs : List Loc} {ls : Array Slot} (h : wl_J7_fill_53178_11_5 Q  n σ μ v1 v2 v3) (hP : va_P D vwCl (wS Ad cy σ μ) H) (hS : va_S (AS 18 Ad) s.heap H locs) (hl : lv_has ls 4 [(0, .ref (Ad 11)), (1, .int v1), (2, .int v2), (3, .int v3)]), W p l e rmJ7_fill_53178_11 s m args below meth c H locs 0 0 (MQ below (Qcg (PWv (wS Ad cy) D Q) (AS 18 Ad)) args s 0 0 (AS 18 Ad)) (F0 m 5 ls []) := by
  intro n
  induction n with
  | zero => intro σ μ v1 v2 v3 H locs ls h; exact h.elim
  | succ n ih =>
    intro σ μ v1 v2 v3 H locs ls h hP hS hl
    exact wk_J7_fill_53178_11_5 C hap (fun h hP hS hl => ih h hP hS hl) h hP hS hl
def wp_J7_fill_53178_11 (σ : Rg) (μ : Ar) (x2 : Int32) (Q : Rg → Ar → Prop) : Prop := ∃ n, wl_J7_fill_53178_11_5 Q n σ μ x2 (0 : Int32) (48 : Int32)
set_option maxHeartbeats 4000000 in
set_option maxRecDepth 100000 in
theorem ct_J7_fill_53178_11 (l : Launch) (D : va_G) (cy : ClassId) (Ad : Nat → Nat) (hap : apt 18 Ad) {σ : Rg} {μ : Ar} {x2 : Int32} {Q : Rg → Ar → Prop} (h : wp_J7_fill_53178_11 σ μ x2 Q) : Ct l yJ7_fill_53178 cJ7_fill_53178 4 (none : Option FieldType) rmJ7_fill_53178_11 D [(cy, .int)] (fun H => va_P D vwCl (wS Ad cy σ μ) H) [.ref (Ad 11), .int x2] (AS 18 Ad) (PWv (wS Ad cy) D Q) := by
  refine Ct.of (by decide) (Nat.le_of_ble_eq_true rfl) ?_
  intro p e s m below meth c ls C hP hl
  have hl : lv_has ls 4 [(0, .ref (Ad 11)), (1, .int x2)] := hl
  have hS : va_S (AS 18 Ad) s.heap s.heap [] := va_S.rf
  have hx := C.1
  have hb := C.2.1
  refine lv_iconst (v := 0) hx hb dJ7_fill_53178_0 (by decide) ?_
  refine lv_istore_n (lv' := [(2, .int (0 : Int32)), (0, .ref (Ad 11)), (1, .int x2)]) hx hb dJ7_fill_53178_1 rfl hl (by decide) rfl (fun ls hl => ?_)
  refine lv_aload_n hx hb dJ7_fill_53178_2 rfl (lv_at hl 1 rfl) ?_
  refine nS_8 C hP dJ7_fill_53178_3 ?_
  refine lv_istore_n (lv' := [(3, .int (48 : Int32)), (2, .int (0 : Int32)), (0, .ref (Ad 11)), (1, .int x2)]) hx hb dJ7_fill_53178_4 rfl hl (by decide) rfl (fun ls hl => ?_)
  obtain ⟨n, h⟩ := h
  exact wkl_J7_fill_53178_11_5 C hap n h hP hS (lv_sub hl [2, 3, 1, 0] rfl)
abbrev rmX5_checkOf : Room := { frames := 0, cells := 0, slots := 0, locals := 0 }
def wp_X5_checkOf (x1 : Int32) (Q : Int32 → Prop) : Prop := Q ((x1 + (85 : Int32)) - (x1 + (85 : Int32)) / (251 : Int32) * (251 : Int32))
set_option maxHeartbeats 4000000 in
set_option maxRecDepth 100000 in
theorem ct_X5_checkOf (l : Launch) (D : va_G)    {x1 : Int32} {Q : Int32 → Prop} (h : wp_X5_checkOf  x1 Q) : Ct l yX5_checkOf cX5_checkOf 1 (some FieldType.int) rmX5_checkOf D [] (fun _ => True) [.int x1] (fun _ => False) (PNi Q) := by
  refine Ct.of (by decide) (Nat.le_of_ble_eq_true rfl) ?_
  intro p e s m below meth c ls C hP hl
  have hl : lv_has ls 1 [(0, .int x1)] := hl
  have hS : va_S (fun _ => False) s.heap s.heap [] := va_S.rf
  have hx := C.1
  have hb := C.2.1
  refine lv_iload_n hx hb dX5_checkOf_0 rfl (lv_at hl 0 rfl) ?_
  refine lv_bipush (v := 85) hx hb dX5_checkOf_1 (by decide) ?_
  refine lv_iadd hx hb dX5_checkOf_3 ?_
  refine lv_sipush (v := 251) hx hb dX5_checkOf_4 (by decide) ?_
  refine lv_irem hx hb dX5_checkOf_7 (by decide) ?_
  exact endI C hS ⟨_, rfl, h⟩ dX5_checkOf_8
abbrev rmX5_within : Room := { frames := 0, cells := 0, slots := 0, locals := 0 }
def wb_X5_within_15 (Q : Int32 → Prop) (t0 : Int32) : Prop := (bz t0) ∧ (Q t0)
set_option maxHeartbeats 4000000 in
set_option maxRecDepth 100000 in
theorem wk_X5_within_15 {p : Program} {l : Launch} {e : Env} {s : State} {m : MethodId} {args : Array Value} {below : List Frame} {meth : Method} {c : Code} {D : va_G} (C : Cx p s m args meth c RX5 cX5_within 3 (some FieldType.boolean) D []) {Q : Int32 → Prop} {t0 : Int32} {H : Heap} {locs : List Loc} {ls : Array Slot} (h : wb_X5_within_15 Q t0)  (hS : va_S (fun _ => False) s.heap H locs) (hl : lv_has ls 3 []) : W p l e rmX5_within s m args below meth c H locs 0 0 (MQ below (Qcg (PNi Q) (fun _ => False)) args s 0 0 (fun _ => False)) (F0 m 15 ls [.int t0]) := by
  have hx := C.1
  have hb := C.2.1
  obtain ⟨hc, h⟩ := h
  exact endZ C hS hc ⟨_, rfl, h⟩ dX5_within_15
def wb_X5_within_14 (Q : Int32 → Prop) : Prop := wb_X5_within_15 Q (0 : Int32)
set_option maxHeartbeats 4000000 in
set_option maxRecDepth 100000 in
theorem wk_X5_within_14 {p : Program} {l : Launch} {e : Env} {s : State} {m : MethodId} {args : Array Value} {below : List Frame} {meth : Method} {c : Code} {D : va_G} (C : Cx p s m args meth c RX5 cX5_within 3 (some FieldType.boolean) D []) {Q : Int32 → Prop}  {H : Heap} {locs : List Loc} {ls : Array Slot} (h : wb_X5_within_14 Q)  (hS : va_S (fun _ => False) s.heap H locs) (hl : lv_has ls 3 []) : W p l e rmX5_within s m args below meth c H locs 0 0 (MQ below (Qcg (PNi Q) (fun _ => False)) args s 0 0 (fun _ => False)) (F0 m 14 ls []) := by
  have hx := C.1
  have hb := C.2.1
  refine lv_iconst (v := 0) hx hb dX5_within_14 (by decide) ?_
  exact wk_X5_within_15 C h hS (lv_sub hl [] rfl)
def wp_X5_within (x1 : Int32) (x2 : Int32) (x3 : Int32) (Q : Int32 → Prop) : Prop := ((x1 < x2 → wb_X5_within_14 Q ) ∧ (¬ x1 < x2 → ((x3 < x1 → wb_X5_within_14 Q ) ∧ (¬ x3 < x1 → wb_X5_within_15 Q (1 : Int32)))))
set_option maxHeartbeats 4000000 in
set_option maxRecDepth 100000 in
theorem ct_X5_within (l : Launch) (D : va_G)    {x1 : Int32} {x2 : Int32} {x3 : Int32} {Q : Int32 → Prop} (h : wp_X5_within  x1 x2 x3 Q) : Ct l yX5_within cX5_within 3 (some FieldType.boolean) rmX5_within D [] (fun _ => True) [.int x1, .int x2, .int x3] (fun _ => False) (PNi Q) := by
  refine Ct.of (by decide) (Nat.le_of_ble_eq_true rfl) ?_
  intro p e s m below meth c ls C hP hl
  have hl : lv_has ls 3 [(0, .int x1), (1, .int x2), (2, .int x3)] := hl
  have hS : va_S (fun _ => False) s.heap s.heap [] := va_S.rf
  have hx := C.1
  have hb := C.2.1
  refine lv_iload_n hx hb dX5_within_0 rfl (lv_at hl 0 rfl) ?_
  refine lv_iload_n hx hb dX5_within_1 rfl (lv_at hl 1 rfl) ?_
  refine lv_icmp_lt (tgt := 14) hx hb dX5_within_2 (by decide) (fun hc => ?_) (fun hc => ?_)
  · have h := h.1 hc
    exact wk_X5_within_14 C h hS (lv_sub hl [] rfl)
  · have h := h.2 hc
    refine lv_iload_n hx hb dX5_within_5 rfl (lv_at hl 0 rfl) ?_
    refine lv_iload_n hx hb dX5_within_6 rfl (lv_at hl 2 rfl) ?_
    refine lv_icmp_gt (tgt := 14) hx hb dX5_within_7 (by decide) (fun hc => ?_) (fun hc => ?_)
    · have h := h.1 hc
      exact wk_X5_within_14 C h hS (lv_sub hl [] rfl)
    · have h := h.2 hc
      refine lv_iconst (v := 1) hx hb dX5_within_10 (by decide) ?_
      refine lv_goto (tgt := 15) hx hb dX5_within_11 (by decide) ?_
      exact wk_X5_within_15 C h hS (lv_sub hl [] rfl)
abbrev rmX3_kindOf : Room := { frames := 1, cells := 0, slots := 0, locals := 22 }
def wb_X3_kindOf_74 (Q : Int32 → Prop) (t0 : Int32) : Prop := Q t0
set_option maxHeartbeats 4000000 in
set_option maxRecDepth 100000 in
theorem wk_X3_kindOf_74 {p : Program} {l : Launch} {e : Env} {s : State} {m : MethodId} {args : Array Value} {below : List Frame} {meth : Method} {c : Code} {D : va_G} (C : Cx p s m args meth c RX3 cX3_kindOf 2 (some FieldType.int) D []) {Q : Int32 → Prop} {t0 : Int32} {H : Heap} {locs : List Loc} {ls : Array Slot} (h : wb_X3_kindOf_74 Q t0)  (hS : va_S (fun _ => False) s.heap H locs) (hl : lv_has ls 2 []) : W p l e rmX3_kindOf s m args below meth c H locs 0 0 (MQ below (Qcg (PNi Q) (fun _ => False)) args s 0 0 (fun _ => False)) (F0 m 74 ls [.int t0]) := by
  have hx := C.1
  have hb := C.2.1
  exact endI C hS ⟨_, rfl, h⟩ dX3_kindOf_74
def wb_X3_kindOf_33 (Q : Int32 → Prop) (v0 : Int32) (v1 : Int32) : Prop := wp_X5_within v0 (0 : Int32) (31 : Int32) (fun r37 => ((¬ r37 = 0 → wp_X5_within v1 (16 : Int32) (20 : Int32) (fun r50 => ((r50 = 0 → wp_X5_within v1 (48 : Int32) (52 : Int32) (fun r63 => ((r63 = 0 → wb_X3_kindOf_74 Q (-1 : Int32)) ∧ (¬ r63 = 0 → wb_X3_kindOf_74 Q (2 : Int32))))) ∧ (¬ r50 = 0 → Q (0 : Int32))))) ∧ (r37 = 0 → Q (-1 : Int32))))
set_option maxHeartbeats 4000000 in
set_option maxRecDepth 100000 in
theorem wk_X3_kindOf_33 {p : Program} {l : Launch} {e : Env} {s : State} {m : MethodId} {args : Array Value} {below : List Frame} {meth : Method} {c : Code} {D : va_G} (C : Cx p s m args meth c RX3 cX3_kindOf 2 (some FieldType.int) D []) {Q : Int32 → Prop} {v0 : Int32} {v1 : Int32} {H : Heap} {locs : List Loc} {ls : Array Slot} (h : wb_X3_kindOf_33 Q v0 v1)  (hS : va_S (fun _ => False) s.heap H locs) (hl : lv_has ls 2 [(0, .int v0), (1, .int v1)]) : W p l e rmX3_kindOf s m args below meth c H locs 0 0 (MQ below (Qcg (PNi Q) (fun _ => False)) args s 0 0 (fun _ => False)) (F0 m 33 ls []) := by
  have hx := C.1
  have hb := C.2.1
  refine lv_iload_n hx hb dX3_kindOf_33 rfl (lv_at hl 0 rfl) ?_
  refine lv_iconst (v := 0) hx hb dX3_kindOf_34 (by decide) ?_
  refine lv_bipush (v := 31) hx hb dX3_kindOf_35 (by decide) ?_
  refine kNi (rnSN C (ct_X5_within l D h) ys_X5_within wn_462 ⟨rfl, rfl⟩ ⟨Nat.le_of_ble_eq_true rfl, Nat.le_of_ble_eq_true rfl⟩ ⟨Nat.zero_le _, Nat.zero_le _⟩ trivial hl.1 rfl rfl (Nat.le_of_ble_eq_true rfl) dX3_kindOf_37) hS (fun _ h => h.elim) (fun r37 H locs h hk hS => ?_)
  refine lv_if_ne (tgt := 45) hx hb dX3_kindOf_40 (by decide) (fun hc => ?_) (fun hc => ?_)
  · have h := h.1 hc
    refine lv_iload_n hx hb dX3_kindOf_45 rfl (lv_at hl 1 rfl) ?_
    refine lv_bipush (v := 16) hx hb dX3_kindOf_46 (by decide) ?_
    refine lv_bipush (v := 20) hx hb dX3_kindOf_48 (by decide) ?_
    refine kNi (rnSN C (ct_X5_within l D h) ys_X5_within wn_462 ⟨rfl, rfl⟩ ⟨Nat.le_of_ble_eq_true rfl, Nat.le_of_ble_eq_true rfl⟩ ⟨Nat.zero_le _, Nat.zero_le _⟩ trivial hl.1 rfl rfl (Nat.le_of_ble_eq_true rfl) dX3_kindOf_50) hS (fun _ h => h.elim) (fun r50 H locs h hk hS => ?_)
    refine lv_if_eq (tgt := 58) hx hb dX3_kindOf_53 (by decide) (fun hc => ?_) (fun hc => ?_)
    · have h := h.1 hc
      refine lv_iload_n hx hb dX3_kindOf_58 rfl (lv_at hl 1 rfl) ?_
      refine lv_bipush (v := 48) hx hb dX3_kindOf_59 (by decide) ?_
      refine lv_bipush (v := 52) hx hb dX3_kindOf_61 (by decide) ?_
      refine kNi (rnSN C (ct_X5_within l D h) ys_X5_within wn_462 ⟨rfl, rfl⟩ ⟨Nat.le_of_ble_eq_true rfl, Nat.le_of_ble_eq_true rfl⟩ ⟨Nat.zero_le _, Nat.zero_le _⟩ trivial hl.1 rfl rfl (Nat.le_of_ble_eq_true rfl) dX3_kindOf_63) hS (fun _ h => h.elim) (fun r63 H locs h hk hS => ?_)
      refine lv_if_eq (tgt := 73) hx hb dX3_kindOf_66 (by decide) (fun hc => ?_) (fun hc => ?_)
      · have h := h.1 hc
        refine lv_iconst (v := -1) hx hb dX3_kindOf_73 (by decide) ?_
        exact wk_X3_kindOf_74 C h hS (lv_sub hl [] rfl)
      · have h := h.2 hc
        refine lv_iconst (v := 2) hx hb dX3_kindOf_69 (by decide) ?_
        refine lv_goto (tgt := 74) hx hb dX3_kindOf_70 (by decide) ?_
        exact wk_X3_kindOf_74 C h hS (lv_sub hl [] rfl)
    · have h := h.2 hc
      refine lv_iconst (v := 0) hx hb dX3_kindOf_56 (by decide) ?_
      exact endI C hS ⟨_, rfl, h⟩ dX3_kindOf_57
  · have h := h.2 hc
    refine lv_iconst (v := -1) hx hb dX3_kindOf_43 (by decide) ?_
    exact endI C hS ⟨_, rfl, h⟩ dX3_kindOf_44
def wb_X3_kindOf_14 (Q : Int32 → Prop) (v0 : Int32) (v1 : Int32) : Prop := wp_X5_within v0 (32 : Int32) (47 : Int32) (fun r19 => ((r19 = 0 → wb_X3_kindOf_33 Q v0 v1) ∧ (¬ r19 = 0 → ((¬ v1 = (43 : Int32) → wb_X3_kindOf_33 Q v0 v1) ∧ (v1 = (43 : Int32) → Q (1 : Int32))))))
set_option maxHeartbeats 4000000 in
set_option maxRecDepth 100000 in
theorem wk_X3_kindOf_14 {p : Program} {l : Launch} {e : Env} {s : State} {m : MethodId} {args : Array Value} {below : List Frame} {meth : Method} {c : Code} {D : va_G} (C : Cx p s m args meth c RX3 cX3_kindOf 2 (some FieldType.int) D []) {Q : Int32 → Prop} {v0 : Int32} {v1 : Int32} {H : Heap} {locs : List Loc} {ls : Array Slot} (h : wb_X3_kindOf_14 Q v0 v1)  (hS : va_S (fun _ => False) s.heap H locs) (hl : lv_has ls 2 [(0, .int v0), (1, .int v1)]) : W p l e rmX3_kindOf s m args below meth c H locs 0 0 (MQ below (Qcg (PNi Q) (fun _ => False)) args s 0 0 (fun _ => False)) (F0 m 14 ls []) := by
  have hx := C.1
  have hb := C.2.1
  refine lv_iload_n hx hb dX3_kindOf_14 rfl (lv_at hl 0 rfl) ?_
  refine lv_bipush (v := 32) hx hb dX3_kindOf_15 (by decide) ?_
  refine lv_bipush (v := 47) hx hb dX3_kindOf_17 (by decide) ?_
  refine kNi (rnSN C (ct_X5_within l D h) ys_X5_within wn_462 ⟨rfl, rfl⟩ ⟨Nat.le_of_ble_eq_true rfl, Nat.le_of_ble_eq_true rfl⟩ ⟨Nat.zero_le _, Nat.zero_le _⟩ trivial hl.1 rfl rfl (Nat.le_of_ble_eq_true rfl) dX3_kindOf_19) hS (fun _ h => h.elim) (fun r19 H locs h hk hS => ?_)
  refine lv_if_eq (tgt := 33) hx hb dX3_kindOf_22 (by decide) (fun hc => ?_) (fun hc => ?_)
  · have h := h.1 hc
    exact wk_X3_kindOf_33 C h hS (lv_sub hl [0, 1] rfl)
  · have h := h.2 hc
    refine lv_iload_n hx hb dX3_kindOf_25 rfl (lv_at hl 1 rfl) ?_
    refine lv_bipush (v := 43) hx hb dX3_kindOf_26 (by decide) ?_
    refine lv_icmp_ne (tgt := 33) hx hb dX3_kindOf_28 (by decide) (fun hc => ?_) (fun hc => ?_)
    · have h := h.1 hc
      exact wk_X3_kindOf_33 C h hS (lv_sub hl [0, 1] rfl)
    · have h := h.2 hc
      refine lv_iconst (v := 1) hx hb dX3_kindOf_31 (by decide) ?_
      exact endI C hS ⟨_, rfl, h⟩ dX3_kindOf_32
def wp_X3_kindOf (x1 : Int32) (x2 : Int32) (Q : Int32 → Prop) : Prop := ((¬ x1 = (63 : Int32) → wb_X3_kindOf_14 Q x1 x2) ∧ (x1 = (63 : Int32) → ((¬ x2 = (65 : Int32) → wb_X3_kindOf_14 Q x1 x2) ∧ (x2 = (65 : Int32) → Q (3 : Int32)))))
set_option maxHeartbeats 4000000 in
set_option maxRecDepth 100000 in
theorem ct_X3_kindOf (l : Launch) (D : va_G)    {x1 : Int32} {x2 : Int32} {Q : Int32 → Prop} (h : wp_X3_kindOf  x1 x2 Q) : Ct l yX3_kindOf cX3_kindOf 2 (some FieldType.int) rmX3_kindOf D [] (fun _ => True) [.int x1, .int x2] (fun _ => False) (PNi Q) := by
  refine Ct.of (by decide) (Nat.le_of_ble_eq_true rfl) ?_
  intro p e s m below meth c ls C hP hl
  have hl : lv_has ls 2 [(0, .int x1), (1, .int x2)] := hl
  have hS : va_S (fun _ => False) s.heap s.heap [] := va_S.rf
  have hx := C.1
  have hb := C.2.1
  refine lv_iload_n hx hb dX3_kindOf_0 rfl (lv_at hl 0 rfl) ?_
  refine lv_bipush (v := 63) hx hb dX3_kindOf_1 (by decide) ?_
  refine lv_icmp_ne (tgt := 14) hx hb dX3_kindOf_3 (by decide) (fun hc => ?_) (fun hc => ?_)
  · have h := h.1 hc
    exact wk_X3_kindOf_14 C h hS (lv_sub hl [0, 1] rfl)
  · have h := h.2 hc
    refine lv_iload_n hx hb dX3_kindOf_6 rfl (lv_at hl 1 rfl) ?_
    refine lv_bipush (v := 65) hx hb dX3_kindOf_7 (by decide) ?_
    refine lv_icmp_ne (tgt := 14) hx hb dX3_kindOf_9 (by decide) (fun hc => ?_) (fun hc => ?_)
    · have h := h.1 hc
      exact wk_X3_kindOf_14 C h hS (lv_sub hl [0, 1] rfl)
    · have h := h.2 hc
      refine lv_iconst (v := 3) hx hb dX3_kindOf_12 (by decide) ?_
      exact endI C hS ⟨_, rfl, h⟩ dX3_kindOf_13
abbrev rmX3_sizeOf : Room := { frames := 0, cells := 0, slots := 0, locals := 0 }
def wp_X3_sizeOf (x1 : Int32) (x2 : Int32) (Q : Int32 → Prop) : Prop := (((x1).toInt < 0 ∨ 2 < (x1).toInt → Q (4 : Int32)) ∧ (x1 = 0 → Q (((3 : Int32) + x2) - (16 : Int32))) ∧ (x1 = 1 → Q (14 : Int32)) ∧ (x1 = 2 → Q (((3 : Int32) + x2) - (48 : Int32))))
set_option maxHeartbeats 4000000 in
set_option maxRecDepth 100000 in
theorem ct_X3_sizeOf (l : Launch) (D : va_G)    {x1 : Int32} {x2 : Int32} {Q : Int32 → Prop} (h : wp_X3_sizeOf  x1 x2 Q) : Ct l yX3_sizeOf cX3_sizeOf 2 (some FieldType.int) rmX3_sizeOf D [] (fun _ => True) [.int x1, .int x2] (fun _ => False) (PNi Q) := by
  refine Ct.of (by decide) (Nat.le_of_ble_eq_true rfl) ?_
  intro p e s m below meth c ls C hP hl
  have hl : lv_has ls 2 [(0, .int x1), (1, .int x2)] := hl
  have hS : va_S (fun _ => False) s.heap s.heap [] := va_S.rf
  have hx := C.1
  have hb := C.2.1
  refine lv_iload_n hx hb dX3_sizeOf_0 rfl (lv_at hl 0 rfl) ?_
  by_cases hc : (x1).toInt < 0 ∨ 2 < (x1).toInt
  · have h := h.1 hc
    refine lv_tableOut (tgt := 45) hx hb dX3_sizeOf_1 hc (by decide) ?_
    refine lv_iconst (v := 4) hx hb dX3_sizeOf_45 (by decide) ?_
    exact endI C hS ⟨_, rfl, h⟩ dX3_sizeOf_46
  · have hr : (x1).toInt = 0 ∨ (x1).toInt = 1 ∨ (x1).toInt = 2 := by omega
    rcases hr with hr | hr | hr
    · have h := h.2.1 (Int32.toInt_inj.mp (by rw [hr]; rfl))
      refine lv_tableIn (off := 27) (tgt := 28) hx hb dX3_sizeOf_1 (by omega) (by omega) (by rw [hr]; rfl) (by decide) ?_
      refine lv_iconst (v := 3) hx hb dX3_sizeOf_28 (by decide) ?_
      refine lv_iload_n hx hb dX3_sizeOf_29 rfl (lv_at hl 1 rfl) ?_
      refine lv_iadd hx hb dX3_sizeOf_30 ?_
      refine lv_bipush (v := 16) hx hb dX3_sizeOf_31 (by decide) ?_
      refine lv_isub hx hb dX3_sizeOf_33 ?_
      exact endI C hS ⟨_, rfl, h⟩ dX3_sizeOf_34
    · have h := h.2.2.1 (Int32.toInt_inj.mp (by rw [hr]; rfl))
      refine lv_tableIn (off := 41) (tgt := 42) hx hb dX3_sizeOf_1 (by omega) (by omega) (by rw [hr]; rfl) (by decide) ?_
      refine lv_bipush (v := 14) hx hb dX3_sizeOf_42 (by decide) ?_
      exact endI C hS ⟨_, rfl, h⟩ dX3_sizeOf_44
    · have h := h.2.2.2 (Int32.toInt_inj.mp (by rw [hr]; rfl))
      refine lv_tableIn (off := 34) (tgt := 35) hx hb dX3_sizeOf_1 (by omega) (by omega) (by rw [hr]; rfl) (by decide) ?_
      refine lv_iconst (v := 3) hx hb dX3_sizeOf_35 (by decide) ?_
      refine lv_iload_n hx hb dX3_sizeOf_36 rfl (lv_at hl 1 rfl) ?_
      refine lv_iadd hx hb dX3_sizeOf_37 ?_
      refine lv_bipush (v := 48) hx hb dX3_sizeOf_38 (by decide) ?_
      refine lv_isub hx hb dX3_sizeOf_40 ?_
      exact endI C hS ⟨_, rfl, h⟩ dX3_sizeOf_41
abbrev rmX5_isTag : Room := { frames := 0, cells := 0, slots := 0, locals := 0 }
def wb_X5_isTag_15 (Q : Int32 → Prop) (t0 : Int32) : Prop := (bz t0) ∧ (Q t0)
set_option maxHeartbeats 4000000 in
set_option maxRecDepth 100000 in
theorem wk_X5_isTag_15 {p : Program} {l : Launch} {e : Env} {s : State} {m : MethodId} {args : Array Value} {below : List Frame} {meth : Method} {c : Code} {D : va_G} (C : Cx p s m args meth c RX5 cX5_isTag 1 (some FieldType.boolean) D []) {Q : Int32 → Prop} {t0 : Int32} {H : Heap} {locs : List Loc} {ls : Array Slot} (h : wb_X5_isTag_15 Q t0)  (hS : va_S (fun _ => False) s.heap H locs) (hl : lv_has ls 1 []) : W p l e rmX5_isTag s m args below meth c H locs 0 0 (MQ below (Qcg (PNi Q) (fun _ => False)) args s 0 0 (fun _ => False)) (F0 m 15 ls [.int t0]) := by
  have hx := C.1
  have hb := C.2.1
  obtain ⟨hc, h⟩ := h
  exact endZ C hS hc ⟨_, rfl, h⟩ dX5_isTag_15
def wb_X5_isTag_14 (Q : Int32 → Prop) : Prop := wb_X5_isTag_15 Q (0 : Int32)
set_option maxHeartbeats 4000000 in
set_option maxRecDepth 100000 in
theorem wk_X5_isTag_14 {p : Program} {l : Launch} {e : Env} {s : State} {m : MethodId} {args : Array Value} {below : List Frame} {meth : Method} {c : Code} {D : va_G} (C : Cx p s m args meth c RX5 cX5_isTag 1 (some FieldType.boolean) D []) {Q : Int32 → Prop}  {H : Heap} {locs : List Loc} {ls : Array Slot} (h : wb_X5_isTag_14 Q)  (hS : va_S (fun _ => False) s.heap H locs) (hl : lv_has ls 1 []) : W p l e rmX5_isTag s m args below meth c H locs 0 0 (MQ below (Qcg (PNi Q) (fun _ => False)) args s 0 0 (fun _ => False)) (F0 m 14 ls []) := by
  have hx := C.1
  have hb := C.2.1
  refine lv_iconst (v := 0) hx hb dX5_isTag_14 (by decide) ?_
  exact wk_X5_isTag_15 C h hS (lv_sub hl [] rfl)
def wp_X5_isTag (x1 : Int32) (Q : Int32 → Prop) : Prop := ((x1 < 0 → wb_X5_isTag_14 Q ) ∧ (¬ x1 < 0 → (((48 : Int32) ≤ x1 → wb_X5_isTag_14 Q ) ∧ (¬ (48 : Int32) ≤ x1 → wb_X5_isTag_15 Q (1 : Int32)))))
set_option maxHeartbeats 4000000 in
set_option maxRecDepth 100000 in
theorem ct_X5_isTag (l : Launch) (D : va_G)    {x1 : Int32} {Q : Int32 → Prop} (h : wp_X5_isTag  x1 Q) : Ct l yX5_isTag cX5_isTag 1 (some FieldType.boolean) rmX5_isTag D [] (fun _ => True) [.int x1] (fun _ => False) (PNi Q) := by
  refine Ct.of (by decide) (Nat.le_of_ble_eq_true rfl) ?_
  intro p e s m below meth c ls C hP hl
  have hl : lv_has ls 1 [(0, .int x1)] := hl
  have hS : va_S (fun _ => False) s.heap s.heap [] := va_S.rf
  have hx := C.1
  have hb := C.2.1
  refine lv_iload_n hx hb dX5_isTag_0 rfl (lv_at hl 0 rfl) ?_
  refine lv_if_lt (tgt := 14) hx hb dX5_isTag_1 (by decide) (fun hc => ?_) (fun hc => ?_)
  · have h := h.1 hc
    exact wk_X5_isTag_14 C h hS (lv_sub hl [] rfl)
  · have h := h.2 hc
    refine lv_iload_n hx hb dX5_isTag_4 rfl (lv_at hl 0 rfl) ?_
    refine lv_bipush (v := 48) hx hb dX5_isTag_5 (by decide) ?_
    refine lv_icmp_ge (tgt := 14) hx hb dX5_isTag_7 (by decide) (fun hc => ?_) (fun hc => ?_)
    · have h := h.1 hc
      exact wk_X5_isTag_14 C h hS (lv_sub hl [] rfl)
    · have h := h.2 hc
      refine lv_iconst (v := 1) hx hb dX5_isTag_10 (by decide) ?_
      refine lv_goto (tgt := 15) hx hb dX5_isTag_11 (by decide) ?_
      exact wk_X5_isTag_15 C h hS (lv_sub hl [] rfl)
abbrev rmJ6_bitCount_0f7a4 : Room := { frames := 0, cells := 0, slots := 0, locals := 0 }
def wp_J6_bitCount_0f7a4 (x1 : Int32) (Q : Int32 → Prop) : Prop := ∀ y9 : Int32, y9 = (x1 - (((x1).toUInt32 >>> (((1 : Int32)).toUInt32 &&& Int32.toUInt32 31)).toInt32 &&& (1431655765 : Int32))) → (∀ y23 : Int32, y23 = ((y9 &&& (858993459 : Int32)) + (((y9).toUInt32 >>> (((2 : Int32)).toUInt32 &&& Int32.toUInt32 31)).toInt32 &&& (858993459 : Int32))) → (∀ y33 : Int32, y33 = ((y23 + ((y23).toUInt32 >>> (((4 : Int32)).toUInt32 &&& Int32.toUInt32 31)).toInt32) &&& (252645135 : Int32)) → (∀ y40 : Int32, y40 = (y33 + ((y33).toUInt32 >>> (((8 : Int32)).toUInt32 &&& Int32.toUInt32 31)).toInt32) → (∀ y47 : Int32, y47 = (y40 + ((y40).toUInt32 >>> (((16 : Int32)).toUInt32 &&& Int32.toUInt32 31)).toInt32) → (Q (y47 &&& (63 : Int32)))))))
set_option maxHeartbeats 4000000 in
set_option maxRecDepth 100000 in
theorem ct_J6_bitCount_0f7a4 (l : Launch) (D : va_G)    {x1 : Int32} {Q : Int32 → Prop} (h : wp_J6_bitCount_0f7a4  x1 Q) : Ct l yJ6_bitCount_0f7a4 cJ6_bitCount_0f7a4 1 (some FieldType.int) rmJ6_bitCount_0f7a4 D [] (fun _ => True) [.int x1] (fun _ => False) (PNi Q) := by
  refine Ct.of (by decide) (Nat.le_of_ble_eq_true rfl) ?_
  intro p e s m below meth c ls C hP hl
  have hl : lv_has ls 1 [(0, .int x1)] := hl
  have hS : va_S (fun _ => False) s.heap s.heap [] := va_S.rf
  have hx := C.1
  have hb := C.2.1
  refine lv_iload_n hx hb dJ6_bitCount_0f7a4_0 rfl (lv_at hl 0 rfl) ?_
  refine lv_iload_n hx hb dJ6_bitCount_0f7a4_1 rfl (lv_at hl 0 rfl) ?_
  refine lv_iconst (v := 1) hx hb dJ6_bitCount_0f7a4_2 (by decide) ?_
  refine lv_iushr hx hb dJ6_bitCount_0f7a4_3 rfl ?_
  refine lv_ldcw hx hb C.2.2.2.1 (C.2.2.2.2.2.2.1 _ wq_597) dJ6_bitCount_0f7a4_4 ?_
  refine lv_iand hx hb dJ6_bitCount_0f7a4_7 ?_
  refine lv_isub hx hb dJ6_bitCount_0f7a4_8 ?_
  refine lv_topi (fun y9 e9 => ?_)
  have h := h y9 e9
  refine lv_istore_n (lv' := [(0, .int y9)]) hx hb dJ6_bitCount_0f7a4_9 rfl hl (by decide) rfl (fun ls hl => ?_)
  refine lv_iload_n hx hb dJ6_bitCount_0f7a4_10 rfl (lv_at hl 0 rfl) ?_
  refine lv_ldcw hx hb C.2.2.2.1 (C.2.2.2.2.2.2.1 _ wq_598) dJ6_bitCount_0f7a4_11 ?_
  refine lv_iand hx hb dJ6_bitCount_0f7a4_14 ?_
  refine lv_iload_n hx hb dJ6_bitCount_0f7a4_15 rfl (lv_at hl 0 rfl) ?_
  refine lv_iconst (v := 2) hx hb dJ6_bitCount_0f7a4_16 (by decide) ?_
  refine lv_iushr hx hb dJ6_bitCount_0f7a4_17 rfl ?_
  refine lv_ldcw hx hb C.2.2.2.1 (C.2.2.2.2.2.2.1 _ wq_598) dJ6_bitCount_0f7a4_18 ?_
  refine lv_iand hx hb dJ6_bitCount_0f7a4_21 ?_
  refine lv_iadd hx hb dJ6_bitCount_0f7a4_22 ?_
  refine lv_topi (fun y23 e23 => ?_)
  have h := h y23 e23
  refine lv_istore_n (lv' := [(0, .int y23)]) hx hb dJ6_bitCount_0f7a4_23 rfl hl (by decide) rfl (fun ls hl => ?_)
  refine lv_iload_n hx hb dJ6_bitCount_0f7a4_24 rfl (lv_at hl 0 rfl) ?_
  refine lv_iload_n hx hb dJ6_bitCount_0f7a4_25 rfl (lv_at hl 0 rfl) ?_
  refine lv_iconst (v := 4) hx hb dJ6_bitCount_0f7a4_26 (by decide) ?_
  refine lv_iushr hx hb dJ6_bitCount_0f7a4_27 rfl ?_
  refine lv_iadd hx hb dJ6_bitCount_0f7a4_28 ?_
  refine lv_ldcw hx hb C.2.2.2.1 (C.2.2.2.2.2.2.1 _ wq_599) dJ6_bitCount_0f7a4_29 ?_
  refine lv_iand hx hb dJ6_bitCount_0f7a4_32 ?_
  refine lv_topi (fun y33 e33 => ?_)
  have h := h y33 e33
  refine lv_istore_n (lv' := [(0, .int y33)]) hx hb dJ6_bitCount_0f7a4_33 rfl hl (by decide) rfl (fun ls hl => ?_)
  refine lv_iload_n hx hb dJ6_bitCount_0f7a4_34 rfl (lv_at hl 0 rfl) ?_
  refine lv_iload_n hx hb dJ6_bitCount_0f7a4_35 rfl (lv_at hl 0 rfl) ?_
  refine lv_bipush (v := 8) hx hb dJ6_bitCount_0f7a4_36 (by decide) ?_
  refine lv_iushr hx hb dJ6_bitCount_0f7a4_38 rfl ?_
  refine lv_iadd hx hb dJ6_bitCount_0f7a4_39 ?_
  refine lv_topi (fun y40 e40 => ?_)
  have h := h y40 e40
  refine lv_istore_n (lv' := [(0, .int y40)]) hx hb dJ6_bitCount_0f7a4_40 rfl hl (by decide) rfl (fun ls hl => ?_)
  refine lv_iload_n hx hb dJ6_bitCount_0f7a4_41 rfl (lv_at hl 0 rfl) ?_
  refine lv_iload_n hx hb dJ6_bitCount_0f7a4_42 rfl (lv_at hl 0 rfl) ?_
  refine lv_bipush (v := 16) hx hb dJ6_bitCount_0f7a4_43 (by decide) ?_
  refine lv_iushr hx hb dJ6_bitCount_0f7a4_45 rfl ?_
  refine lv_iadd hx hb dJ6_bitCount_0f7a4_46 ?_
  refine lv_topi (fun y47 e47 => ?_)
  have h := h y47 e47
  refine lv_istore_n (lv' := [(0, .int y47)]) hx hb dJ6_bitCount_0f7a4_47 rfl hl (by decide) rfl (fun ls hl => ?_)
  refine lv_iload_n hx hb dJ6_bitCount_0f7a4_48 rfl (lv_at hl 0 rfl) ?_
  refine lv_bipush (v := 63) hx hb dJ6_bitCount_0f7a4_49 (by decide) ?_
  refine lv_iand hx hb dJ6_bitCount_0f7a4_51 ?_
  exact endI C hS ⟨_, rfl, h⟩ dJ6_bitCount_0f7a4_52
abbrev rmJ13_bitCount_95d88 : Room := { frames := 0, cells := 0, slots := 0, locals := 0 }
def wp_J13_bitCount_95d88 (x1 : Int64) (Q : Int32 → Prop) : Prop := ∀ y9 : Int64, y9 = (x1 - (((x1).toUInt64 >>> (((1 : Int32)).toInt64.toUInt64 &&& Int64.toUInt64 63)).toInt64 &&& (6148914691236517205 : Int64))) → (∀ y23 : Int64, y23 = ((y9 &&& (3689348814741910323 : Int64)) + (((y9).toUInt64 >>> (((2 : Int32)).toInt64.toUInt64 &&& Int64.toUInt64 63)).toInt64 &&& (3689348814741910323 : Int64))) → (∀ y33 : Int64, y33 = ((y23 + ((y23).toUInt64 >>> (((4 : Int32)).toInt64.toUInt64 &&& Int64.toUInt64 63)).toInt64) &&& (1085102592571150095 : Int64)) → (∀ y40 : Int64, y40 = (y33 + ((y33).toUInt64 >>> (((8 : Int32)).toInt64.toUInt64 &&& Int64.toUInt64 63)).toInt64) → (∀ y47 : Int64, y47 = (y40 + ((y40).toUInt64 >>> (((16 : Int32)).toInt64.toUInt64 &&& Int64.toUInt64 63)).toInt64) → (∀ y54 : Int64, y54 = (y47 + ((y47).toUInt64 >>> (((32 : Int32)).toInt64.toUInt64 &&& Int64.toUInt64 63)).toInt64) → (Q ((y54).toInt32 &&& (127 : Int32))))))))
set_option maxHeartbeats 4000000 in
set_option maxRecDepth 100000 in
theorem ct_J13_bitCount_95d88 (l : Launch) (D : va_G)    {x1 : Int64} {Q : Int32 → Prop} (h : wp_J13_bitCount_95d88  x1 Q) : Ct l yJ13_bitCount_95d88 cJ13_bitCount_95d88 2 (some FieldType.int) rmJ13_bitCount_95d88 D [] (fun _ => True) [.long x1] (fun _ => False) (PNi Q) := by
  refine Ct.of (by decide) (Nat.le_of_ble_eq_true rfl) ?_
  intro p e s m below meth c ls C hP hl
  have hl : lv_has ls 2 [(0, .long x1)] := hl
  have hS : va_S (fun _ => False) s.heap s.heap [] := va_S.rf
  have hx := C.1
  have hb := C.2.1
  refine lv_lload_n hx hb dJ13_bitCount_95d88_0 rfl (lv_at hl 0 rfl) ?_
  refine lv_lload_n hx hb dJ13_bitCount_95d88_1 rfl (lv_at hl 0 rfl) ?_
  refine lv_iconst (v := 1) hx hb dJ13_bitCount_95d88_2 (by decide) ?_
  refine lv_lushr hx hb dJ13_bitCount_95d88_3 rfl ?_
  refine lv_ldc2 hx hb C.2.2.2.1 (C.2.2.2.2.2.2.1 _ wq_506) dJ13_bitCount_95d88_4 ?_
  refine lv_land hx hb dJ13_bitCount_95d88_7 ?_
  refine lv_lsub hx hb dJ13_bitCount_95d88_8 ?_
  refine lv_topl (fun y9 e9 => ?_)
  have h := h y9 e9
  refine lv_lstore_n (lv' := [(0, .long y9)]) hx hb dJ13_bitCount_95d88_9 rfl hl (by decide) rfl (fun ls hl => ?_)
  refine lv_lload_n hx hb dJ13_bitCount_95d88_10 rfl (lv_at hl 0 rfl) ?_
  refine lv_ldc2 hx hb C.2.2.2.1 (C.2.2.2.2.2.2.1 _ wq_507) dJ13_bitCount_95d88_11 ?_
  refine lv_land hx hb dJ13_bitCount_95d88_14 ?_
  refine lv_lload_n hx hb dJ13_bitCount_95d88_15 rfl (lv_at hl 0 rfl) ?_
  refine lv_iconst (v := 2) hx hb dJ13_bitCount_95d88_16 (by decide) ?_
  refine lv_lushr hx hb dJ13_bitCount_95d88_17 rfl ?_
  refine lv_ldc2 hx hb C.2.2.2.1 (C.2.2.2.2.2.2.1 _ wq_507) dJ13_bitCount_95d88_18 ?_
  refine lv_land hx hb dJ13_bitCount_95d88_21 ?_
  refine lv_ladd hx hb dJ13_bitCount_95d88_22 ?_
  refine lv_topl (fun y23 e23 => ?_)
  have h := h y23 e23
  refine lv_lstore_n (lv' := [(0, .long y23)]) hx hb dJ13_bitCount_95d88_23 rfl hl (by decide) rfl (fun ls hl => ?_)
  refine lv_lload_n hx hb dJ13_bitCount_95d88_24 rfl (lv_at hl 0 rfl) ?_
  refine lv_lload_n hx hb dJ13_bitCount_95d88_25 rfl (lv_at hl 0 rfl) ?_
  refine lv_iconst (v := 4) hx hb dJ13_bitCount_95d88_26 (by decide) ?_
  refine lv_lushr hx hb dJ13_bitCount_95d88_27 rfl ?_
  refine lv_ladd hx hb dJ13_bitCount_95d88_28 ?_
  refine lv_ldc2 hx hb C.2.2.2.1 (C.2.2.2.2.2.2.1 _ wq_508) dJ13_bitCount_95d88_29 ?_
  refine lv_land hx hb dJ13_bitCount_95d88_32 ?_
  refine lv_topl (fun y33 e33 => ?_)
  have h := h y33 e33
  refine lv_lstore_n (lv' := [(0, .long y33)]) hx hb dJ13_bitCount_95d88_33 rfl hl (by decide) rfl (fun ls hl => ?_)
  refine lv_lload_n hx hb dJ13_bitCount_95d88_34 rfl (lv_at hl 0 rfl) ?_
  refine lv_lload_n hx hb dJ13_bitCount_95d88_35 rfl (lv_at hl 0 rfl) ?_
  refine lv_bipush (v := 8) hx hb dJ13_bitCount_95d88_36 (by decide) ?_
  refine lv_lushr hx hb dJ13_bitCount_95d88_38 rfl ?_
  refine lv_ladd hx hb dJ13_bitCount_95d88_39 ?_
  refine lv_topl (fun y40 e40 => ?_)
  have h := h y40 e40
  refine lv_lstore_n (lv' := [(0, .long y40)]) hx hb dJ13_bitCount_95d88_40 rfl hl (by decide) rfl (fun ls hl => ?_)
  refine lv_lload_n hx hb dJ13_bitCount_95d88_41 rfl (lv_at hl 0 rfl) ?_
  refine lv_lload_n hx hb dJ13_bitCount_95d88_42 rfl (lv_at hl 0 rfl) ?_
  refine lv_bipush (v := 16) hx hb dJ13_bitCount_95d88_43 (by decide) ?_
  refine lv_lushr hx hb dJ13_bitCount_95d88_45 rfl ?_
  refine lv_ladd hx hb dJ13_bitCount_95d88_46 ?_
  refine lv_topl (fun y47 e47 => ?_)
  have h := h y47 e47
  refine lv_lstore_n (lv' := [(0, .long y47)]) hx hb dJ13_bitCount_95d88_47 rfl hl (by decide) rfl (fun ls hl => ?_)
  refine lv_lload_n hx hb dJ13_bitCount_95d88_48 rfl (lv_at hl 0 rfl) ?_
  refine lv_lload_n hx hb dJ13_bitCount_95d88_49 rfl (lv_at hl 0 rfl) ?_
  refine lv_bipush (v := 32) hx hb dJ13_bitCount_95d88_50 (by decide) ?_
  refine lv_lushr hx hb dJ13_bitCount_95d88_52 rfl ?_
  refine lv_ladd hx hb dJ13_bitCount_95d88_53 ?_
  refine lv_topl (fun y54 e54 => ?_)
  have h := h y54 e54
  refine lv_lstore_n (lv' := [(0, .long y54)]) hx hb dJ13_bitCount_95d88_54 rfl hl (by decide) rfl (fun ls hl => ?_)
  refine lv_lload_n hx hb dJ13_bitCount_95d88_55 rfl (lv_at hl 0 rfl) ?_
  refine lv_l2i hx hb dJ13_bitCount_95d88_56 rfl ?_
  refine lv_bipush (v := 127) hx hb dJ13_bitCount_95d88_57 (by decide) ?_
  refine lv_iand hx hb dJ13_bitCount_95d88_59 ?_
  exact endI C hS ⟨_, rfl, h⟩ dJ13_bitCount_95d88_60
abbrev rmX4_highestBit : Room := { frames := 0, cells := 0, slots := 0, locals := 0 }
def wb_X4_highestBit_4 (Q : Int32 → Prop) (k4 : Int32 → Int32 → Prop) (v0 : Int32) (v1 : Int32) : Prop := ((v1 ≤ 0 → Q (0 : Int32)) ∧ (¬ v1 ≤ 0 → (((v0 &&& v1) = 0 → ∀ y19 : Int32, y19 = (v1 / (2 : Int32)) → (k4 v0 y19)) ∧ (¬ (v0 &&& v1) = 0 → Q v1))))
set_option maxHeartbeats 4000000 in
set_option maxRecDepth 100000 in
theorem wk_X4_highestBit_4 {p : Program} {l : Launch} {e : Env} {s : State} {m : MethodId} {args : Array Value} {below : List Frame} {meth : Method} {c : Code} {D : va_G} (C : Cx p s m args meth c RX4 cX4_highestBit 2 (some FieldType.int) D []) {Q : Int32 → Prop} {k4 : Int32 → Int32 → Prop} (hk4 : ∀ {v0 : Int32} {v1 : Int32} {H : Heap} {locs : List Loc} {ls : Array Slot}, k4 v0 v1 → va_S (fun _ => False) s.heap H locs → lv_has ls 2 [(0, .int v0), (1, .int v1)] → W p l e rmX4_highestBit s m args below meth c H locs 0 0 (MQ below (Qcg (PNi Q) (fun _ => False)) args s 0 0 (fun _ => False)) (F0 m 4 ls [])) {v0 : Int32} {v1 : Int32} {H : Heap} {locs : List Loc} {ls : Array Slot} (h : wb_X4_highestBit_4 Q k4 v0 v1)  (hS : va_S (fun _ => False) s.heap H locs) (hl : lv_has ls 2 [(0, .int v0), (1, .int v1)]) : W p l e rmX4_highestBit s m args below meth c H locs 0 0 (MQ below (Qcg (PNi Q) (fun _ => False)) args s 0 0 (fun _ => False)) (F0 m 4 ls []) := by
  have hx := C.1
  have hb := C.2.1
  refine lv_iload_n hx hb dX4_highestBit_4 rfl (lv_at hl 1 rfl) ?_
  refine lv_if_le (tgt := 23) hx hb dX4_highestBit_5 (by decide) (fun hc => ?_) (fun hc => ?_)
  · have h := h.1 hc
    refine lv_iconst (v := 0) hx hb dX4_highestBit_23 (by decide) ?_
    exact endI C hS ⟨_, rfl, h⟩ dX4_highestBit_24
  · have h := h.2 hc
    refine lv_iload_n hx hb dX4_highestBit_8 rfl (lv_at hl 0 rfl) ?_
    refine lv_iload_n hx hb dX4_highestBit_9 rfl (lv_at hl 1 rfl) ?_
    refine lv_iand hx hb dX4_highestBit_10 ?_
    refine lv_if_eq (tgt := 16) hx hb dX4_highestBit_11 (by decide) (fun hc => ?_) (fun hc => ?_)
    · have h := h.1 hc
      refine lv_iload_n hx hb dX4_highestBit_16 rfl (lv_at hl 1 rfl) ?_
      refine lv_iconst (v := 2) hx hb dX4_highestBit_17 (by decide) ?_
      refine lv_idiv hx hb dX4_highestBit_18 (by decide) ?_
      refine lv_topi (fun y19 e19 => ?_)
      have h := h y19 e19
      refine lv_istore_n (lv' := [(1, .int y19), (0, .int v0)]) hx hb dX4_highestBit_19 rfl hl (by decide) rfl (fun ls hl => ?_)
      refine lv_goto (tgt := 4) hx hb dX4_highestBit_20 (by decide) ?_
      exact hk4 h hS (lv_sub hl [1, 0] rfl)
    · have h := h.2 hc
      refine lv_iload_n hx hb dX4_highestBit_14 rfl (lv_at hl 1 rfl) ?_
      exact endI C hS ⟨_, rfl, h⟩ dX4_highestBit_15
def wl_X4_highestBit_4 (Q : Int32 → Prop) (n : Nat) : Int32 → Int32 → Prop := Nat.rec (motive := fun _ => Int32 → Int32 → Prop) (fun _ _ => False) (fun _ k => wb_X4_highestBit_4 Q k) n
set_option maxHeartbeats 4000000 in
theorem wkl_X4_highestBit_4 {p : Program} {l : Launch} {e : Env} {s : State} {m : MethodId} {args : Array Value} {below : List Frame} {meth : Method} {c : Code} {D : va_G} (C : Cx p s m args meth c RX4 cX4_highestBit 2 (some FieldType.int) D []) {Q : Int32 → Prop}  : ∀ (n : Nat) {v0 : Int32} {v1 : Int32} {H : Heap} {locs : List Loc} {ls : Array Slot} (h : wl_X4_highestBit_4 Q  n v0 v1)  (hS : va_S (fun _ => False) s.heap H locs) (hl : lv_has ls 2 [(0, .int v0), (1, .int v1)]), W p l e rmX4_highestBit s m args below meth c H locs 0 0 (MQ below (Qcg (PNi Q) (fun _ => False)) args s 0 0 (fun _ => False)) (F0 m 4 ls []) := by
  intro n
  induction n with
  | zero => intro v0 v1 H locs ls h; exact h.elim
  | succ n ih =>
    intro v0 v1 H locs ls h  hS hl
    exact wk_X4_highestBit_4 C (fun h  hS hl => ih h  hS hl) h  hS hl
def wp_X4_highestBit (x1 : Int32) (Q : Int32 → Prop) : Prop := ∃ n, wl_X4_highestBit_4 Q n x1 (128 : Int32)
set_option maxHeartbeats 4000000 in
set_option maxRecDepth 100000 in
theorem ct_X4_highestBit (l : Launch) (D : va_G)    {x1 : Int32} {Q : Int32 → Prop} (h : wp_X4_highestBit  x1 Q) : Ct l yX4_highestBit cX4_highestBit 2 (some FieldType.int) rmX4_highestBit D [] (fun _ => True) [.int x1] (fun _ => False) (PNi Q) := by
  refine Ct.of (by decide) (Nat.le_of_ble_eq_true rfl) ?_
  intro p e s m below meth c ls C hP hl
  have hl : lv_has ls 2 [(0, .int x1)] := hl
  have hS : va_S (fun _ => False) s.heap s.heap [] := va_S.rf
  have hx := C.1
  have hb := C.2.1
  refine lv_sipush (v := 128) hx hb dX4_highestBit_0 (by decide) ?_
  refine lv_istore_n (lv' := [(1, .int (128 : Int32)), (0, .int x1)]) hx hb dX4_highestBit_3 rfl hl (by decide) rfl (fun ls hl => ?_)
  obtain ⟨n, h⟩ := h
  exact wkl_X4_highestBit_4 C n h hS (lv_sub hl [1, 0] rfl)
abbrev rmX5_isSetting : Room := { frames := 1, cells := 0, slots := 0, locals := 22 }
def wb_X5_isSetting_24 (Q : Int32 → Prop) (t0 : Int32) : Prop := (bz t0) ∧ (Q t0)
set_option maxHeartbeats 4000000 in
set_option maxRecDepth 100000 in
theorem wk_X5_isSetting_24 {p : Program} {l : Launch} {e : Env} {s : State} {m : MethodId} {args : Array Value} {below : List Frame} {meth : Method} {c : Code} {D : va_G} (C : Cx p s m args meth c RX5 cX5_isSetting 2 (some FieldType.boolean) D []) {Q : Int32 → Prop} {t0 : Int32} {H : Heap} {locs : List Loc} {ls : Array Slot} (h : wb_X5_isSetting_24 Q t0)  (hS : va_S (fun _ => False) s.heap H locs) (hl : lv_has ls 2 []) : W p l e rmX5_isSetting s m args below meth c H locs 0 0 (MQ below (Qcg (PNi Q) (fun _ => False)) args s 0 0 (fun _ => False)) (F0 m 24 ls [.int t0]) := by
  have hx := C.1
  have hb := C.2.1
  obtain ⟨hc, h⟩ := h
  exact endZ C hS hc ⟨_, rfl, h⟩ dX5_isSetting_24
def wb_X5_isSetting_23 (Q : Int32 → Prop) : Prop := wb_X5_isSetting_24 Q (0 : Int32)
set_option maxHeartbeats 4000000 in
set_option maxRecDepth 100000 in
theorem wk_X5_isSetting_23 {p : Program} {l : Launch} {e : Env} {s : State} {m : MethodId} {args : Array Value} {below : List Frame} {meth : Method} {c : Code} {D : va_G} (C : Cx p s m args meth c RX5 cX5_isSetting 2 (some FieldType.boolean) D []) {Q : Int32 → Prop}  {H : Heap} {locs : List Loc} {ls : Array Slot} (h : wb_X5_isSetting_23 Q)  (hS : va_S (fun _ => False) s.heap H locs) (hl : lv_has ls 2 []) : W p l e rmX5_isSetting s m args below meth c H locs 0 0 (MQ below (Qcg (PNi Q) (fun _ => False)) args s 0 0 (fun _ => False)) (F0 m 23 ls []) := by
  have hx := C.1
  have hb := C.2.1
  refine lv_iconst (v := 0) hx hb dX5_isSetting_23 (by decide) ?_
  exact wk_X5_isSetting_24 C h hS (lv_sub hl [] rfl)
def wp_X5_isSetting (x1 : Int32) (x2 : Int32) (Q : Int32 → Prop) : Prop := wp_X5_within x1 (0 : Int32) (31 : Int32) (fun r4 => ((r4 = 0 → wb_X5_isSetting_23 Q ) ∧ (¬ r4 = 0 → wp_X5_within x2 (1 : Int32) (4 : Int32) (fun r13 => ((r13 = 0 → wb_X5_isSetting_23 Q ) ∧ (¬ r13 = 0 → wb_X5_isSetting_24 Q (1 : Int32)))))))
set_option maxHeartbeats 4000000 in
set_option maxRecDepth 100000 in
theorem ct_X5_isSetting (l : Launch) (D : va_G)    {x1 : Int32} {x2 : Int32} {Q : Int32 → Prop} (h : wp_X5_isSetting  x1 x2 Q) : Ct l yX5_isSetting cX5_isSetting 2 (some FieldType.boolean) rmX5_isSetting D [] (fun _ => True) [.int x1, .int x2] (fun _ => False) (PNi Q) := by
  refine Ct.of (by decide) (Nat.le_of_ble_eq_true rfl) ?_
  intro p e s m below meth c ls C hP hl
  have hl : lv_has ls 2 [(0, .int x1), (1, .int x2)] := hl
  have hS : va_S (fun _ => False) s.heap s.heap [] := va_S.rf
  have hx := C.1
  have hb := C.2.1
  refine lv_iload_n hx hb dX5_isSetting_0 rfl (lv_at hl 0 rfl) ?_
  refine lv_iconst (v := 0) hx hb dX5_isSetting_1 (by decide) ?_
  refine lv_bipush (v := 31) hx hb dX5_isSetting_2 (by decide) ?_
  refine kNi (rnS C (ct_X5_within l D h) ys_X5_within wq_347 ⟨rfl, rfl⟩ ⟨Nat.le_of_ble_eq_true rfl, Nat.le_of_ble_eq_true rfl⟩ ⟨Nat.zero_le _, Nat.zero_le _⟩ trivial hl.1 rfl rfl (Nat.le_of_ble_eq_true rfl) dX5_isSetting_4) hS (fun _ h => h.elim) (fun r4 H locs h hk hS => ?_)
  refine lv_if_eq (tgt := 23) hx hb dX5_isSetting_7 (by decide) (fun hc => ?_) (fun hc => ?_)
  · have h := h.1 hc
    exact wk_X5_isSetting_23 C h hS (lv_sub hl [] rfl)
  · have h := h.2 hc
    refine lv_iload_n hx hb dX5_isSetting_10 rfl (lv_at hl 1 rfl) ?_
    refine lv_iconst (v := 1) hx hb dX5_isSetting_11 (by decide) ?_
    refine lv_iconst (v := 4) hx hb dX5_isSetting_12 (by decide) ?_
    refine kNi (rnS C (ct_X5_within l D h) ys_X5_within wq_347 ⟨rfl, rfl⟩ ⟨Nat.le_of_ble_eq_true rfl, Nat.le_of_ble_eq_true rfl⟩ ⟨Nat.zero_le _, Nat.zero_le _⟩ trivial hl.1 rfl rfl (Nat.le_of_ble_eq_true rfl) dX5_isSetting_13) hS (fun _ h => h.elim) (fun r13 H locs h hk hS => ?_)
    refine lv_if_eq (tgt := 23) hx hb dX5_isSetting_16 (by decide) (fun hc => ?_) (fun hc => ?_)
    · have h := h.1 hc
      exact wk_X5_isSetting_23 C h hS (lv_sub hl [] rfl)
    · have h := h.2 hc
      refine lv_iconst (v := 1) hx hb dX5_isSetting_19 (by decide) ?_
      refine lv_goto (tgt := 24) hx hb dX5_isSetting_20 (by decide) ?_
      exact wk_X5_isSetting_24 C h hS (lv_sub hl [] rfl)
abbrev rmX5_bitsOf : Room := { frames := 0, cells := 0, slots := 0, locals := 0 }
def wb_X5_bitsOf_59 (Q : Int32 → Prop) (v1 : UInt32) (v2 : Int32) : Prop := (vf_n32 (FP.fsub v1 FP.fconst1)) ∧ ((vf_n32 (FP.fmul (FP.fsub v1 FP.fconst1) (1258291200 : UInt32))) ∧ (Q ((v2 <<< ((23 : Int32) &&& 31)) + (FP.f2i (FP.fmul (FP.fsub v1 FP.fconst1) (1258291200 : UInt32))))))
set_option maxHeartbeats 4000000 in
set_option maxRecDepth 100000 in
theorem wk_X5_bitsOf_59 {p : Program} {l : Launch} {e : Env} {s : State} {m : MethodId} {args : Array Value} {below : List Frame} {meth : Method} {c : Code} {D : va_G} (C : Cx p s m args meth c RX5 cX5_bitsOf 4 (some FieldType.int) D []) {Q : Int32 → Prop} {v1 : UInt32} {v2 : Int32} {H : Heap} {locs : List Loc} {ls : Array Slot} (h : wb_X5_bitsOf_59 Q v1 v2)  (hS : va_S (fun _ => False) s.heap H locs) (hl : lv_has ls 4 [(1, .float v1), (2, .int v2)]) : W p l e rmX5_bitsOf s m args below meth c H locs 0 0 (MQ below (Qcg (PNi Q) (fun _ => False)) args s 0 0 (fun _ => False)) (F0 m 59 ls []) := by
  have hx := C.1
  have hb := C.2.1
  refine lv_iload_n hx hb dX5_bitsOf_59 rfl (lv_at hl 1 rfl) ?_
  refine lv_bipush (v := 23) hx hb dX5_bitsOf_60 (by decide) ?_
  refine lv_ishl hx hb dX5_bitsOf_62 ?_
  refine lv_fload_n hx hb dX5_bitsOf_63 rfl (lv_at hl 0 rfl) ?_
  refine lv_fconst1 hx hb dX5_bitsOf_64 ?_
  obtain ⟨hc, h⟩ := h
  refine lv_fsub hx hb dX5_bitsOf_65 hc ?_
  refine lv_ldcf hx hb C.2.2.2.1 (C.2.2.2.2.2.2.1 _ wq_830) dX5_bitsOf_66 ?_
  obtain ⟨hc, h⟩ := h
  refine lv_fmul hx hb dX5_bitsOf_68 hc ?_
  refine lv_f2i hx hb dX5_bitsOf_69 ?_
  refine lv_iadd hx hb dX5_bitsOf_70 ?_
  exact endI C hS ⟨_, rfl, h⟩ dX5_bitsOf_71
def wb_X5_bitsOf_34 (Q : Int32 → Prop) (k34 : UInt32 → Int32 → Int32 → Prop) (v1 : UInt32) (v2 : Int32) (v3 : Int32) : Prop := (((126 : Int32) ≤ v3 → wb_X5_bitsOf_59 Q v1 v2) ∧ (¬ (126 : Int32) ≤ v3 → ((0 ≤ (Op.cmpValue (FP.fcmp v1 FP.fconst1) CmpOp.g) → wb_X5_bitsOf_59 Q v1 v2) ∧ (¬ 0 ≤ (Op.cmpValue (FP.fcmp v1 FP.fconst1) CmpOp.g) → (vf_n32 (FP.fmul v1 FP.fconst2)) ∧ (∀ y49 : UInt32, y49 = (FP.fmul v1 FP.fconst2) → (∀ y50 : Int32, y50 = v2 + (-1 : Int32) → (∀ y53 : Int32, y53 = v3 + (1 : Int32) → (k34 y49 y50 y53))))))))
set_option maxHeartbeats 4000000 in
set_option maxRecDepth 100000 in
theorem wk_X5_bitsOf_34 {p : Program} {l : Launch} {e : Env} {s : State} {m : MethodId} {args : Array Value} {below : List Frame} {meth : Method} {c : Code} {D : va_G} (C : Cx p s m args meth c RX5 cX5_bitsOf 4 (some FieldType.int) D []) {Q : Int32 → Prop} {k34 : UInt32 → Int32 → Int32 → Prop} (hk34 : ∀ {v1 : UInt32} {v2 : Int32} {v3 : Int32} {H : Heap} {locs : List Loc} {ls : Array Slot}, k34 v1 v2 v3 → va_S (fun _ => False) s.heap H locs → lv_has ls 4 [(1, .float v1), (2, .int v2), (3, .int v3)] → W p l e rmX5_bitsOf s m args below meth c H locs 0 0 (MQ below (Qcg (PNi Q) (fun _ => False)) args s 0 0 (fun _ => False)) (F0 m 34 ls [])) {v1 : UInt32} {v2 : Int32} {v3 : Int32} {H : Heap} {locs : List Loc} {ls : Array Slot} (h : wb_X5_bitsOf_34 Q k34 v1 v2 v3)  (hS : va_S (fun _ => False) s.heap H locs) (hl : lv_has ls 4 [(1, .float v1), (2, .int v2), (3, .int v3)]) : W p l e rmX5_bitsOf s m args below meth c H locs 0 0 (MQ below (Qcg (PNi Q) (fun _ => False)) args s 0 0 (fun _ => False)) (F0 m 34 ls []) := by
  have hx := C.1
  have hb := C.2.1
  refine lv_iload_n hx hb dX5_bitsOf_34 rfl (lv_at hl 2 rfl) ?_
  refine lv_bipush (v := 126) hx hb dX5_bitsOf_35 (by decide) ?_
  refine lv_icmp_ge (tgt := 59) hx hb dX5_bitsOf_37 (by decide) (fun hc => ?_) (fun hc => ?_)
  · have h := h.1 hc
    exact wk_X5_bitsOf_59 C h hS (lv_sub hl [0, 1] rfl)
  · have h := h.2 hc
    refine lv_fload_n hx hb dX5_bitsOf_40 rfl (lv_at hl 0 rfl) ?_
    refine lv_fconst1 hx hb dX5_bitsOf_41 ?_
    refine lv_fcmp hx hb dX5_bitsOf_42 ?_
    refine lv_if_ge (tgt := 59) hx hb dX5_bitsOf_43 (by decide) (fun hc => ?_) (fun hc => ?_)
    · have h := h.1 hc
      exact wk_X5_bitsOf_59 C h hS (lv_sub hl [0, 1] rfl)
    · have h := h.2 hc
      refine lv_fload_n hx hb dX5_bitsOf_46 rfl (lv_at hl 0 rfl) ?_
      refine lv_fconst2 hx hb dX5_bitsOf_47 ?_
      obtain ⟨hc, h⟩ := h
      refine lv_fmul hx hb dX5_bitsOf_48 hc ?_
      refine lv_topf (fun y49 e49 => ?_)
      have h := h y49 e49
      refine lv_fstore_n (lv' := [(1, .float y49), (2, .int v2), (3, .int v3)]) hx hb dX5_bitsOf_49 rfl hl (by decide) rfl (fun ls hl => ?_)
      obtain ⟨y50, e50⟩ : ∃ y : Int32, y = v2 + (-1 : Int32) := ⟨_, rfl⟩
      have h := h y50 e50
      refine lv_iinc (v := y50) (lv' := [(2, .int y50), (1, .float y49), (3, .int v3)]) hx hb dX5_bitsOf_50 hl (k := 1) rfl (by rw [e50]; rfl) (by decide) rfl (fun ls hl => ?_)
      obtain ⟨y53, e53⟩ : ∃ y : Int32, y = v3 + (1 : Int32) := ⟨_, rfl⟩
      have h := h y53 e53
      refine lv_iinc (v := y53) (lv' := [(3, .int y53), (2, .int y50), (1, .float y49)]) hx hb dX5_bitsOf_53 hl (k := 2) rfl (by rw [e53]; rfl) (by decide) rfl (fun ls hl => ?_)
      refine lv_goto (tgt := 34) hx hb dX5_bitsOf_56 (by decide) ?_
      exact hk34 h hS (lv_sub hl [2, 1, 0] rfl)
def wl_X5_bitsOf_34 (Q : Int32 → Prop) (n : Nat) : UInt32 → Int32 → Int32 → Prop := Nat.rec (motive := fun _ => UInt32 → Int32 → Int32 → Prop) (fun _ _ _ => False) (fun _ k => wb_X5_bitsOf_34 Q k) n
set_option maxHeartbeats 4000000 in
theorem wkl_X5_bitsOf_34 {p : Program} {l : Launch} {e : Env} {s : State} {m : MethodId} {args : Array Value} {below : List Frame} {meth : Method} {c : Code} {D : va_G} (C : Cx p s m args meth c RX5 cX5_bitsOf 4 (some FieldType.int) D []) {Q : Int32 → Prop}  : ∀ (n : Nat) {v1 : UInt32} {v2 : Int32} {v3 : Int32} {H : Heap} {locs : List Loc} {ls : Array Slot} (h : wl_X5_bitsOf_34 Q  n v1 v2 v3)  (hS : va_S (fun _ => False) s.heap H locs) (hl : lv_has ls 4 [(1, .float v1), (2, .int v2), (3, .int v3)]), W p l e rmX5_bitsOf s m args below meth c H locs 0 0 (MQ below (Qcg (PNi Q) (fun _ => False)) args s 0 0 (fun _ => False)) (F0 m 34 ls []) := by
  intro n
  induction n with
  | zero => intro v1 v2 v3 H locs ls h; exact h.elim
  | succ n ih =>
    intro v1 v2 v3 H locs ls h  hS hl
    exact wk_X5_bitsOf_34 C (fun h  hS hl => ih h  hS hl) h  hS hl
def wb_X5_bitsOf_32 (Q : Int32 → Prop) (v1 : UInt32) (v2 : Int32) : Prop := ∃ n, wl_X5_bitsOf_34 Q n v1 v2 (0 : Int32)
set_option maxHeartbeats 4000000 in
set_option maxRecDepth 100000 in
theorem wk_X5_bitsOf_32 {p : Program} {l : Launch} {e : Env} {s : State} {m : MethodId} {args : Array Value} {below : List Frame} {meth : Method} {c : Code} {D : va_G} (C : Cx p s m args meth c RX5 cX5_bitsOf 4 (some FieldType.int) D []) {Q : Int32 → Prop} {v1 : UInt32} {v2 : Int32} {H : Heap} {locs : List Loc} {ls : Array Slot} (h : wb_X5_bitsOf_32 Q v1 v2)  (hS : va_S (fun _ => False) s.heap H locs) (hl : lv_has ls 4 [(1, .float v1), (2, .int v2)]) : W p l e rmX5_bitsOf s m args below meth c H locs 0 0 (MQ below (Qcg (PNi Q) (fun _ => False)) args s 0 0 (fun _ => False)) (F0 m 32 ls []) := by
  have hx := C.1
  have hb := C.2.1
  refine lv_iconst (v := 0) hx hb dX5_bitsOf_32 (by decide) ?_
  refine lv_istore_n (lv' := [(3, .int (0 : Int32)), (1, .float v1), (2, .int v2)]) hx hb dX5_bitsOf_33 rfl hl (by decide) rfl (fun ls hl => ?_)
  obtain ⟨n, h⟩ := h
  exact wkl_X5_bitsOf_34 C n h hS (lv_sub hl [1, 2, 0] rfl)
def wb_X5_bitsOf_7 (Q : Int32 → Prop) (k7 : UInt32 → Int32 → Int32 → Prop) (v1 : UInt32) (v2 : Int32) (v3 : Int32) : Prop := (((126 : Int32) ≤ v3 → wb_X5_bitsOf_32 Q v1 v2) ∧ (¬ (126 : Int32) ≤ v3 → (((Op.cmpValue (FP.fcmp v1 FP.fconst2) CmpOp.l) < 0 → wb_X5_bitsOf_32 Q v1 v2) ∧ (¬ (Op.cmpValue (FP.fcmp v1 FP.fconst2) CmpOp.l) < 0 → (vf_n32 (FP.fdiv v1 FP.fconst2)) ∧ (∀ y22 : UInt32, y22 = (FP.fdiv v1 FP.fconst2) → (∀ y23 : Int32, y23 = v2 + (1 : Int32) → (∀ y26 : Int32, y26 = v3 + (1 : Int32) → (k7 y22 y23 y26))))))))
set_option maxHeartbeats 4000000 in
set_option maxRecDepth 100000 in
theorem wk_X5_bitsOf_7 {p : Program} {l : Launch} {e : Env} {s : State} {m : MethodId} {args : Array Value} {below : List Frame} {meth : Method} {c : Code} {D : va_G} (C : Cx p s m args meth c RX5 cX5_bitsOf 4 (some FieldType.int) D []) {Q : Int32 → Prop} {k7 : UInt32 → Int32 → Int32 → Prop} (hk7 : ∀ {v1 : UInt32} {v2 : Int32} {v3 : Int32} {H : Heap} {locs : List Loc} {ls : Array Slot}, k7 v1 v2 v3 → va_S (fun _ => False) s.heap H locs → lv_has ls 4 [(1, .float v1), (2, .int v2), (3, .int v3)] → W p l e rmX5_bitsOf s m args below meth c H locs 0 0 (MQ below (Qcg (PNi Q) (fun _ => False)) args s 0 0 (fun _ => False)) (F0 m 7 ls [])) {v1 : UInt32} {v2 : Int32} {v3 : Int32} {H : Heap} {locs : List Loc} {ls : Array Slot} (h : wb_X5_bitsOf_7 Q k7 v1 v2 v3)  (hS : va_S (fun _ => False) s.heap H locs) (hl : lv_has ls 4 [(1, .float v1), (2, .int v2), (3, .int v3)]) : W p l e rmX5_bitsOf s m args below meth c H locs 0 0 (MQ below (Qcg (PNi Q) (fun _ => False)) args s 0 0 (fun _ => False)) (F0 m 7 ls []) := by
  have hx := C.1
  have hb := C.2.1
  refine lv_iload_n hx hb dX5_bitsOf_7 rfl (lv_at hl 2 rfl) ?_
  refine lv_bipush (v := 126) hx hb dX5_bitsOf_8 (by decide) ?_
  refine lv_icmp_ge (tgt := 32) hx hb dX5_bitsOf_10 (by decide) (fun hc => ?_) (fun hc => ?_)
  · have h := h.1 hc
    exact wk_X5_bitsOf_32 C h hS (lv_sub hl [0, 1] rfl)
  · have h := h.2 hc
    refine lv_fload_n hx hb dX5_bitsOf_13 rfl (lv_at hl 0 rfl) ?_
    refine lv_fconst2 hx hb dX5_bitsOf_14 ?_
    refine lv_fcmp hx hb dX5_bitsOf_15 ?_
    refine lv_if_lt (tgt := 32) hx hb dX5_bitsOf_16 (by decide) (fun hc => ?_) (fun hc => ?_)
    · have h := h.1 hc
      exact wk_X5_bitsOf_32 C h hS (lv_sub hl [0, 1] rfl)
    · have h := h.2 hc
      refine lv_fload_n hx hb dX5_bitsOf_19 rfl (lv_at hl 0 rfl) ?_
      refine lv_fconst2 hx hb dX5_bitsOf_20 ?_
      obtain ⟨hc, h⟩ := h
      refine lv_fdiv hx hb dX5_bitsOf_21 hc ?_
      refine lv_topf (fun y22 e22 => ?_)
      have h := h y22 e22
      refine lv_fstore_n (lv' := [(1, .float y22), (2, .int v2), (3, .int v3)]) hx hb dX5_bitsOf_22 rfl hl (by decide) rfl (fun ls hl => ?_)
      obtain ⟨y23, e23⟩ : ∃ y : Int32, y = v2 + (1 : Int32) := ⟨_, rfl⟩
      have h := h y23 e23
      refine lv_iinc (v := y23) (lv' := [(2, .int y23), (1, .float y22), (3, .int v3)]) hx hb dX5_bitsOf_23 hl (k := 1) rfl (by rw [e23]; rfl) (by decide) rfl (fun ls hl => ?_)
      obtain ⟨y26, e26⟩ : ∃ y : Int32, y = v3 + (1 : Int32) := ⟨_, rfl⟩
      have h := h y26 e26
      refine lv_iinc (v := y26) (lv' := [(3, .int y26), (2, .int y23), (1, .float y22)]) hx hb dX5_bitsOf_26 hl (k := 2) rfl (by rw [e26]; rfl) (by decide) rfl (fun ls hl => ?_)
      refine lv_goto (tgt := 7) hx hb dX5_bitsOf_29 (by decide) ?_
      exact hk7 h hS (lv_sub hl [2, 1, 0] rfl)
def wl_X5_bitsOf_7 (Q : Int32 → Prop) (n : Nat) : UInt32 → Int32 → Int32 → Prop := Nat.rec (motive := fun _ => UInt32 → Int32 → Int32 → Prop) (fun _ _ _ => False) (fun _ k => wb_X5_bitsOf_7 Q k) n
set_option maxHeartbeats 4000000 in
theorem wkl_X5_bitsOf_7 {p : Program} {l : Launch} {e : Env} {s : State} {m : MethodId} {args : Array Value} {below : List Frame} {meth : Method} {c : Code} {D : va_G} (C : Cx p s m args meth c RX5 cX5_bitsOf 4 (some FieldType.int) D []) {Q : Int32 → Prop}  : ∀ (n : Nat) {v1 : UInt32} {v2 : Int32} {v3 : Int32} {H : Heap} {locs : List Loc} {ls : Array Slot} (h : wl_X5_bitsOf_7 Q  n v1 v2 v3)  (hS : va_S (fun _ => False) s.heap H locs) (hl : lv_has ls 4 [(1, .float v1), (2, .int v2), (3, .int v3)]), W p l e rmX5_bitsOf s m args below meth c H locs 0 0 (MQ below (Qcg (PNi Q) (fun _ => False)) args s 0 0 (fun _ => False)) (F0 m 7 ls []) := by
  intro n
  induction n with
  | zero => intro v1 v2 v3 H locs ls h; exact h.elim
  | succ n ih =>
    intro v1 v2 v3 H locs ls h  hS hl
    exact wk_X5_bitsOf_7 C (fun h  hS hl => ih h  hS hl) h  hS hl
def wp_X5_bitsOf (x1 : UInt32) (Q : Int32 → Prop) : Prop := ∃ n, wl_X5_bitsOf_7 Q n x1 (127 : Int32) (0 : Int32)
set_option maxHeartbeats 4000000 in
set_option maxRecDepth 100000 in
theorem ct_X5_bitsOf (l : Launch) (D : va_G)    {x1 : UInt32} {Q : Int32 → Prop} (h : wp_X5_bitsOf  x1 Q) : Ct l yX5_bitsOf cX5_bitsOf 4 (some FieldType.int) rmX5_bitsOf D [] (fun _ => True) [.float x1] (fun _ => False) (PNi Q) := by
  refine Ct.of (by decide) (Nat.le_of_ble_eq_true rfl) ?_
  intro p e s m below meth c ls C hP hl
  have hl : lv_has ls 4 [(0, .float x1)] := hl
  have hS : va_S (fun _ => False) s.heap s.heap [] := va_S.rf
  have hx := C.1
  have hb := C.2.1
  refine lv_fload_n hx hb dX5_bitsOf_0 rfl (lv_at hl 0 rfl) ?_
  refine lv_fstore_n (lv' := [(1, .float x1), (0, .float x1)]) hx hb dX5_bitsOf_1 rfl hl (by decide) rfl (fun ls hl => ?_)
  refine lv_bipush (v := 127) hx hb dX5_bitsOf_2 (by decide) ?_
  refine lv_istore_n (lv' := [(2, .int (127 : Int32)), (1, .float x1), (0, .float x1)]) hx hb dX5_bitsOf_4 rfl hl (by decide) rfl (fun ls hl => ?_)
  refine lv_iconst (v := 0) hx hb dX5_bitsOf_5 (by decide) ?_
  refine lv_istore_n (lv' := [(3, .int (0 : Int32)), (2, .int (127 : Int32)), (1, .float x1), (0, .float x1)]) hx hb dX5_bitsOf_6 rfl hl (by decide) rfl (fun ls hl => ?_)
  obtain ⟨n, h⟩ := h
  exact wkl_X5_bitsOf_7 C n h hS (lv_sub hl [2, 1, 0] rfl)
abbrev rmX6_within : Room := { frames := 0, cells := 0, slots := 0, locals := 0 }
def wb_X6_within_15 (Q : Int32 → Prop) (t0 : Int32) : Prop := (bz t0) ∧ (Q t0)
set_option maxHeartbeats 4000000 in
set_option maxRecDepth 100000 in
theorem wk_X6_within_15 {p : Program} {l : Launch} {e : Env} {s : State} {m : MethodId} {args : Array Value} {below : List Frame} {meth : Method} {c : Code} {D : va_G} (C : Cx p s m args meth c RX6 cX6_within 3 (some FieldType.boolean) D []) {Q : Int32 → Prop} {t0 : Int32} {H : Heap} {locs : List Loc} {ls : Array Slot} (h : wb_X6_within_15 Q t0)  (hS : va_S (fun _ => False) s.heap H locs) (hl : lv_has ls 3 []) : W p l e rmX6_within s m args below meth c H locs 0 0 (MQ below (Qcg (PNi Q) (fun _ => False)) args s 0 0 (fun _ => False)) (F0 m 15 ls [.int t0]) := by
  have hx := C.1
  have hb := C.2.1
  obtain ⟨hc, h⟩ := h
  exact endZ C hS hc ⟨_, rfl, h⟩ dX6_within_15
def wb_X6_within_14 (Q : Int32 → Prop) : Prop := wb_X6_within_15 Q (0 : Int32)
set_option maxHeartbeats 4000000 in
set_option maxRecDepth 100000 in
theorem wk_X6_within_14 {p : Program} {l : Launch} {e : Env} {s : State} {m : MethodId} {args : Array Value} {below : List Frame} {meth : Method} {c : Code} {D : va_G} (C : Cx p s m args meth c RX6 cX6_within 3 (some FieldType.boolean) D []) {Q : Int32 → Prop}  {H : Heap} {locs : List Loc} {ls : Array Slot} (h : wb_X6_within_14 Q)  (hS : va_S (fun _ => False) s.heap H locs) (hl : lv_has ls 3 []) : W p l e rmX6_within s m args below meth c H locs 0 0 (MQ below (Qcg (PNi Q) (fun _ => False)) args s 0 0 (fun _ => False)) (F0 m 14 ls []) := by
  have hx := C.1
  have hb := C.2.1
  refine lv_iconst (v := 0) hx hb dX6_within_14 (by decide) ?_
  exact wk_X6_within_15 C h hS (lv_sub hl [] rfl)
def wp_X6_within (x1 : Int32) (x2 : Int32) (x3 : Int32) (Q : Int32 → Prop) : Prop := ((x1 < x2 → wb_X6_within_14 Q ) ∧ (¬ x1 < x2 → ((x3 < x1 → wb_X6_within_14 Q ) ∧ (¬ x3 < x1 → wb_X6_within_15 Q (1 : Int32)))))
set_option maxHeartbeats 4000000 in
set_option maxRecDepth 100000 in
theorem ct_X6_within (l : Launch) (D : va_G)    {x1 : Int32} {x2 : Int32} {x3 : Int32} {Q : Int32 → Prop} (h : wp_X6_within  x1 x2 x3 Q) : Ct l yX6_within cX6_within 3 (some FieldType.boolean) rmX6_within D [] (fun _ => True) [.int x1, .int x2, .int x3] (fun _ => False) (PNi Q) := by
  refine Ct.of (by decide) (Nat.le_of_ble_eq_true rfl) ?_
  intro p e s m below meth c ls C hP hl
  have hl : lv_has ls 3 [(0, .int x1), (1, .int x2), (2, .int x3)] := hl
  have hS : va_S (fun _ => False) s.heap s.heap [] := va_S.rf
  have hx := C.1
  have hb := C.2.1
  refine lv_iload_n hx hb dX6_within_0 rfl (lv_at hl 0 rfl) ?_
  refine lv_iload_n hx hb dX6_within_1 rfl (lv_at hl 1 rfl) ?_
  refine lv_icmp_lt (tgt := 14) hx hb dX6_within_2 (by decide) (fun hc => ?_) (fun hc => ?_)
  · have h := h.1 hc
    exact wk_X6_within_14 C h hS (lv_sub hl [] rfl)
  · have h := h.2 hc
    refine lv_iload_n hx hb dX6_within_5 rfl (lv_at hl 0 rfl) ?_
    refine lv_iload_n hx hb dX6_within_6 rfl (lv_at hl 2 rfl) ?_
    refine lv_icmp_gt (tgt := 14) hx hb dX6_within_7 (by decide) (fun hc => ?_) (fun hc => ?_)
    · have h := h.1 hc
      exact wk_X6_within_14 C h hS (lv_sub hl [] rfl)
    · have h := h.2 hc
      refine lv_iconst (v := 1) hx hb dX6_within_10 (by decide) ?_
      refine lv_goto (tgt := 15) hx hb dX6_within_11 (by decide) ?_
      exact wk_X6_within_15 C h hS (lv_sub hl [] rfl)
abbrev rmX6_check : Room := { frames := 0, cells := 0, slots := 0, locals := 0 }
def wp_X6_check (x1 : Int32) (Q : Int32 → Prop) : Prop := Q ((x1 + (85 : Int32)) - (x1 + (85 : Int32)) / (251 : Int32) * (251 : Int32))
set_option maxHeartbeats 4000000 in
set_option maxRecDepth 100000 in
theorem ct_X6_check (l : Launch) (D : va_G)    {x1 : Int32} {Q : Int32 → Prop} (h : wp_X6_check  x1 Q) : Ct l yX6_check cX6_check 1 (some FieldType.int) rmX6_check D [] (fun _ => True) [.int x1] (fun _ => False) (PNi Q) := by
  refine Ct.of (by decide) (Nat.le_of_ble_eq_true rfl) ?_
  intro p e s m below meth c ls C hP hl
  have hl : lv_has ls 1 [(0, .int x1)] := hl
  have hS : va_S (fun _ => False) s.heap s.heap [] := va_S.rf
  have hx := C.1
  have hb := C.2.1
  refine lv_iload_n hx hb dX6_check_0 rfl (lv_at hl 0 rfl) ?_
  refine lv_bipush (v := 85) hx hb dX6_check_1 (by decide) ?_
  refine lv_iadd hx hb dX6_check_3 ?_
  refine lv_sipush (v := 251) hx hb dX6_check_4 (by decide) ?_
  refine lv_irem hx hb dX6_check_7 (by decide) ?_
  exact endI C hS ⟨_, rfl, h⟩ dX6_check_8
abbrev rmJ6_numberOfLeadingZeros_0f7a4 : Room := { frames := 0, cells := 0, slots := 0, locals := 0 }
def wb_J6_numberOfLeadingZeros_0f7a4_73 (Q : Int32 → Prop) (v0 : Int32) (v1 : Int32) : Prop := Q (v1 - ((v0).toUInt32 >>> (((1 : Int32)).toUInt32 &&& Int32.toUInt32 31)).toInt32)
set_option maxHeartbeats 4000000 in
set_option maxRecDepth 100000 in
theorem wk_J6_numberOfLeadingZeros_0f7a4_73 {p : Program} {l : Launch} {e : Env} {s : State} {m : MethodId} {args : Array Value} {below : List Frame} {meth : Method} {c : Code} {D : va_G} (C : Cx p s m args meth c RJ6 cJ6_numberOfLeadingZeros_0f7a4 2 (some FieldType.int) D []) {Q : Int32 → Prop} {v0 : Int32} {v1 : Int32} {H : Heap} {locs : List Loc} {ls : Array Slot} (h : wb_J6_numberOfLeadingZeros_0f7a4_73 Q v0 v1)  (hS : va_S (fun _ => False) s.heap H locs) (hl : lv_has ls 2 [(0, .int v0), (1, .int v1)]) : W p l e rmJ6_numberOfLeadingZeros_0f7a4 s m args below meth c H locs 0 0 (MQ below (Qcg (PNi Q) (fun _ => False)) args s 0 0 (fun _ => False)) (F0 m 73 ls []) := by
  have hx := C.1
  have hb := C.2.1
  refine lv_iload_n hx hb dJ6_numberOfLeadingZeros_0f7a4_73 rfl (lv_at hl 1 rfl) ?_
  refine lv_iload_n hx hb dJ6_numberOfLeadingZeros_0f7a4_74 rfl (lv_at hl 0 rfl) ?_
  refine lv_iconst (v := 1) hx hb dJ6_numberOfLeadingZeros_0f7a4_75 (by decide) ?_
  refine lv_iushr hx hb dJ6_numberOfLeadingZeros_0f7a4_76 rfl ?_
  refine lv_isub hx hb dJ6_numberOfLeadingZeros_0f7a4_77 ?_
  exact endI C hS ⟨_, rfl, h⟩ dJ6_numberOfLeadingZeros_0f7a4_78
def wb_J6_numberOfLeadingZeros_0f7a4_61 (Q : Int32 → Prop) (v0 : Int32) (v1 : Int32) : Prop := ((v0 < (4 : Int32) → wb_J6_numberOfLeadingZeros_0f7a4_73 Q v0 v1) ∧ (¬ v0 < (4 : Int32) → ∀ y66 : Int32, y66 = v1 + (-2 : Int32) → (∀ y72 : Int32, y72 = ((v0).toUInt32 >>> (((2 : Int32)).toUInt32 &&& Int32.toUInt32 31)).toInt32 → (wb_J6_numberOfLeadingZeros_0f7a4_73 Q y72 y66))))
set_option maxHeartbeats 4000000 in
set_option maxRecDepth 100000 in
theorem wk_J6_numberOfLeadingZeros_0f7a4_61 {p : Program} {l : Launch} {e : Env} {s : State} {m : MethodId} {args : Array Value} {below : List Frame} {meth : Method} {c : Code} {D : va_G} (C : Cx p s m args meth c RJ6 cJ6_numberOfLeadingZeros_0f7a4 2 (some FieldType.int) D []) {Q : Int32 → Prop} {v0 : Int32} {v1 : Int32} {H : Heap} {locs : List Loc} {ls : Array Slot} (h : wb_J6_numberOfLeadingZeros_0f7a4_61 Q v0 v1)  (hS : va_S (fun _ => False) s.heap H locs) (hl : lv_has ls 2 [(0, .int v0), (1, .int v1)]) : W p l e rmJ6_numberOfLeadingZeros_0f7a4 s m args below meth c H locs 0 0 (MQ below (Qcg (PNi Q) (fun _ => False)) args s 0 0 (fun _ => False)) (F0 m 61 ls []) := by
  have hx := C.1
  have hb := C.2.1
  refine lv_iload_n hx hb dJ6_numberOfLeadingZeros_0f7a4_61 rfl (lv_at hl 0 rfl) ?_
  refine lv_iconst (v := 4) hx hb dJ6_numberOfLeadingZeros_0f7a4_62 (by decide) ?_
  refine lv_icmp_lt (tgt := 73) hx hb dJ6_numberOfLeadingZeros_0f7a4_63 (by decide) (fun hc => ?_) (fun hc => ?_)
  · have h := h.1 hc
    exact wk_J6_numberOfLeadingZeros_0f7a4_73 C h hS (lv_sub hl [0, 1] rfl)
  · have h := h.2 hc
    obtain ⟨y66, e66⟩ : ∃ y : Int32, y = v1 + (-2 : Int32) := ⟨_, rfl⟩
    have h := h y66 e66
    refine lv_iinc (v := y66) (lv' := [(1, .int y66), (0, .int v0)]) hx hb dJ6_numberOfLeadingZeros_0f7a4_66 hl (k := 1) rfl (by rw [e66]; rfl) (by decide) rfl (fun ls hl => ?_)
    refine lv_iload_n hx hb dJ6_numberOfLeadingZeros_0f7a4_69 rfl (lv_at hl 1 rfl) ?_
    refine lv_iconst (v := 2) hx hb dJ6_numberOfLeadingZeros_0f7a4_70 (by decide) ?_
    refine lv_iushr hx hb dJ6_numberOfLeadingZeros_0f7a4_71 rfl ?_
    refine lv_topi (fun y72 e72 => ?_)
    have h := h y72 e72
    refine lv_istore_n (lv' := [(0, .int y72), (1, .int y66)]) hx hb dJ6_numberOfLeadingZeros_0f7a4_72 rfl hl (by decide) rfl (fun ls hl => ?_)
    exact wk_J6_numberOfLeadingZeros_0f7a4_73 C h hS (lv_sub hl [0, 1] rfl)
def wb_J6_numberOfLeadingZeros_0f7a4_48 (Q : Int32 → Prop) (v0 : Int32) (v1 : Int32) : Prop := ((v0 < (16 : Int32) → wb_J6_numberOfLeadingZeros_0f7a4_61 Q v0 v1) ∧ (¬ v0 < (16 : Int32) → ∀ y54 : Int32, y54 = v1 + (-4 : Int32) → (∀ y60 : Int32, y60 = ((v0).toUInt32 >>> (((4 : Int32)).toUInt32 &&& Int32.toUInt32 31)).toInt32 → (wb_J6_numberOfLeadingZeros_0f7a4_61 Q y60 y54))))
set_option maxHeartbeats 4000000 in
set_option maxRecDepth 100000 in
theorem wk_J6_numberOfLeadingZeros_0f7a4_48 {p : Program} {l : Launch} {e : Env} {s : State} {m : MethodId} {args : Array Value} {below : List Frame} {meth : Method} {c : Code} {D : va_G} (C : Cx p s m args meth c RJ6 cJ6_numberOfLeadingZeros_0f7a4 2 (some FieldType.int) D []) {Q : Int32 → Prop} {v0 : Int32} {v1 : Int32} {H : Heap} {locs : List Loc} {ls : Array Slot} (h : wb_J6_numberOfLeadingZeros_0f7a4_48 Q v0 v1)  (hS : va_S (fun _ => False) s.heap H locs) (hl : lv_has ls 2 [(0, .int v0), (1, .int v1)]) : W p l e rmJ6_numberOfLeadingZeros_0f7a4 s m args below meth c H locs 0 0 (MQ below (Qcg (PNi Q) (fun _ => False)) args s 0 0 (fun _ => False)) (F0 m 48 ls []) := by
  have hx := C.1
  have hb := C.2.1
  refine lv_iload_n hx hb dJ6_numberOfLeadingZeros_0f7a4_48 rfl (lv_at hl 0 rfl) ?_
  refine lv_bipush (v := 16) hx hb dJ6_numberOfLeadingZeros_0f7a4_49 (by decide) ?_
  refine lv_icmp_lt (tgt := 61) hx hb dJ6_numberOfLeadingZeros_0f7a4_51 (by decide) (fun hc => ?_) (fun hc => ?_)
  · have h := h.1 hc
    exact wk_J6_numberOfLeadingZeros_0f7a4_61 C h hS (lv_sub hl [0, 1] rfl)
  · have h := h.2 hc
    obtain ⟨y54, e54⟩ : ∃ y : Int32, y = v1 + (-4 : Int32) := ⟨_, rfl⟩
    have h := h y54 e54
    refine lv_iinc (v := y54) (lv' := [(1, .int y54), (0, .int v0)]) hx hb dJ6_numberOfLeadingZeros_0f7a4_54 hl (k := 1) rfl (by rw [e54]; rfl) (by decide) rfl (fun ls hl => ?_)
    refine lv_iload_n hx hb dJ6_numberOfLeadingZeros_0f7a4_57 rfl (lv_at hl 1 rfl) ?_
    refine lv_iconst (v := 4) hx hb dJ6_numberOfLeadingZeros_0f7a4_58 (by decide) ?_
    refine lv_iushr hx hb dJ6_numberOfLeadingZeros_0f7a4_59 rfl ?_
    refine lv_topi (fun y60 e60 => ?_)
    have h := h y60 e60
    refine lv_istore_n (lv' := [(0, .int y60), (1, .int y54)]) hx hb dJ6_numberOfLeadingZeros_0f7a4_60 rfl hl (by decide) rfl (fun ls hl => ?_)
    exact wk_J6_numberOfLeadingZeros_0f7a4_61 C h hS (lv_sub hl [0, 1] rfl)
def wb_J6_numberOfLeadingZeros_0f7a4_33 (Q : Int32 → Prop) (v0 : Int32) (v1 : Int32) : Prop := ((v0 < (256 : Int32) → wb_J6_numberOfLeadingZeros_0f7a4_48 Q v0 v1) ∧ (¬ v0 < (256 : Int32) → ∀ y40 : Int32, y40 = v1 + (-8 : Int32) → (∀ y47 : Int32, y47 = ((v0).toUInt32 >>> (((8 : Int32)).toUInt32 &&& Int32.toUInt32 31)).toInt32 → (wb_J6_numberOfLeadingZeros_0f7a4_48 Q y47 y40))))
set_option maxHeartbeats 4000000 in
set_option maxRecDepth 100000 in
theorem wk_J6_numberOfLeadingZeros_0f7a4_33 {p : Program} {l : Launch} {e : Env} {s : State} {m : MethodId} {args : Array Value} {below : List Frame} {meth : Method} {c : Code} {D : va_G} (C : Cx p s m args meth c RJ6 cJ6_numberOfLeadingZeros_0f7a4 2 (some FieldType.int) D []) {Q : Int32 → Prop} {v0 : Int32} {v1 : Int32} {H : Heap} {locs : List Loc} {ls : Array Slot} (h : wb_J6_numberOfLeadingZeros_0f7a4_33 Q v0 v1)  (hS : va_S (fun _ => False) s.heap H locs) (hl : lv_has ls 2 [(0, .int v0), (1, .int v1)]) : W p l e rmJ6_numberOfLeadingZeros_0f7a4 s m args below meth c H locs 0 0 (MQ below (Qcg (PNi Q) (fun _ => False)) args s 0 0 (fun _ => False)) (F0 m 33 ls []) := by
  have hx := C.1
  have hb := C.2.1
  refine lv_iload_n hx hb dJ6_numberOfLeadingZeros_0f7a4_33 rfl (lv_at hl 0 rfl) ?_
  refine lv_sipush (v := 256) hx hb dJ6_numberOfLeadingZeros_0f7a4_34 (by decide) ?_
  refine lv_icmp_lt (tgt := 48) hx hb dJ6_numberOfLeadingZeros_0f7a4_37 (by decide) (fun hc => ?_) (fun hc => ?_)
  · have h := h.1 hc
    exact wk_J6_numberOfLeadingZeros_0f7a4_48 C h hS (lv_sub hl [0, 1] rfl)
  · have h := h.2 hc
    obtain ⟨y40, e40⟩ : ∃ y : Int32, y = v1 + (-8 : Int32) := ⟨_, rfl⟩
    have h := h y40 e40
    refine lv_iinc (v := y40) (lv' := [(1, .int y40), (0, .int v0)]) hx hb dJ6_numberOfLeadingZeros_0f7a4_40 hl (k := 1) rfl (by rw [e40]; rfl) (by decide) rfl (fun ls hl => ?_)
    refine lv_iload_n hx hb dJ6_numberOfLeadingZeros_0f7a4_43 rfl (lv_at hl 1 rfl) ?_
    refine lv_bipush (v := 8) hx hb dJ6_numberOfLeadingZeros_0f7a4_44 (by decide) ?_
    refine lv_iushr hx hb dJ6_numberOfLeadingZeros_0f7a4_46 rfl ?_
    refine lv_topi (fun y47 e47 => ?_)
    have h := h y47 e47
    refine lv_istore_n (lv' := [(0, .int y47), (1, .int y40)]) hx hb dJ6_numberOfLeadingZeros_0f7a4_47 rfl hl (by decide) rfl (fun ls hl => ?_)
    exact wk_J6_numberOfLeadingZeros_0f7a4_48 C h hS (lv_sub hl [0, 1] rfl)
def wb_J6_numberOfLeadingZeros_0f7a4_14 (Q : Int32 → Prop) (t0 : Int32) : Prop := Q t0
set_option maxHeartbeats 4000000 in
set_option maxRecDepth 100000 in
theorem wk_J6_numberOfLeadingZeros_0f7a4_14 {p : Program} {l : Launch} {e : Env} {s : State} {m : MethodId} {args : Array Value} {below : List Frame} {meth : Method} {c : Code} {D : va_G} (C : Cx p s m args meth c RJ6 cJ6_numberOfLeadingZeros_0f7a4 2 (some FieldType.int) D []) {Q : Int32 → Prop} {t0 : Int32} {H : Heap} {locs : List Loc} {ls : Array Slot} (h : wb_J6_numberOfLeadingZeros_0f7a4_14 Q t0)  (hS : va_S (fun _ => False) s.heap H locs) (hl : lv_has ls 2 []) : W p l e rmJ6_numberOfLeadingZeros_0f7a4 s m args below meth c H locs 0 0 (MQ below (Qcg (PNi Q) (fun _ => False)) args s 0 0 (fun _ => False)) (F0 m 14 ls [.int t0]) := by
  have hx := C.1
  have hb := C.2.1
  exact endI C hS ⟨_, rfl, h⟩ dJ6_numberOfLeadingZeros_0f7a4_14
def wp_J6_numberOfLeadingZeros_0f7a4 (x1 : Int32) (Q : Int32 → Prop) : Prop := ((0 < x1 → ((x1 < (65536 : Int32) → wb_J6_numberOfLeadingZeros_0f7a4_33 Q x1 (31 : Int32)) ∧ (¬ x1 < (65536 : Int32) → ∀ y25 : Int32, y25 = (31 : Int32) + (-16 : Int32) → (∀ y32 : Int32, y32 = ((x1).toUInt32 >>> (((16 : Int32)).toUInt32 &&& Int32.toUInt32 31)).toInt32 → (wb_J6_numberOfLeadingZeros_0f7a4_33 Q y32 y25))))) ∧ (¬ 0 < x1 → ((¬ x1 = 0 → wb_J6_numberOfLeadingZeros_0f7a4_14 Q (0 : Int32)) ∧ (x1 = 0 → wb_J6_numberOfLeadingZeros_0f7a4_14 Q (32 : Int32)))))
set_option maxHeartbeats 4000000 in
set_option maxRecDepth 100000 in
theorem ct_J6_numberOfLeadingZeros_0f7a4 (l : Launch) (D : va_G)    {x1 : Int32} {Q : Int32 → Prop} (h : wp_J6_numberOfLeadingZeros_0f7a4  x1 Q) : Ct l yJ6_numberOfLeadingZeros_0f7a4 cJ6_numberOfLeadingZeros_0f7a4 2 (some FieldType.int) rmJ6_numberOfLeadingZeros_0f7a4 D [] (fun _ => True) [.int x1] (fun _ => False) (PNi Q) := by
  refine Ct.of (by decide) (Nat.le_of_ble_eq_true rfl) ?_
  intro p e s m below meth c ls C hP hl
  have hl : lv_has ls 2 [(0, .int x1)] := hl
  have hS : va_S (fun _ => False) s.heap s.heap [] := va_S.rf
  have hx := C.1
  have hb := C.2.1
  refine lv_iload_n hx hb dJ6_numberOfLeadingZeros_0f7a4_0 rfl (lv_at hl 0 rfl) ?_
  refine lv_if_gt (tgt := 15) hx hb dJ6_numberOfLeadingZeros_0f7a4_1 (by decide) (fun hc => ?_) (fun hc => ?_)
  · have h := h.1 hc
    refine lv_bipush (v := 31) hx hb dJ6_numberOfLeadingZeros_0f7a4_15 (by decide) ?_
    refine lv_istore_n (lv' := [(1, .int (31 : Int32)), (0, .int x1)]) hx hb dJ6_numberOfLeadingZeros_0f7a4_17 rfl hl (by decide) rfl (fun ls hl => ?_)
    refine lv_iload_n hx hb dJ6_numberOfLeadingZeros_0f7a4_18 rfl (lv_at hl 1 rfl) ?_
    refine lv_ldcw hx hb C.2.2.2.1 (C.2.2.2.2.2.2.1 _ wq_1183) dJ6_numberOfLeadingZeros_0f7a4_19 ?_
    refine lv_icmp_lt (tgt := 33) hx hb dJ6_numberOfLeadingZeros_0f7a4_22 (by decide) (fun hc => ?_) (fun hc => ?_)
    · have h := h.1 hc
      exact wk_J6_numberOfLeadingZeros_0f7a4_33 C h hS (lv_sub hl [1, 0] rfl)
    · have h := h.2 hc
      obtain ⟨y25, e25⟩ : ∃ y : Int32, y = (31 : Int32) + (-16 : Int32) := ⟨_, rfl⟩
      have h := h y25 e25
      refine lv_iinc (v := y25) (lv' := [(1, .int y25), (0, .int x1)]) hx hb dJ6_numberOfLeadingZeros_0f7a4_25 hl (k := 0) rfl (by rw [e25]; rfl) (by decide) rfl (fun ls hl => ?_)
      refine lv_iload_n hx hb dJ6_numberOfLeadingZeros_0f7a4_28 rfl (lv_at hl 1 rfl) ?_
      refine lv_bipush (v := 16) hx hb dJ6_numberOfLeadingZeros_0f7a4_29 (by decide) ?_
      refine lv_iushr hx hb dJ6_numberOfLeadingZeros_0f7a4_31 rfl ?_
      refine lv_topi (fun y32 e32 => ?_)
      have h := h y32 e32
      refine lv_istore_n (lv' := [(0, .int y32), (1, .int y25)]) hx hb dJ6_numberOfLeadingZeros_0f7a4_32 rfl hl (by decide) rfl (fun ls hl => ?_)
      exact wk_J6_numberOfLeadingZeros_0f7a4_33 C h hS (lv_sub hl [0, 1] rfl)
  · have h := h.2 hc
    refine lv_iload_n hx hb dJ6_numberOfLeadingZeros_0f7a4_4 rfl (lv_at hl 0 rfl) ?_
    refine lv_if_ne (tgt := 13) hx hb dJ6_numberOfLeadingZeros_0f7a4_5 (by decide) (fun hc => ?_) (fun hc => ?_)
    · have h := h.1 hc
      refine lv_iconst (v := 0) hx hb dJ6_numberOfLeadingZeros_0f7a4_13 (by decide) ?_
      exact wk_J6_numberOfLeadingZeros_0f7a4_14 C h hS (lv_sub hl [] rfl)
    · have h := h.2 hc
      refine lv_bipush (v := 32) hx hb dJ6_numberOfLeadingZeros_0f7a4_8 (by decide) ?_
      refine lv_goto (tgt := 14) hx hb dJ6_numberOfLeadingZeros_0f7a4_10 (by decide) ?_
      exact wk_J6_numberOfLeadingZeros_0f7a4_14 C h hS (lv_sub hl [] rfl)
abbrev rmJ6_highestOneBit_0f7a4 : Room := { frames := 1, cells := 0, slots := 0, locals := 21 }
def wp_J6_highestOneBit_0f7a4 (x1 : Int32) (Q : Int32 → Prop) : Prop := wp_J6_numberOfLeadingZeros_0f7a4 x1 (fun r4 => Q (x1 &&& (((-2147483648 : Int32)).toUInt32 >>> ((r4).toUInt32 &&& Int32.toUInt32 31)).toInt32))
set_option maxHeartbeats 4000000 in
set_option maxRecDepth 100000 in
theorem ct_J6_highestOneBit_0f7a4 (l : Launch) (D : va_G)    {x1 : Int32} {Q : Int32 → Prop} (h : wp_J6_highestOneBit_0f7a4  x1 Q) : Ct l yJ6_highestOneBit_0f7a4 cJ6_highestOneBit_0f7a4 1 (some FieldType.int) rmJ6_highestOneBit_0f7a4 D [] (fun _ => True) [.int x1] (fun _ => False) (PNi Q) := by
  refine Ct.of (by decide) (Nat.le_of_ble_eq_true rfl) ?_
  intro p e s m below meth c ls C hP hl
  have hl : lv_has ls 1 [(0, .int x1)] := hl
  have hS : va_S (fun _ => False) s.heap s.heap [] := va_S.rf
  have hx := C.1
  have hb := C.2.1
  refine lv_iload_n hx hb dJ6_highestOneBit_0f7a4_0 rfl (lv_at hl 0 rfl) ?_
  refine lv_ldc hx hb C.2.2.2.1 (C.2.2.2.2.2.2.1 _ wq_1179) dJ6_highestOneBit_0f7a4_1 ?_
  refine lv_iload_n hx hb dJ6_highestOneBit_0f7a4_3 rfl (lv_at hl 0 rfl) ?_
  refine kNi (rnS C (ct_J6_numberOfLeadingZeros_0f7a4 l D h) ys_J6_numberOfLeadingZeros_0f7a4 wq_1180 ⟨rfl, rfl⟩ ⟨Nat.le_of_ble_eq_true rfl, Nat.le_of_ble_eq_true rfl⟩ ⟨Nat.zero_le _, Nat.zero_le _⟩ trivial hl.1 rfl rfl (Nat.le_of_ble_eq_true rfl) dJ6_highestOneBit_0f7a4_4) hS (fun _ h => h.elim) (fun r4 H locs h hk hS => ?_)
  refine lv_iushr hx hb dJ6_highestOneBit_0f7a4_7 rfl ?_
  refine lv_iand hx hb dJ6_highestOneBit_0f7a4_8 ?_
  exact endI C hS ⟨_, rfl, h⟩ dJ6_highestOneBit_0f7a4_9
abbrev rmJxf58ca_isNaN_12338 : Room := { frames := 0, cells := 0, slots := 0, locals := 0 }
def wb_Jxf58ca_isNaN_12338_11 (Q : Int32 → Prop) (t0 : Int32) : Prop := (bz t0) ∧ (Q t0)
set_option maxHeartbeats 4000000 in
set_option maxRecDepth 100000 in
theorem wk_Jxf58ca_isNaN_12338_11 {p : Program} {l : Launch} {e : Env} {s : State} {m : MethodId} {args : Array Value} {below : List Frame} {meth : Method} {c : Code} {D : va_G} (C : Cx p s m args meth c RJxf58ca cJxf58ca_isNaN_12338 1 (some FieldType.boolean) D []) {Q : Int32 → Prop} {t0 : Int32} {H : Heap} {locs : List Loc} {ls : Array Slot} (h : wb_Jxf58ca_isNaN_12338_11 Q t0)  (hS : va_S (fun _ => False) s.heap H locs) (hl : lv_has ls 1 []) : W p l e rmJxf58ca_isNaN_12338 s m args below meth c H locs 0 0 (MQ below (Qcg (PNi Q) (fun _ => False)) args s 0 0 (fun _ => False)) (F0 m 11 ls [.int t0]) := by
  have hx := C.1
  have hb := C.2.1
  obtain ⟨hc, h⟩ := h
  exact endZ C hS hc ⟨_, rfl, h⟩ dJxf58ca_isNaN_12338_11
def wp_Jxf58ca_isNaN_12338 (x1 : UInt32) (Q : Int32 → Prop) : Prop := (((Op.cmpValue (FP.fcmp x1 x1) CmpOp.l) = 0 → wb_Jxf58ca_isNaN_12338_11 Q (0 : Int32)) ∧ (¬ (Op.cmpValue (FP.fcmp x1 x1) CmpOp.l) = 0 → wb_Jxf58ca_isNaN_12338_11 Q (1 : Int32)))
set_option maxHeartbeats 4000000 in
set_option maxRecDepth 100000 in
theorem ct_Jxf58ca_isNaN_12338 (l : Launch) (D : va_G)    {x1 : UInt32} {Q : Int32 → Prop} (h : wp_Jxf58ca_isNaN_12338  x1 Q) : Ct l yJxf58ca_isNaN_12338 cJxf58ca_isNaN_12338 1 (some FieldType.boolean) rmJxf58ca_isNaN_12338 D [] (fun _ => True) [.float x1] (fun _ => False) (PNi Q) := by
  refine Ct.ofF (by decide +kernel) (Nat.le_of_ble_eq_true rfl) ?_
  intro p e s m below meth c ls C hP hl
  have hl : lv_has ls 1 [(0, .float x1)] := hl
  have hS : va_S (fun _ => False) s.heap s.heap [] := va_S.rf
  have hx := C.1
  have hb := C.2.1
  refine lv_fload_n hx hb dJxf58ca_isNaN_12338_0 rfl (lv_at hl 0 rfl) ?_
  refine lv_fload_n hx hb dJxf58ca_isNaN_12338_1 rfl (lv_at hl 0 rfl) ?_
  refine lv_fcmp hx hb dJxf58ca_isNaN_12338_2 ?_
  refine lv_if_eq (tgt := 10) hx hb dJxf58ca_isNaN_12338_3 (by decide) (fun hc => ?_) (fun hc => ?_)
  · have h := h.1 hc
    refine lv_iconst (v := 0) hx hb dJxf58ca_isNaN_12338_10 (by decide) ?_
    exact wk_Jxf58ca_isNaN_12338_11 C h hS (lv_sub hl [] rfl)
  · have h := h.2 hc
    refine lv_iconst (v := 1) hx hb dJxf58ca_isNaN_12338_6 (by decide) ?_
    refine lv_goto (tgt := 11) hx hb dJxf58ca_isNaN_12338_7 (by decide) ?_
    exact wk_Jxf58ca_isNaN_12338_11 C h hS (lv_sub hl [] rfl)
abbrev rmJxf58ca_floatToIntBits_5c35a : Room := { frames := 1, cells := 0, slots := 0, locals := 20 }
def wp_Jxf58ca_floatToIntBits_5c35a (x1 : UInt32) (Q : Int32 → Prop) : Prop := wp_Jxf58ca_isNaN_12338 x1 (fun r1 => ((¬ r1 = 0 → Q (2143289344 : Int32)) ∧ (r1 = 0 → Q (x1).toInt32)))
set_option maxHeartbeats 4000000 in
set_option maxRecDepth 100000 in
theorem ct_Jxf58ca_floatToIntBits_5c35a (l : Launch) (D : va_G)    {x1 : UInt32} {Q : Int32 → Prop} (h : wp_Jxf58ca_floatToIntBits_5c35a  x1 Q) : Ct l yJxf58ca_floatToIntBits_5c35a cJxf58ca_floatToIntBits_5c35a 1 (some FieldType.int) rmJxf58ca_floatToIntBits_5c35a D [] (fun _ => True) [.float x1] (fun _ => False) (PNi Q) := by
  refine Ct.ofF (by decide +kernel) (Nat.le_of_ble_eq_true rfl) ?_
  intro p e s m below meth c ls C hP hl
  have hl : lv_has ls 1 [(0, .float x1)] := hl
  have hS : va_S (fun _ => False) s.heap s.heap [] := va_S.rf
  have hx := C.1
  have hb := C.2.1
  refine lv_fload_n hx hb dJxf58ca_floatToIntBits_5c35a_0 rfl (lv_at hl 0 rfl) ?_
  refine kNi (rnS C (ct_Jxf58ca_isNaN_12338 l D h) ys_Jxf58ca_isNaN_12338 wq_1289 ⟨rfl, rfl⟩ ⟨Nat.le_of_ble_eq_true rfl, Nat.le_of_ble_eq_true rfl⟩ ⟨Nat.zero_le _, Nat.zero_le _⟩ trivial hl.1 rfl rfl (Nat.le_of_ble_eq_true rfl) dJxf58ca_floatToIntBits_5c35a_1) hS (fun _ h => h.elim) (fun r1 H locs h hk hS => ?_)
  refine lv_if_ne (tgt := 12) hx hb dJxf58ca_floatToIntBits_5c35a_4 (by decide) (fun hc => ?_) (fun hc => ?_)
  · have h := h.1 hc
    refine lv_ldc hx hb C.2.2.2.1 (C.2.2.2.2.2.2.1 _ wq_1295) dJxf58ca_floatToIntBits_5c35a_12 ?_
    exact endI C hS ⟨_, rfl, h⟩ dJxf58ca_floatToIntBits_5c35a_14
  · have h := h.2 hc
    refine lv_fload_n hx hb dJxf58ca_floatToIntBits_5c35a_7 rfl (lv_at hl 0 rfl) ?_
    refine vn_f2i hx hb (by rw [C.2.2.1]; exact hl.1.symm) C.2.2.2.1 (C.2.2.2.2.2.2.1 _ wq_1292) (C.2.2.2.2.2.2.1 _ wq_1294) (C.2.2.2.2.2.2.1 _ wq_1293) (C.2.2.2.2.2.2.1 _ wq_147) (Nat.le_of_ble_eq_true rfl) (Nat.le_of_ble_eq_true rfl) dJxf58ca_floatToIntBits_5c35a_8 ?_
    exact endI C hS ⟨_, rfl, h⟩ dJxf58ca_floatToIntBits_5c35a_11
