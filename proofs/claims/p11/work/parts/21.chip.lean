abbrev rmX0_start : Room := { frames := 0, cells := 0, slots := 0, locals := 0 }
def wp_X0_start (σ : Rg) (μ : Ar) (Q : Rg → Ar → Prop) : Prop := ∀ σ2 : Rg, σ2 = upd σ 15 (1 : Int32) → (∀ σ7 : Rg, σ7 = upd σ2 16 (0 : Int32) → (Q σ7 μ))
set_option maxHeartbeats 4000000 in
set_option maxRecDepth 100000 in
theorem ct_X0_start (l : Launch) (D : va_G) (cy : ClassId) (Ad : Nat → Nat) (hap : apt 18 Ad) {σ : Rg} {μ : Ar}  {Q : Rg → Ar → Prop} (h : wp_X0_start σ μ  Q) : Ct l yX0_start cX0_start 1 (none : Option FieldType) rmX0_start D [(cy, .int)] (fun H => va_P D vwCl (wS Ad cy σ μ) H) [.ref (Ad 12)] (AS 18 Ad) (PWv (wS Ad cy) D Q) := by
  refine Ct.of (by decide) (Nat.le_of_ble_eq_true rfl) ?_
  intro p e s m below meth c ls C hP hl
  have hl : lv_has ls 1 [(0, .ref (Ad 12))] := hl
  have hS : va_S (AS 18 Ad) s.heap s.heap [] := va_S.rf
  have hx := C.1
  have hb := C.2.1
  refine lv_aload_n hx hb dX0_start_0 rfl (lv_at hl 0 rfl) ?_
  refine lv_iconst (v := 1) hx hb dX0_start_1 (by decide) ?_
  refine pS_change_begun C hap (fun _ h => h) hP hS bz1 (C.2.2.2.2.2.2.1 _ wq_266) dX0_start_2 (fun H locs hP hS => ?_)
  obtain ⟨σ2, e2⟩ : ∃ z : Rg, z = upd σ 15 (1 : Int32) := ⟨_, rfl⟩
  have hP : va_P D vwCl (wS Ad cy σ2 μ) H := by rw [e2]; exact hP
  have h := h σ2 e2
  refine lv_aload_n hx hb dX0_start_5 rfl (lv_at hl 0 rfl) ?_
  refine lv_iconst (v := 0) hx hb dX0_start_6 (by decide) ?_
  refine pS_change_told C hap (fun _ h => h) hP hS (C.2.2.2.2.2.2.1 _ wq_269) dX0_start_7 (fun H locs hP hS => ?_)
  obtain ⟨σ7, e7⟩ : ∃ z : Rg, z = upd σ2 16 (0 : Int32) := ⟨_, rfl⟩
  have hP : va_P D vwCl (wS Ad cy σ7 μ) H := by rw [e7]; exact hP
  have h := h σ7 e7
  exact endV C hS ⟨_, _, rfl, h, hP⟩ dX0_start_10
abbrev rmX0_forget : Room := { frames := 0, cells := 0, slots := 0, locals := 0 }
def wp_X0_forget (σ : Rg) (μ : Ar) (Q : Rg → Ar → Prop) : Prop := ∀ σ2 : Rg, σ2 = upd σ 15 (0 : Int32) → (∀ σ7 : Rg, σ7 = upd σ2 16 (0 : Int32) → (Q σ7 μ))
set_option maxHeartbeats 4000000 in
set_option maxRecDepth 100000 in
theorem ct_X0_forget (l : Launch) (D : va_G) (cy : ClassId) (Ad : Nat → Nat) (hap : apt 18 Ad) {σ : Rg} {μ : Ar}  {Q : Rg → Ar → Prop} (h : wp_X0_forget σ μ  Q) : Ct l yX0_forget cX0_forget 1 (none : Option FieldType) rmX0_forget D [(cy, .int)] (fun H => va_P D vwCl (wS Ad cy σ μ) H) [.ref (Ad 12)] (AS 18 Ad) (PWv (wS Ad cy) D Q) := by
  refine Ct.of (by decide) (Nat.le_of_ble_eq_true rfl) ?_
  intro p e s m below meth c ls C hP hl
  have hl : lv_has ls 1 [(0, .ref (Ad 12))] := hl
  have hS : va_S (AS 18 Ad) s.heap s.heap [] := va_S.rf
  have hx := C.1
  have hb := C.2.1
  refine lv_aload_n hx hb dX0_forget_0 rfl (lv_at hl 0 rfl) ?_
  refine lv_iconst (v := 0) hx hb dX0_forget_1 (by decide) ?_
  refine pS_change_begun C hap (fun _ h => h) hP hS bz0 (C.2.2.2.2.2.2.1 _ wq_266) dX0_forget_2 (fun H locs hP hS => ?_)
  obtain ⟨σ2, e2⟩ : ∃ z : Rg, z = upd σ 15 (0 : Int32) := ⟨_, rfl⟩
  have hP : va_P D vwCl (wS Ad cy σ2 μ) H := by rw [e2]; exact hP
  have h := h σ2 e2
  refine lv_aload_n hx hb dX0_forget_5 rfl (lv_at hl 0 rfl) ?_
  refine lv_iconst (v := 0) hx hb dX0_forget_6 (by decide) ?_
  refine pS_change_told C hap (fun _ h => h) hP hS (C.2.2.2.2.2.2.1 _ wq_269) dX0_forget_7 (fun H locs hP hS => ?_)
  obtain ⟨σ7, e7⟩ : ∃ z : Rg, z = upd σ2 16 (0 : Int32) := ⟨_, rfl⟩
  have hP : va_P D vwCl (wS Ad cy σ7 μ) H := by rw [e7]; exact hP
  have h := h σ7 e7
  exact endV C hS ⟨_, _, rfl, h, hP⟩ dX0_forget_10
abbrev rmX0_find : Room := { frames := 0, cells := 0, slots := 0, locals := 0 }
def wb_X0_find_2 (Q : Int32 → Rg → Ar → Prop) (k2 : Rg → Ar → Int32 → Int32 → Prop) (σ : Rg) (μ : Ar) (v1 : Int32) (v2 : Int32) : Prop := (((σ 16) ≤ v2 → Q (-1 : Int32) σ μ) ∧ (¬ (σ 16) ≤ v2 → (vp_in v2 8) ∧ (((¬ (μ 9 (v2).toNatClampNeg) = v1 → ∀ y22 : Int32, y22 = v2 + (1 : Int32) → (k2 σ μ v1 y22)) ∧ ((μ 9 (v2).toNatClampNeg) = v1 → Q v2 σ μ)))))
set_option maxHeartbeats 4000000 in
set_option maxRecDepth 100000 in
theorem wk_X0_find_2 {p : Program} {l : Launch} {e : Env} {s : State} {m : MethodId} {args : Array Value} {below : List Frame} {meth : Method} {c : Code} {D : va_G} {cy : ClassId} {Ad : Nat → Nat} (C : Cx p s m args meth c RX0 cX0_find 3 (some FieldType.int) D [(cy, .int)]) (hap : apt 18 Ad) {Q : Int32 → Rg → Ar → Prop} {k2 : Rg → Ar → Int32 → Int32 → Prop} (hk2 : ∀ {σ : Rg} {μ : Ar} {v1 : Int32} {v2 : Int32} {H : Heap} {locs : List Loc} {ls : Array Slot}, k2 σ μ v1 v2 → va_P D vwCl (wS Ad cy σ μ) H → va_S (AS 18 Ad) s.heap H locs → lv_has ls 3 [(0, .ref (Ad 12)), (1, .int v1), (2, .int v2)] → W p l e rmX0_find s m args below meth c H locs 0 0 (MQ below (Qcg (PWi (wS Ad cy) D Q) (AS 18 Ad)) args s 0 0 (AS 18 Ad)) (F0 m 2 ls [])) {σ : Rg} {μ : Ar} {v1 : Int32} {v2 : Int32} {H : Heap} {locs : List Loc} {ls : Array Slot} (h : wb_X0_find_2 Q k2 σ μ v1 v2) (hP : va_P D vwCl (wS Ad cy σ μ) H) (hS : va_S (AS 18 Ad) s.heap H locs) (hl : lv_has ls 3 [(0, .ref (Ad 12)), (1, .int v1), (2, .int v2)]) : W p l e rmX0_find s m args below meth c H locs 0 0 (MQ below (Qcg (PWi (wS Ad cy) D Q) (AS 18 Ad)) args s 0 0 (AS 18 Ad)) (F0 m 2 ls []) := by
  have hx := C.1
  have hb := C.2.1
  refine lv_iload_n hx hb dX0_find_2 rfl (lv_at hl 2 rfl) ?_
  refine lv_aload_n hx hb dX0_find_3 rfl (lv_at hl 0 rfl) ?_
  refine gS_change_told C hP (C.2.2.2.2.2.2.1 _ wq_269) dX0_find_4 ?_
  refine lv_icmp_ge (tgt := 28) hx hb dX0_find_7 (by decide) (fun hc => ?_) (fun hc => ?_)
  · have h := h.1 hc
    refine lv_iconst (v := -1) hx hb dX0_find_28 (by decide) ?_
    exact endI C hS ⟨_, _, _, rfl, h, hP⟩ dX0_find_29
  · have h := h.2 hc
    refine lv_aload_n hx hb dX0_find_10 rfl (lv_at hl 0 rfl) ?_
    refine gS_change_labels C hP (C.2.2.2.2.2.2.1 _ wq_260) dX0_find_11 ?_
    refine lv_iload_n hx hb dX0_find_14 rfl (lv_at hl 2 rfl) ?_
    obtain ⟨hc, h⟩ := h
    refine lS_9 C hP hc dX0_find_15 ?_
    refine lv_iload_n hx hb dX0_find_16 rfl (lv_at hl 1 rfl) ?_
    refine lv_icmp_ne (tgt := 22) hx hb dX0_find_17 (by decide) (fun hc => ?_) (fun hc => ?_)
    · have h := h.1 hc
      obtain ⟨y22, e22⟩ : ∃ y : Int32, y = v2 + (1 : Int32) := ⟨_, rfl⟩
      have h := h y22 e22
      refine lv_iinc (v := y22) (lv' := [(2, .int y22), (0, .ref (Ad 12)), (1, .int v1)]) hx hb dX0_find_22 hl (k := 2) rfl (by rw [e22]; rfl) (by decide) rfl (fun ls hl => ?_)
      refine lv_goto (tgt := 2) hx hb dX0_find_25 (by decide) ?_
      exact hk2 h hP hS (lv_sub hl [1, 2, 0] rfl)
    · have h := h.2 hc
      refine lv_iload_n hx hb dX0_find_20 rfl (lv_at hl 2 rfl) ?_
      exact endI C hS ⟨_, _, _, rfl, h, hP⟩ dX0_find_21
def wl_X0_find_2 (Q : Int32 → Rg → Ar → Prop) (n : Nat) : Rg → Ar → Int32 → Int32 → Prop := Nat.rec (motive := fun _ => Rg → Ar → Int32 → Int32 → Prop) (fun _ _ _ _ => False) (fun _ k => wb_X0_find_2 Q k) n
set_option maxHeartbeats 4000000 in
theorem wkl_X0_find_2 {p : Program} {l : Launch} {e : Env} {s : State} {m : MethodId} {args : Array Value} {below : List Frame} {meth : Method} {c : Code} {D : va_G} {cy : ClassId} {Ad : Nat → Nat} (C : Cx p s m args meth c RX0 cX0_find 3 (some FieldType.int) D [(cy, .int)]) (hap : apt 18 Ad) {Q : Int32 → Rg → Ar → Prop}  : ∀ (n : Nat) {σ : Rg} {μ : Ar} {v1 : Int32} {v2 : Int32} {H : Heap} {locs : List Loc} {ls : Array Slot} (h : wl_X0_find_2 Q  n σ μ v1 v2) (hP : va_P D vwCl (wS Ad cy σ μ) H) (hS : va_S (AS 18 Ad) s.heap H locs) (hl : lv_has ls 3 [(0, .ref (Ad 12)), (1, .int v1), (2, .int v2)]), W p l e rmX0_find s m args below meth c H locs 0 0 (MQ below (Qcg (PWi (wS Ad cy) D Q) (AS 18 Ad)) args s 0 0 (AS 18 Ad)) (F0 m 2 ls []) := by
  intro n
  induction n with
  | zero => intro σ μ v1 v2 H locs ls h; exact h.elim
  | succ n ih =>
    intro σ μ v1 v2 H locs ls h hP hS hl
    exact wk_X0_find_2 C hap (fun h hP hS hl => ih h hP hS hl) h hP hS hl
def wp_X0_find (σ : Rg) (μ : Ar) (x1 : Int32) (Q : Int32 → Rg → Ar → Prop) : Prop := ∃ n, wl_X0_find_2 Q n σ μ x1 (0 : Int32)
set_option maxHeartbeats 4000000 in
set_option maxRecDepth 100000 in
theorem ct_X0_find (l : Launch) (D : va_G) (cy : ClassId) (Ad : Nat → Nat) (hap : apt 18 Ad) {σ : Rg} {μ : Ar} {x1 : Int32} {Q : Int32 → Rg → Ar → Prop} (h : wp_X0_find σ μ x1 Q) : Ct l yX0_find cX0_find 3 (some FieldType.int) rmX0_find D [(cy, .int)] (fun H => va_P D vwCl (wS Ad cy σ μ) H) [.ref (Ad 12), .int x1] (AS 18 Ad) (PWi (wS Ad cy) D Q) := by
  refine Ct.of (by decide) (Nat.le_of_ble_eq_true rfl) ?_
  intro p e s m below meth c ls C hP hl
  have hl : lv_has ls 3 [(0, .ref (Ad 12)), (1, .int x1)] := hl
  have hS : va_S (AS 18 Ad) s.heap s.heap [] := va_S.rf
  have hx := C.1
  have hb := C.2.1
  refine lv_iconst (v := 0) hx hb dX0_find_0 (by decide) ?_
  refine lv_istore_n (lv' := [(2, .int (0 : Int32)), (0, .ref (Ad 12)), (1, .int x1)]) hx hb dX0_find_1 rfl hl (by decide) rfl (fun ls hl => ?_)
  obtain ⟨n, h⟩ := h
  exact wkl_X0_find_2 C hap n h hP hS (lv_sub hl [1, 2, 0] rfl)
abbrev rmX0_tell : Room := { frames := 1, cells := 0, slots := 0, locals := 22 }
def wb_X0_tell_40 (Q : Int32 → Rg → Ar → Prop) (σ : Rg) (μ : Ar) (v1 : Int32) (v2 : Int32) (v3 : Int32) (v4 : Int32) : Prop := (vp_in v4 8) ∧ (∀ μ47 : Ar, μ47 = updA μ 9 (upd (μ 9) (v4).toNatClampNeg v1) → ((vp_in v4 8) ∧ (∀ μ55 : Ar, μ55 = updA μ47 10 (upd (μ47 10) (v4).toNatClampNeg v2) → ((vp_in v4 8) ∧ (∀ μ63 : Ar, μ63 = updA μ55 11 (upd (μ55 11) (v4).toNatClampNeg v3) → (Q (0 : Int32) σ μ63))))))
set_option maxHeartbeats 4000000 in
set_option maxRecDepth 100000 in
theorem wk_X0_tell_40 {p : Program} {l : Launch} {e : Env} {s : State} {m : MethodId} {args : Array Value} {below : List Frame} {meth : Method} {c : Code} {D : va_G} {cy : ClassId} {Ad : Nat → Nat} (C : Cx p s m args meth c RX0 cX0_tell 5 (some FieldType.int) D [(cy, .int)]) (hap : apt 18 Ad) {Q : Int32 → Rg → Ar → Prop} {σ : Rg} {μ : Ar} {v1 : Int32} {v2 : Int32} {v3 : Int32} {v4 : Int32} {H : Heap} {locs : List Loc} {ls : Array Slot} (h : wb_X0_tell_40 Q σ μ v1 v2 v3 v4) (hP : va_P D vwCl (wS Ad cy σ μ) H) (hS : va_S (AS 18 Ad) s.heap H locs) (hl : lv_has ls 5 [(0, .ref (Ad 12)), (1, .int v1), (2, .int v2), (3, .int v3), (4, .int v4)]) : W p l e rmX0_tell s m args below meth c H locs 0 0 (MQ below (Qcg (PWi (wS Ad cy) D Q) (AS 18 Ad)) args s 0 0 (AS 18 Ad)) (F0 m 40 ls []) := by
  have hx := C.1
  have hb := C.2.1
  refine lv_aload_n hx hb dX0_tell_40 rfl (lv_at hl 0 rfl) ?_
  refine gS_change_labels C hP (C.2.2.2.2.2.2.1 _ wq_260) dX0_tell_41 ?_
  refine lv_iload hx hb dX0_tell_44 (lv_at hl 4 rfl) ?_
  refine lv_iload_n hx hb dX0_tell_46 rfl (lv_at hl 1 rfl) ?_
  obtain ⟨hc, h⟩ := h
  refine sS_9 C hap (fun _ h => h) hP hS hc dX0_tell_47 (fun H locs hP hS => ?_)
  obtain ⟨μ47, e47⟩ : ∃ z : Ar, z = updA μ 9 (upd (μ 9) (v4).toNatClampNeg v1) := ⟨_, rfl⟩
  have hP : va_P D vwCl (wS Ad cy σ μ47) H := by rw [e47]; exact hP
  have h := h μ47 e47
  refine lv_aload_n hx hb dX0_tell_48 rfl (lv_at hl 0 rfl) ?_
  refine gS_change_values C hP (C.2.2.2.2.2.2.1 _ wq_262) dX0_tell_49 ?_
  refine lv_iload hx hb dX0_tell_52 (lv_at hl 4 rfl) ?_
  refine lv_iload_n hx hb dX0_tell_54 rfl (lv_at hl 2 rfl) ?_
  obtain ⟨hc, h⟩ := h
  refine sS_10 C hap (fun _ h => h) hP hS hc dX0_tell_55 (fun H locs hP hS => ?_)
  obtain ⟨μ55, e55⟩ : ∃ z : Ar, z = updA μ47 10 (upd (μ47 10) (v4).toNatClampNeg v2) := ⟨_, rfl⟩
  have hP : va_P D vwCl (wS Ad cy σ μ55) H := by rw [e55]; exact hP
  have h := h μ55 e55
  refine lv_aload_n hx hb dX0_tell_56 rfl (lv_at hl 0 rfl) ?_
  refine gS_change_lengths C hP (C.2.2.2.2.2.2.1 _ wq_264) dX0_tell_57 ?_
  refine lv_iload hx hb dX0_tell_60 (lv_at hl 4 rfl) ?_
  refine lv_iload_n hx hb dX0_tell_62 rfl (lv_at hl 3 rfl) ?_
  obtain ⟨hc, h⟩ := h
  refine sS_11 C hap (fun _ h => h) hP hS hc dX0_tell_63 (fun H locs hP hS => ?_)
  obtain ⟨μ63, e63⟩ : ∃ z : Ar, z = updA μ55 11 (upd (μ55 11) (v4).toNatClampNeg v3) := ⟨_, rfl⟩
  have hP : va_P D vwCl (wS Ad cy σ μ63) H := by rw [e63]; exact hP
  have h := h μ63 e63
  refine lv_iconst (v := 0) hx hb dX0_tell_64 (by decide) ?_
  exact endI C hS ⟨_, _, _, rfl, h, hP⟩ dX0_tell_65
def wp_X0_tell (σ : Rg) (μ : Ar) (x1 : Int32) (x2 : Int32) (x3 : Int32) (Q : Int32 → Rg → Ar → Prop) : Prop := wp_X0_find σ μ x1 (fun r2 σ2 μ2 => ((¬ r2 = (-1 : Int32) → wb_X0_tell_40 Q σ2 μ2 x1 x2 x3 r2) ∧ (r2 = (-1 : Int32) → (((σ2 16) < (8 : Int32) → ∀ y28 : Int32, y28 = (σ2 16) → (∀ σ37 : Rg, σ37 = upd σ2 16 ((σ2 16) + (1 : Int32)) → (wb_X0_tell_40 Q σ37 μ2 x1 x2 x3 y28))) ∧ (¬ (σ2 16) < (8 : Int32) → Q (-1 : Int32) σ2 μ2)))))
set_option maxHeartbeats 4000000 in
set_option maxRecDepth 100000 in
theorem ct_X0_tell (l : Launch) (D : va_G) (cy : ClassId) (Ad : Nat → Nat) (hap : apt 18 Ad) {σ : Rg} {μ : Ar} {x1 : Int32} {x2 : Int32} {x3 : Int32} {Q : Int32 → Rg → Ar → Prop} (h : wp_X0_tell σ μ x1 x2 x3 Q) : Ct l yX0_tell cX0_tell 5 (some FieldType.int) rmX0_tell D [(cy, .int)] (fun H => va_P D vwCl (wS Ad cy σ μ) H) [.ref (Ad 12), .int x1, .int x2, .int x3] (AS 18 Ad) (PWi (wS Ad cy) D Q) := by
  refine Ct.of (by decide) (Nat.le_of_ble_eq_true rfl) ?_
  intro p e s m below meth c ls C hP hl
  have hl : lv_has ls 5 [(0, .ref (Ad 12)), (1, .int x1), (2, .int x2), (3, .int x3)] := hl
  have hS : va_S (AS 18 Ad) s.heap s.heap [] := va_S.rf
  have hx := C.1
  have hb := C.2.1
  refine lv_aload_n hx hb dX0_tell_0 rfl (lv_at hl 0 rfl) ?_
  refine lv_iload_n hx hb dX0_tell_1 rfl (lv_at hl 1 rfl) ?_
  refine kWi (rnV C (ct_X0_find l D cy Ad hap h) yv_X0_find wq_546 ⟨rfl, rfl⟩ ⟨Nat.le_of_ble_eq_true rfl, Nat.le_of_ble_eq_true rfl⟩ ⟨Nat.zero_le _, Nat.zero_le _⟩ (vS_change C hP) hP hl.1 rfl rfl (Nat.le_of_ble_eq_true rfl) dX0_tell_2) hS (fun _ h => h) (fun r2 σ2 μ2 H locs h hP hk hS => ?_)
  refine lv_istore (lv' := [(4, .int r2), (0, .ref (Ad 12)), (1, .int x1), (2, .int x2), (3, .int x3)]) hx hb dX0_tell_5 hl (by decide) rfl (fun ls hl => ?_)
  refine lv_iload hx hb dX0_tell_7 (lv_at hl 0 rfl) ?_
  refine lv_iconst (v := -1) hx hb dX0_tell_9 (by decide) ?_
  refine lv_icmp_ne (tgt := 40) hx hb dX0_tell_10 (by decide) (fun hc => ?_) (fun hc => ?_)
  · have h := h.1 hc
    exact wk_X0_tell_40 C hap h hP hS (lv_sub hl [1, 2, 3, 4, 0] rfl)
  · have h := h.2 hc
    refine lv_aload_n hx hb dX0_tell_13 rfl (lv_at hl 1 rfl) ?_
    refine gS_change_told C hP (C.2.2.2.2.2.2.1 _ wq_269) dX0_tell_14 ?_
    refine lv_bipush (v := 8) hx hb dX0_tell_17 (by decide) ?_
    refine lv_icmp_lt (tgt := 24) hx hb dX0_tell_19 (by decide) (fun hc => ?_) (fun hc => ?_)
    · have h := h.1 hc
      refine lv_aload_n hx hb dX0_tell_24 rfl (lv_at hl 1 rfl) ?_
      refine gS_change_told C hP (C.2.2.2.2.2.2.1 _ wq_269) dX0_tell_25 ?_
      refine lv_topi (fun y28 e28 => ?_)
      have h := h y28 e28
      refine lv_istore (lv' := [(4, .int y28), (0, .ref (Ad 12)), (1, .int x1), (2, .int x2), (3, .int x3)]) hx hb dX0_tell_28 hl (by decide) rfl (fun ls hl => ?_)
      refine lv_aload_n hx hb dX0_tell_30 rfl (lv_at hl 1 rfl) ?_
      refine lv_dup hx hb dX0_tell_31 rfl ?_
      refine gS_change_told C hP (C.2.2.2.2.2.2.1 _ wq_269) dX0_tell_32 ?_
      refine lv_iconst (v := 1) hx hb dX0_tell_35 (by decide) ?_
      refine lv_iadd hx hb dX0_tell_36 ?_
      refine pS_change_told C hap (fun _ h => h) hP hS (C.2.2.2.2.2.2.1 _ wq_269) dX0_tell_37 (fun H locs hP hS => ?_)
      obtain ⟨σ37, e37⟩ : ∃ z : Rg, z = upd σ2 16 ((σ2 16) + (1 : Int32)) := ⟨_, rfl⟩
      have hP : va_P D vwCl (wS Ad cy σ37 μ2) H := by rw [e37]; exact hP
      have h := h σ37 e37
      exact wk_X0_tell_40 C hap h hP hS (lv_sub hl [1, 2, 3, 4, 0] rfl)
    · have h := h.2 hc
      refine lv_iconst (v := -1) hx hb dX0_tell_22 (by decide) ?_
      exact endI C hS ⟨_, _, _, rfl, h, hP⟩ dX0_tell_23
abbrev rmX0_bytesToWrite : Room := { frames := 0, cells := 0, slots := 0, locals := 0 }
def wb_X0_bytesToWrite_4 (Q : Int32 → Rg → Ar → Prop) (k4 : Rg → Ar → Int32 → Int32 → Prop) (σ : Rg) (μ : Ar) (v1 : Int32) (v2 : Int32) : Prop := (((σ 16) ≤ v2 → Q v1 σ μ) ∧ (¬ (σ 16) ≤ v2 → (vp_in v2 8) ∧ (∀ y22 : Int32, y22 = (v1 + ((3 : Int32) + (μ 11 (v2).toNatClampNeg))) → (∀ y23 : Int32, y23 = v2 + (1 : Int32) → (k4 σ μ y22 y23)))))
set_option maxHeartbeats 4000000 in
set_option maxRecDepth 100000 in
theorem wk_X0_bytesToWrite_4 {p : Program} {l : Launch} {e : Env} {s : State} {m : MethodId} {args : Array Value} {below : List Frame} {meth : Method} {c : Code} {D : va_G} {cy : ClassId} {Ad : Nat → Nat} (C : Cx p s m args meth c RX0 cX0_bytesToWrite 3 (some FieldType.int) D [(cy, .int)]) (hap : apt 18 Ad) {Q : Int32 → Rg → Ar → Prop} {k4 : Rg → Ar → Int32 → Int32 → Prop} (hk4 : ∀ {σ : Rg} {μ : Ar} {v1 : Int32} {v2 : Int32} {H : Heap} {locs : List Loc} {ls : Array Slot}, k4 σ μ v1 v2 → va_P D vwCl (wS Ad cy σ μ) H → va_S (AS 18 Ad) s.heap H locs → lv_has ls 3 [(0, .ref (Ad 12)), (1, .int v1), (2, .int v2)] → W p l e rmX0_bytesToWrite s m args below meth c H locs 0 0 (MQ below (Qcg (PWi (wS Ad cy) D Q) (AS 18 Ad)) args s 0 0 (AS 18 Ad)) (F0 m 4 ls [])) {σ : Rg} {μ : Ar} {v1 : Int32} {v2 : Int32} {H : Heap} {locs : List Loc} {ls : Array Slot} (h : wb_X0_bytesToWrite_4 Q k4 σ μ v1 v2) (hP : va_P D vwCl (wS Ad cy σ μ) H) (hS : va_S (AS 18 Ad) s.heap H locs) (hl : lv_has ls 3 [(0, .ref (Ad 12)), (1, .int v1), (2, .int v2)]) : W p l e rmX0_bytesToWrite s m args below meth c H locs 0 0 (MQ below (Qcg (PWi (wS Ad cy) D Q) (AS 18 Ad)) args s 0 0 (AS 18 Ad)) (F0 m 4 ls []) := by
  have hx := C.1
  have hb := C.2.1
  refine lv_iload_n hx hb dX0_bytesToWrite_4 rfl (lv_at hl 2 rfl) ?_
  refine lv_aload_n hx hb dX0_bytesToWrite_5 rfl (lv_at hl 0 rfl) ?_
  refine gS_change_told C hP (C.2.2.2.2.2.2.1 _ wq_269) dX0_bytesToWrite_6 ?_
  refine lv_icmp_ge (tgt := 29) hx hb dX0_bytesToWrite_9 (by decide) (fun hc => ?_) (fun hc => ?_)
  · have h := h.1 hc
    refine lv_iload_n hx hb dX0_bytesToWrite_29 rfl (lv_at hl 1 rfl) ?_
    exact endI C hS ⟨_, _, _, rfl, h, hP⟩ dX0_bytesToWrite_30
  · have h := h.2 hc
    refine lv_iload_n hx hb dX0_bytesToWrite_12 rfl (lv_at hl 1 rfl) ?_
    refine lv_iconst (v := 3) hx hb dX0_bytesToWrite_13 (by decide) ?_
    refine lv_aload_n hx hb dX0_bytesToWrite_14 rfl (lv_at hl 0 rfl) ?_
    refine gS_change_lengths C hP (C.2.2.2.2.2.2.1 _ wq_264) dX0_bytesToWrite_15 ?_
    refine lv_iload_n hx hb dX0_bytesToWrite_18 rfl (lv_at hl 2 rfl) ?_
    obtain ⟨hc, h⟩ := h
    refine lS_11 C hP hc dX0_bytesToWrite_19 ?_
    refine lv_iadd hx hb dX0_bytesToWrite_20 ?_
    refine lv_iadd hx hb dX0_bytesToWrite_21 ?_
    refine lv_topi (fun y22 e22 => ?_)
    have h := h y22 e22
    refine lv_istore_n (lv' := [(1, .int y22), (0, .ref (Ad 12)), (2, .int v2)]) hx hb dX0_bytesToWrite_22 rfl hl (by decide) rfl (fun ls hl => ?_)
    obtain ⟨y23, e23⟩ : ∃ y : Int32, y = v2 + (1 : Int32) := ⟨_, rfl⟩
    have h := h y23 e23
    refine lv_iinc (v := y23) (lv' := [(2, .int y23), (1, .int y22), (0, .ref (Ad 12))]) hx hb dX0_bytesToWrite_23 hl (k := 2) rfl (by rw [e23]; rfl) (by decide) rfl (fun ls hl => ?_)
    refine lv_goto (tgt := 4) hx hb dX0_bytesToWrite_26 (by decide) ?_
    exact hk4 h hP hS (lv_sub hl [2, 1, 0] rfl)
def wl_X0_bytesToWrite_4 (Q : Int32 → Rg → Ar → Prop) (n : Nat) : Rg → Ar → Int32 → Int32 → Prop := Nat.rec (motive := fun _ => Rg → Ar → Int32 → Int32 → Prop) (fun _ _ _ _ => False) (fun _ k => wb_X0_bytesToWrite_4 Q k) n
set_option maxHeartbeats 4000000 in
theorem wkl_X0_bytesToWrite_4 {p : Program} {l : Launch} {e : Env} {s : State} {m : MethodId} {args : Array Value} {below : List Frame} {meth : Method} {c : Code} {D : va_G} {cy : ClassId} {Ad : Nat → Nat} (C : Cx p s m args meth c RX0 cX0_bytesToWrite 3 (some FieldType.int) D [(cy, .int)]) (hap : apt 18 Ad) {Q : Int32 → Rg → Ar → Prop}  : ∀ (n : Nat) {σ : Rg} {μ : Ar} {v1 : Int32} {v2 : Int32} {H : Heap} {locs : List Loc} {ls : Array Slot} (h : wl_X0_bytesToWrite_4 Q  n σ μ v1 v2) (hP : va_P D vwCl (wS Ad cy σ μ) H) (hS : va_S (AS 18 Ad) s.heap H locs) (hl : lv_has ls 3 [(0, .ref (Ad 12)), (1, .int v1), (2, .int v2)]), W p l e rmX0_bytesToWrite s m args below meth c H locs 0 0 (MQ below (Qcg (PWi (wS Ad cy) D Q) (AS 18 Ad)) args s 0 0 (AS 18 Ad)) (F0 m 4 ls []) := by
  intro n
  induction n with
  | zero => intro σ μ v1 v2 H locs ls h; exact h.elim
  | succ n ih =>
    intro σ μ v1 v2 H locs ls h hP hS hl
    exact wk_X0_bytesToWrite_4 C hap (fun h hP hS hl => ih h hP hS hl) h hP hS hl
def wp_X0_bytesToWrite (σ : Rg) (μ : Ar) (Q : Int32 → Rg → Ar → Prop) : Prop := ∃ n, wl_X0_bytesToWrite_4 Q n σ μ (4 : Int32) (0 : Int32)
set_option maxHeartbeats 4000000 in
set_option maxRecDepth 100000 in
theorem ct_X0_bytesToWrite (l : Launch) (D : va_G) (cy : ClassId) (Ad : Nat → Nat) (hap : apt 18 Ad) {σ : Rg} {μ : Ar}  {Q : Int32 → Rg → Ar → Prop} (h : wp_X0_bytesToWrite σ μ  Q) : Ct l yX0_bytesToWrite cX0_bytesToWrite 3 (some FieldType.int) rmX0_bytesToWrite D [(cy, .int)] (fun H => va_P D vwCl (wS Ad cy σ μ) H) [.ref (Ad 12)] (AS 18 Ad) (PWi (wS Ad cy) D Q) := by
  refine Ct.of (by decide) (Nat.le_of_ble_eq_true rfl) ?_
  intro p e s m below meth c ls C hP hl
  have hl : lv_has ls 3 [(0, .ref (Ad 12))] := hl
  have hS : va_S (AS 18 Ad) s.heap s.heap [] := va_S.rf
  have hx := C.1
  have hb := C.2.1
  refine lv_iconst (v := 4) hx hb dX0_bytesToWrite_0 (by decide) ?_
  refine lv_istore_n (lv' := [(1, .int (4 : Int32)), (0, .ref (Ad 12))]) hx hb dX0_bytesToWrite_1 rfl hl (by decide) rfl (fun ls hl => ?_)
  refine lv_iconst (v := 0) hx hb dX0_bytesToWrite_2 (by decide) ?_
  refine lv_istore_n (lv' := [(2, .int (0 : Int32)), (1, .int (4 : Int32)), (0, .ref (Ad 12))]) hx hb dX0_bytesToWrite_3 rfl hl (by decide) rfl (fun ls hl => ?_)
  obtain ⟨n, h⟩ := h
  exact wkl_X0_bytesToWrite_4 C hap n h hP hS (lv_sub hl [2, 1, 0] rfl)
abbrev rmX1_renew : Room := { frames := 1, cells := 0, slots := 0, locals := 23 }
def wp_X1_renew (σ : Rg) (μ : Ar) (x1 : Int32) (x2 : Int32) (Q : Rg → Ar → Prop) : Prop := ∀ σ2 : Rg, σ2 = upd σ 3 x1 → (∀ σ7 : Rg, σ7 = upd σ2 4 x2 → (wp_J7_fill_53178_2 σ7 μ (255 : Int32) (fun σ17 μ17 => wp_J7_fill_53178_3 σ17 μ17 (0 : Int32) (fun σ25 μ25 => ∀ σ30 : Rg, σ30 = upd σ25 5 (0 : Int32) → (∀ σ35 : Rg, σ35 = upd σ30 6 (0 : Int32) → (∀ σ40 : Rg, σ40 = upd σ35 7 (0 : Int32) → (∀ σ45 : Rg, σ45 = upd σ40 8 (0 : Int32) → (∀ σ50 : Rg, σ50 = upd σ45 9 (0 : Int32) → (∀ σ55 : Rg, σ55 = upd σ50 10 (0 : Int32) → (Q σ55 μ25))))))))))
set_option maxHeartbeats 4000000 in
set_option maxRecDepth 100000 in
theorem ct_X1_renew (l : Launch) (D : va_G) (cy : ClassId) (Ad : Nat → Nat) (hap : apt 18 Ad) {σ : Rg} {μ : Ar} {x1 : Int32} {x2 : Int32} {Q : Rg → Ar → Prop} (h : wp_X1_renew σ μ x1 x2 Q) : Ct l yX1_renew cX1_renew 3 (none : Option FieldType) rmX1_renew D [(cy, .int)] (fun H => va_P D vwCl (wS Ad cy σ μ) H) [.ref (Ad 1), .int x1, .int x2] (AS 18 Ad) (PWv (wS Ad cy) D Q) := by
  refine Ct.of (by decide) (Nat.le_of_ble_eq_true rfl) ?_
  intro p e s m below meth c ls C hP hl
  have hl : lv_has ls 3 [(0, .ref (Ad 1)), (1, .int x1), (2, .int x2)] := hl
  have hS : va_S (AS 18 Ad) s.heap s.heap [] := va_S.rf
  have hx := C.1
  have hb := C.2.1
  refine lv_aload_n hx hb dX1_renew_0 rfl (lv_at hl 0 rfl) ?_
  refine lv_iload_n hx hb dX1_renew_1 rfl (lv_at hl 1 rfl) ?_
  refine pS_chip_sectors C hap (fun _ h => h) hP hS (C.2.2.2.2.2.2.1 _ wq_171) dX1_renew_2 (fun H locs hP hS => ?_)
  obtain ⟨σ2, e2⟩ : ∃ z : Rg, z = upd σ 3 x1 := ⟨_, rfl⟩
  have hP : va_P D vwCl (wS Ad cy σ2 μ) H := by rw [e2]; exact hP
  have h := h σ2 e2
  refine lv_aload_n hx hb dX1_renew_5 rfl (lv_at hl 0 rfl) ?_
  refine lv_iload_n hx hb dX1_renew_6 rfl (lv_at hl 2 rfl) ?_
  refine pS_chip_size C hap (fun _ h => h) hP hS (C.2.2.2.2.2.2.1 _ wq_174) dX1_renew_7 (fun H locs hP hS => ?_)
  obtain ⟨σ7, e7⟩ : ∃ z : Rg, z = upd σ2 4 x2 := ⟨_, rfl⟩
  have hP : va_P D vwCl (wS Ad cy σ7 μ) H := by rw [e7]; exact hP
  have h := h σ7 e7
  refine lv_aload_n hx hb dX1_renew_10 rfl (lv_at hl 0 rfl) ?_
  refine gS_chip_cells C hP (C.2.2.2.2.2.2.1 _ wq_168) dX1_renew_11 ?_
  refine lv_sipush (v := 255) hx hb dX1_renew_14 (by decide) ?_
  refine kWv (rnS C (ct_J7_fill_53178_2 l D cy Ad hap h) ys_J7_fill_53178 wq_306 ⟨rfl, rfl⟩ ⟨Nat.le_of_ble_eq_true rfl, Nat.le_of_ble_eq_true rfl⟩ ⟨Nat.zero_le _, Nat.zero_le _⟩ hP hl.1 rfl rfl (Nat.le_of_ble_eq_true rfl) dX1_renew_17) hS (fun _ h => h) (fun σ17 μ17 H locs h hP hk hS => ?_)
  refine lv_aload_n hx hb dX1_renew_20 rfl (lv_at hl 0 rfl) ?_
  refine gS_chip_erases C hP (C.2.2.2.2.2.2.1 _ wq_169) dX1_renew_21 ?_
  refine lv_iconst (v := 0) hx hb dX1_renew_24 (by decide) ?_
  refine kWv (rnS C (ct_J7_fill_53178_3 l D cy Ad hap h) ys_J7_fill_53178 wq_306 ⟨rfl, rfl⟩ ⟨Nat.le_of_ble_eq_true rfl, Nat.le_of_ble_eq_true rfl⟩ ⟨Nat.zero_le _, Nat.zero_le _⟩ hP hl.1 rfl rfl (Nat.le_of_ble_eq_true rfl) dX1_renew_25) hS (fun _ h => h) (fun σ25 μ25 H locs h hP hk hS => ?_)
  refine lv_aload_n hx hb dX1_renew_28 rfl (lv_at hl 0 rfl) ?_
  refine lv_iconst (v := 0) hx hb dX1_renew_29 (by decide) ?_
  refine pS_chip_writes C hap (fun _ h => h) hP hS (C.2.2.2.2.2.2.1 _ wq_176) dX1_renew_30 (fun H locs hP hS => ?_)
  obtain ⟨σ30, e30⟩ : ∃ z : Rg, z = upd σ25 5 (0 : Int32) := ⟨_, rfl⟩
  have hP : va_P D vwCl (wS Ad cy σ30 μ25) H := by rw [e30]; exact hP
  have h := h σ30 e30
  refine lv_aload_n hx hb dX1_renew_33 rfl (lv_at hl 0 rfl) ?_
  refine lv_iconst (v := 0) hx hb dX1_renew_34 (by decide) ?_
  refine pS_chip_doings C hap (fun _ h => h) hP hS (C.2.2.2.2.2.2.1 _ wq_178) dX1_renew_35 (fun H locs hP hS => ?_)
  obtain ⟨σ35, e35⟩ : ∃ z : Rg, z = upd σ30 6 (0 : Int32) := ⟨_, rfl⟩
  have hP : va_P D vwCl (wS Ad cy σ35 μ25) H := by rw [e35]; exact hP
  have h := h σ35 e35
  refine lv_aload_n hx hb dX1_renew_38 rfl (lv_at hl 0 rfl) ?_
  refine lv_iconst (v := 0) hx hb dX1_renew_39 (by decide) ?_
  refine pS_chip_powered C hap (fun _ h => h) hP hS bz0 (C.2.2.2.2.2.2.1 _ wq_181) dX1_renew_40 (fun H locs hP hS => ?_)
  obtain ⟨σ40, e40⟩ : ∃ z : Rg, z = upd σ35 7 (0 : Int32) := ⟨_, rfl⟩
  have hP : va_P D vwCl (wS Ad cy σ40 μ25) H := by rw [e40]; exact hP
  have h := h σ40 e40
  refine lv_aload_n hx hb dX1_renew_43 rfl (lv_at hl 0 rfl) ?_
  refine lv_iconst (v := 0) hx hb dX1_renew_44 (by decide) ?_
  refine pS_chip_powerIn C hap (fun _ h => h) hP hS (C.2.2.2.2.2.2.1 _ wq_183) dX1_renew_45 (fun H locs hP hS => ?_)
  obtain ⟨σ45, e45⟩ : ∃ z : Rg, z = upd σ40 8 (0 : Int32) := ⟨_, rfl⟩
  have hP : va_P D vwCl (wS Ad cy σ45 μ25) H := by rw [e45]; exact hP
  have h := h σ45 e45
  refine lv_aload_n hx hb dX1_renew_48 rfl (lv_at hl 0 rfl) ?_
  refine lv_iconst (v := 0) hx hb dX1_renew_49 (by decide) ?_
  refine pS_chip_mask C hap (fun _ h => h) hP hS (C.2.2.2.2.2.2.1 _ wq_185) dX1_renew_50 (fun H locs hP hS => ?_)
  obtain ⟨σ50, e50⟩ : ∃ z : Rg, z = upd σ45 9 (0 : Int32) := ⟨_, rfl⟩
  have hP : va_P D vwCl (wS Ad cy σ50 μ25) H := by rw [e50]; exact hP
  have h := h σ50 e50
  refine lv_aload_n hx hb dX1_renew_53 rfl (lv_at hl 0 rfl) ?_
  refine lv_iconst (v := 0) hx hb dX1_renew_54 (by decide) ?_
  refine pS_chip_outages C hap (fun _ h => h) hP hS (C.2.2.2.2.2.2.1 _ wq_186) dX1_renew_55 (fun H locs hP hS => ?_)
  obtain ⟨σ55, e55⟩ : ∃ z : Rg, z = upd σ50 10 (0 : Int32) := ⟨_, rfl⟩
  have hP : va_P D vwCl (wS Ad cy σ55 μ25) H := by rw [e55]; exact hP
  have h := h σ55 e55
  exact endV C hS ⟨_, _, rfl, h, hP⟩ dX1_renew_58
abbrev rmX1_copyFrom : Room := { frames := 1, cells := 0, slots := 0, locals := 40 }
def wp_X1_copyFrom (σa : Rg) (μa : Ar) (σb : Rg) (μb : Ar) (Q : Rg → Ar → Prop) : Prop := ∀ σb5 : Rg, σb5 = upd σb 3 (σa 3) → (∀ σb13 : Rg, σb13 = upd σb5 4 (σa 4) → (∀ σb57 : Rg, σb57 = upd σb13 5 (σa 5) → (∀ σb65 : Rg, σb65 = upd σb57 6 (σa 6) → ((bz (σa 7)) ∧ (∀ σb73 : Rg, σb73 = upd σb65 7 (σa 7) → (∀ σb81 : Rg, σb81 = upd σb73 8 (σa 8) → (∀ σb89 : Rg, σb89 = upd σb81 9 (σa 9) → (∀ σb97 : Rg, σb97 = upd σb89 10 (σa 10) → (Q σb97 (updA (updA μb 0 (va_cpy (μa 0) (μb 0) 0 0 768)) 1 (va_cpy (μa 1) ((updA μb 0 (va_cpy (μa 0) (μb 0) 0 0 768)) 1) 0 0 6)))))))))))
set_option maxHeartbeats 4000000 in
set_option maxRecDepth 100000 in
theorem ct_X1_copyFrom (l : Launch) (D : va_G) (cy : ClassId) (Aa Ab : Nat → Nat) (hap : apSS Aa Ab) {σa : Rg} {μa : Ar} {σb : Rg} {μb : Ar}  {Q : Rg → Ar → Prop} (h : wp_X1_copyFrom σa μa σb μb  Q) : Ct l yX1_copyFrom cX1_copyFrom 2 (none : Option FieldType) rmX1_copyFrom D [(cy, .int)] (fun H => va_P D vwCl (wS Aa cy σa μa) H ∧ va_P D vwCl (wS Ab cy σb μb) H) [.ref (Ab 1), .ref (Aa 1)] (AZ Aa Ab) (PZv Aa Ab cy D σa μa Q) := by
  refine Ct.of (by decide) (Nat.le_of_ble_eq_true rfl) ?_
  intro p e s m below meth c ls C hP hl
  obtain ⟨hPa, hPb⟩ := hP
  have hl : lv_has ls 2 [(0, .ref (Ab 1)), (1, .ref (Aa 1))] := hl
  have hS : va_S (AZ Aa Ab) s.heap s.heap [] := va_S.rf
  have hx := C.1
  have hb := C.2.1
  refine lv_aload_n hx hb dX1_copyFrom_0 rfl (lv_at hl 0 rfl) ?_
  refine lv_aload_n hx hb dX1_copyFrom_1 rfl (lv_at hl 1 rfl) ?_
  refine gS_chip_sectors C hPa (C.2.2.2.2.2.2.1 _ wq_171) dX1_copyFrom_2 ?_
  refine p2S_chip_sectors C hap hPb hPa hS (C.2.2.2.2.2.2.1 _ wq_171) dX1_copyFrom_5 (fun H locs hPb hPa hS => ?_)
  obtain ⟨σb5, e5⟩ : ∃ z : Rg, z = upd σb 3 (σa 3) := ⟨_, rfl⟩
  have hPb : va_P D vwCl (wS Ab cy σb5 μb) H := by rw [e5]; exact hPb
  have h := h σb5 e5
  refine lv_aload_n hx hb dX1_copyFrom_8 rfl (lv_at hl 0 rfl) ?_
  refine lv_aload_n hx hb dX1_copyFrom_9 rfl (lv_at hl 1 rfl) ?_
  refine gS_chip_size C hPa (C.2.2.2.2.2.2.1 _ wq_174) dX1_copyFrom_10 ?_
  refine p2S_chip_size C hap hPb hPa hS (C.2.2.2.2.2.2.1 _ wq_174) dX1_copyFrom_13 (fun H locs hPb hPa hS => ?_)
  obtain ⟨σb13, e13⟩ : ∃ z : Rg, z = upd σb5 4 (σa 4) := ⟨_, rfl⟩
  have hPb : va_P D vwCl (wS Ab cy σb13 μb) H := by rw [e13]; exact hPb
  have h := h σb13 e13
  refine lv_aload_n hx hb dX1_copyFrom_16 rfl (lv_at hl 1 rfl) ?_
  refine gS_chip_cells C hPa (C.2.2.2.2.2.2.1 _ wq_168) dX1_copyFrom_17 ?_
  refine lv_iconst (v := 0) hx hb dX1_copyFrom_20 (by decide) ?_
  refine lv_aload_n hx hb dX1_copyFrom_21 rfl (lv_at hl 0 rfl) ?_
  refine gS_chip_cells C hPb (C.2.2.2.2.2.2.1 _ wq_168) dX1_copyFrom_22 ?_
  refine lv_iconst (v := 0) hx hb dX1_copyFrom_25 (by decide) ?_
  refine lv_aload_n hx hb dX1_copyFrom_26 rfl (lv_at hl 0 rfl) ?_
  refine gS_chip_cells C hPb (C.2.2.2.2.2.2.1 _ wq_168) dX1_copyFrom_27 ?_
  refine nS_0 C hPb dX1_copyFrom_30 ?_
  refine cp2_2 C hap hPb hPa hS (by rw [C.2.2.1]; exact hl.1.symm) (C.2.2.2.2.2.2.1 _ wq_775) (C.2.2.2.2.2.2.1 _ wq_777) (C.2.2.2.2.2.2.1 _ wq_776) (C.2.2.2.2.2.2.1 _ wq_145) (Nat.le_of_ble_eq_true rfl) (Nat.le_of_ble_eq_true rfl) dX1_copyFrom_31 (fun H locs hPb hPa hS => ?_)
  refine lv_aload_n hx hb dX1_copyFrom_34 rfl (lv_at hl 1 rfl) ?_
  refine gS_chip_erases C hPa (C.2.2.2.2.2.2.1 _ wq_169) dX1_copyFrom_35 ?_
  refine lv_iconst (v := 0) hx hb dX1_copyFrom_38 (by decide) ?_
  refine lv_aload_n hx hb dX1_copyFrom_39 rfl (lv_at hl 0 rfl) ?_
  refine gS_chip_erases C hPb (C.2.2.2.2.2.2.1 _ wq_169) dX1_copyFrom_40 ?_
  refine lv_iconst (v := 0) hx hb dX1_copyFrom_43 (by decide) ?_
  refine lv_aload_n hx hb dX1_copyFrom_44 rfl (lv_at hl 0 rfl) ?_
  refine gS_chip_erases C hPb (C.2.2.2.2.2.2.1 _ wq_169) dX1_copyFrom_45 ?_
  refine nS_1 C hPb dX1_copyFrom_48 ?_
  refine cp2_3 C hap hPb hPa hS (by rw [C.2.2.1]; exact hl.1.symm) (C.2.2.2.2.2.2.1 _ wq_775) (C.2.2.2.2.2.2.1 _ wq_777) (C.2.2.2.2.2.2.1 _ wq_776) (C.2.2.2.2.2.2.1 _ wq_145) (Nat.le_of_ble_eq_true rfl) (Nat.le_of_ble_eq_true rfl) dX1_copyFrom_49 (fun H locs hPb hPa hS => ?_)
  refine lv_aload_n hx hb dX1_copyFrom_52 rfl (lv_at hl 0 rfl) ?_
  refine lv_aload_n hx hb dX1_copyFrom_53 rfl (lv_at hl 1 rfl) ?_
  refine gS_chip_writes C hPa (C.2.2.2.2.2.2.1 _ wq_176) dX1_copyFrom_54 ?_
  refine p2S_chip_writes C hap hPb hPa hS (C.2.2.2.2.2.2.1 _ wq_176) dX1_copyFrom_57 (fun H locs hPb hPa hS => ?_)
  obtain ⟨σb57, e57⟩ : ∃ z : Rg, z = upd σb13 5 (σa 5) := ⟨_, rfl⟩
  have hPb : va_P D vwCl (wS Ab cy σb57 (updA (updA μb 0 (va_cpy (μa 0) (μb 0) 0 0 768)) 1 (va_cpy (μa 1) ((updA μb 0 (va_cpy (μa 0) (μb 0) 0 0 768)) 1) 0 0 6))) H := by rw [e57]; exact hPb
  have h := h σb57 e57
  refine lv_aload_n hx hb dX1_copyFrom_60 rfl (lv_at hl 0 rfl) ?_
  refine lv_aload_n hx hb dX1_copyFrom_61 rfl (lv_at hl 1 rfl) ?_
  refine gS_chip_doings C hPa (C.2.2.2.2.2.2.1 _ wq_178) dX1_copyFrom_62 ?_
  refine p2S_chip_doings C hap hPb hPa hS (C.2.2.2.2.2.2.1 _ wq_178) dX1_copyFrom_65 (fun H locs hPb hPa hS => ?_)
  obtain ⟨σb65, e65⟩ : ∃ z : Rg, z = upd σb57 6 (σa 6) := ⟨_, rfl⟩
  have hPb : va_P D vwCl (wS Ab cy σb65 (updA (updA μb 0 (va_cpy (μa 0) (μb 0) 0 0 768)) 1 (va_cpy (μa 1) ((updA μb 0 (va_cpy (μa 0) (μb 0) 0 0 768)) 1) 0 0 6))) H := by rw [e65]; exact hPb
  have h := h σb65 e65
  refine lv_aload_n hx hb dX1_copyFrom_68 rfl (lv_at hl 0 rfl) ?_
  refine lv_aload_n hx hb dX1_copyFrom_69 rfl (lv_at hl 1 rfl) ?_
  refine gS_chip_powered C hPa (C.2.2.2.2.2.2.1 _ wq_181) dX1_copyFrom_70 ?_
  obtain ⟨hc, h⟩ := h
  refine p2S_chip_powered C hap hPb hPa hS hc (C.2.2.2.2.2.2.1 _ wq_181) dX1_copyFrom_73 (fun H locs hPb hPa hS => ?_)
  obtain ⟨σb73, e73⟩ : ∃ z : Rg, z = upd σb65 7 (σa 7) := ⟨_, rfl⟩
  have hPb : va_P D vwCl (wS Ab cy σb73 (updA (updA μb 0 (va_cpy (μa 0) (μb 0) 0 0 768)) 1 (va_cpy (μa 1) ((updA μb 0 (va_cpy (μa 0) (μb 0) 0 0 768)) 1) 0 0 6))) H := by rw [e73]; exact hPb
  have h := h σb73 e73
  refine lv_aload_n hx hb dX1_copyFrom_76 rfl (lv_at hl 0 rfl) ?_
  refine lv_aload_n hx hb dX1_copyFrom_77 rfl (lv_at hl 1 rfl) ?_
  refine gS_chip_powerIn C hPa (C.2.2.2.2.2.2.1 _ wq_183) dX1_copyFrom_78 ?_
  refine p2S_chip_powerIn C hap hPb hPa hS (C.2.2.2.2.2.2.1 _ wq_183) dX1_copyFrom_81 (fun H locs hPb hPa hS => ?_)
  obtain ⟨σb81, e81⟩ : ∃ z : Rg, z = upd σb73 8 (σa 8) := ⟨_, rfl⟩
  have hPb : va_P D vwCl (wS Ab cy σb81 (updA (updA μb 0 (va_cpy (μa 0) (μb 0) 0 0 768)) 1 (va_cpy (μa 1) ((updA μb 0 (va_cpy (μa 0) (μb 0) 0 0 768)) 1) 0 0 6))) H := by rw [e81]; exact hPb
  have h := h σb81 e81
  refine lv_aload_n hx hb dX1_copyFrom_84 rfl (lv_at hl 0 rfl) ?_
  refine lv_aload_n hx hb dX1_copyFrom_85 rfl (lv_at hl 1 rfl) ?_
  refine gS_chip_mask C hPa (C.2.2.2.2.2.2.1 _ wq_185) dX1_copyFrom_86 ?_
  refine p2S_chip_mask C hap hPb hPa hS (C.2.2.2.2.2.2.1 _ wq_185) dX1_copyFrom_89 (fun H locs hPb hPa hS => ?_)
  obtain ⟨σb89, e89⟩ : ∃ z : Rg, z = upd σb81 9 (σa 9) := ⟨_, rfl⟩
  have hPb : va_P D vwCl (wS Ab cy σb89 (updA (updA μb 0 (va_cpy (μa 0) (μb 0) 0 0 768)) 1 (va_cpy (μa 1) ((updA μb 0 (va_cpy (μa 0) (μb 0) 0 0 768)) 1) 0 0 6))) H := by rw [e89]; exact hPb
  have h := h σb89 e89
  refine lv_aload_n hx hb dX1_copyFrom_92 rfl (lv_at hl 0 rfl) ?_
  refine lv_aload_n hx hb dX1_copyFrom_93 rfl (lv_at hl 1 rfl) ?_
  refine gS_chip_outages C hPa (C.2.2.2.2.2.2.1 _ wq_186) dX1_copyFrom_94 ?_
  refine p2S_chip_outages C hap hPb hPa hS (C.2.2.2.2.2.2.1 _ wq_186) dX1_copyFrom_97 (fun H locs hPb hPa hS => ?_)
  obtain ⟨σb97, e97⟩ : ∃ z : Rg, z = upd σb89 10 (σa 10) := ⟨_, rfl⟩
  have hPb : va_P D vwCl (wS Ab cy σb97 (updA (updA μb 0 (va_cpy (μa 0) (μb 0) 0 0 768)) 1 (va_cpy (μa 1) ((updA μb 0 (va_cpy (μa 0) (μb 0) 0 0 768)) 1) 0 0 6))) H := by rw [e97]; exact hPb
  have h := h σb97 e97
  exact endV C hS ⟨_, _, rfl, h, hPb, hPa⟩ dX1_copyFrom_100
abbrev rmX1_arm : Room := { frames := 0, cells := 0, slots := 0, locals := 0 }
def wp_X1_arm (σ : Rg) (μ : Ar) (x1 : Int32) (x2 : Int32) (Q : Rg → Ar → Prop) : Prop := ∀ σ2 : Rg, σ2 = upd σ 8 x1 → (∀ σ7 : Rg, σ7 = upd σ2 9 x2 → (Q σ7 μ))
set_option maxHeartbeats 4000000 in
set_option maxRecDepth 100000 in
theorem ct_X1_arm (l : Launch) (D : va_G) (cy : ClassId) (Ad : Nat → Nat) (hap : apt 18 Ad) {σ : Rg} {μ : Ar} {x1 : Int32} {x2 : Int32} {Q : Rg → Ar → Prop} (h : wp_X1_arm σ μ x1 x2 Q) : Ct l yX1_arm cX1_arm 3 (none : Option FieldType) rmX1_arm D [(cy, .int)] (fun H => va_P D vwCl (wS Ad cy σ μ) H) [.ref (Ad 1), .int x1, .int x2] (AS 18 Ad) (PWv (wS Ad cy) D Q) := by
  refine Ct.of (by decide) (Nat.le_of_ble_eq_true rfl) ?_
  intro p e s m below meth c ls C hP hl
  have hl : lv_has ls 3 [(0, .ref (Ad 1)), (1, .int x1), (2, .int x2)] := hl
  have hS : va_S (AS 18 Ad) s.heap s.heap [] := va_S.rf
  have hx := C.1
  have hb := C.2.1
  refine lv_aload_n hx hb dX1_arm_0 rfl (lv_at hl 0 rfl) ?_
  refine lv_iload_n hx hb dX1_arm_1 rfl (lv_at hl 1 rfl) ?_
  refine pS_chip_powerIn C hap (fun _ h => h) hP hS (C.2.2.2.2.2.2.1 _ wq_183) dX1_arm_2 (fun H locs hP hS => ?_)
  obtain ⟨σ2, e2⟩ : ∃ z : Rg, z = upd σ 8 x1 := ⟨_, rfl⟩
  have hP : va_P D vwCl (wS Ad cy σ2 μ) H := by rw [e2]; exact hP
  have h := h σ2 e2
  refine lv_aload_n hx hb dX1_arm_5 rfl (lv_at hl 0 rfl) ?_
  refine lv_iload_n hx hb dX1_arm_6 rfl (lv_at hl 2 rfl) ?_
  refine pS_chip_mask C hap (fun _ h => h) hP hS (C.2.2.2.2.2.2.1 _ wq_185) dX1_arm_7 (fun H locs hP hS => ?_)
  obtain ⟨σ7, e7⟩ : ∃ z : Rg, z = upd σ2 9 x2 := ⟨_, rfl⟩
  have hP : va_P D vwCl (wS Ad cy σ7 μ) H := by rw [e7]; exact hP
  have h := h σ7 e7
  exact endV C hS ⟨_, _, rfl, h, hP⟩ dX1_arm_10
abbrev rmX1_hasSector : Room := { frames := 0, cells := 0, slots := 0, locals := 0 }
def wb_X1_hasSector_17 (Q : Int32 → Rg → Ar → Prop) (σ : Rg) (μ : Ar) (t0 : Int32) : Prop := (bz t0) ∧ (Q t0 σ μ)
set_option maxHeartbeats 4000000 in
set_option maxRecDepth 100000 in
theorem wk_X1_hasSector_17 {p : Program} {l : Launch} {e : Env} {s : State} {m : MethodId} {args : Array Value} {below : List Frame} {meth : Method} {c : Code} {D : va_G} {cy : ClassId} {Ad : Nat → Nat} (C : Cx p s m args meth c RX1 cX1_hasSector 2 (some FieldType.boolean) D [(cy, .int)]) (hap : apt 18 Ad) {Q : Int32 → Rg → Ar → Prop} {σ : Rg} {μ : Ar} {t0 : Int32} {H : Heap} {locs : List Loc} {ls : Array Slot} (h : wb_X1_hasSector_17 Q σ μ t0) (hP : va_P D vwCl (wS Ad cy σ μ) H) (hS : va_S (AS 18 Ad) s.heap H locs) (hl : lv_has ls 2 []) : W p l e rmX1_hasSector s m args below meth c H locs 0 0 (MQ below (Qcg (PWi (wS Ad cy) D Q) (AS 18 Ad)) args s 0 0 (AS 18 Ad)) (F0 m 17 ls [.int t0]) := by
  have hx := C.1
  have hb := C.2.1
  obtain ⟨hc, h⟩ := h
  exact endZ C hS hc ⟨_, _, _, rfl, h, hP⟩ dX1_hasSector_17
def wb_X1_hasSector_16 (Q : Int32 → Rg → Ar → Prop) (σ : Rg) (μ : Ar) : Prop := wb_X1_hasSector_17 Q σ μ (0 : Int32)
set_option maxHeartbeats 4000000 in
set_option maxRecDepth 100000 in
theorem wk_X1_hasSector_16 {p : Program} {l : Launch} {e : Env} {s : State} {m : MethodId} {args : Array Value} {below : List Frame} {meth : Method} {c : Code} {D : va_G} {cy : ClassId} {Ad : Nat → Nat} (C : Cx p s m args meth c RX1 cX1_hasSector 2 (some FieldType.boolean) D [(cy, .int)]) (hap : apt 18 Ad) {Q : Int32 → Rg → Ar → Prop} {σ : Rg} {μ : Ar}  {H : Heap} {locs : List Loc} {ls : Array Slot} (h : wb_X1_hasSector_16 Q σ μ) (hP : va_P D vwCl (wS Ad cy σ μ) H) (hS : va_S (AS 18 Ad) s.heap H locs) (hl : lv_has ls 2 []) : W p l e rmX1_hasSector s m args below meth c H locs 0 0 (MQ below (Qcg (PWi (wS Ad cy) D Q) (AS 18 Ad)) args s 0 0 (AS 18 Ad)) (F0 m 16 ls []) := by
  have hx := C.1
  have hb := C.2.1
  refine lv_iconst (v := 0) hx hb dX1_hasSector_16 (by decide) ?_
  exact wk_X1_hasSector_17 C hap h hP hS (lv_sub hl [] rfl)
def wp_X1_hasSector (σ : Rg) (μ : Ar) (x1 : Int32) (Q : Int32 → Rg → Ar → Prop) : Prop := ((x1 < 0 → wb_X1_hasSector_16 Q σ μ) ∧ (¬ x1 < 0 → (((σ 3) ≤ x1 → wb_X1_hasSector_16 Q σ μ) ∧ (¬ (σ 3) ≤ x1 → wb_X1_hasSector_17 Q σ μ (1 : Int32)))))
set_option maxHeartbeats 4000000 in
set_option maxRecDepth 100000 in
theorem ct_X1_hasSector (l : Launch) (D : va_G) (cy : ClassId) (Ad : Nat → Nat) (hap : apt 18 Ad) {σ : Rg} {μ : Ar} {x1 : Int32} {Q : Int32 → Rg → Ar → Prop} (h : wp_X1_hasSector σ μ x1 Q) : Ct l yX1_hasSector cX1_hasSector 2 (some FieldType.boolean) rmX1_hasSector D [(cy, .int)] (fun H => va_P D vwCl (wS Ad cy σ μ) H) [.ref (Ad 1), .int x1] (AS 18 Ad) (PWi (wS Ad cy) D Q) := by
  refine Ct.of (by decide) (Nat.le_of_ble_eq_true rfl) ?_
  intro p e s m below meth c ls C hP hl
  have hl : lv_has ls 2 [(0, .ref (Ad 1)), (1, .int x1)] := hl
  have hS : va_S (AS 18 Ad) s.heap s.heap [] := va_S.rf
  have hx := C.1
  have hb := C.2.1
  refine lv_iload_n hx hb dX1_hasSector_0 rfl (lv_at hl 1 rfl) ?_
  refine lv_if_lt (tgt := 16) hx hb dX1_hasSector_1 (by decide) (fun hc => ?_) (fun hc => ?_)
  · have h := h.1 hc
    exact wk_X1_hasSector_16 C hap h hP hS (lv_sub hl [] rfl)
  · have h := h.2 hc
    refine lv_iload_n hx hb dX1_hasSector_4 rfl (lv_at hl 1 rfl) ?_
    refine lv_aload_n hx hb dX1_hasSector_5 rfl (lv_at hl 0 rfl) ?_
    refine gS_chip_sectors C hP (C.2.2.2.2.2.2.1 _ wq_171) dX1_hasSector_6 ?_
    refine lv_icmp_ge (tgt := 16) hx hb dX1_hasSector_9 (by decide) (fun hc => ?_) (fun hc => ?_)
    · have h := h.1 hc
      exact wk_X1_hasSector_16 C hap h hP hS (lv_sub hl [] rfl)
    · have h := h.2 hc
      refine lv_iconst (v := 1) hx hb dX1_hasSector_12 (by decide) ?_
      refine lv_goto (tgt := 17) hx hb dX1_hasSector_13 (by decide) ?_
      exact wk_X1_hasSector_17 C hap h hP hS (lv_sub hl [] rfl)
abbrev rmX1_holds : Room := { frames := 0, cells := 0, slots := 0, locals := 0 }
def wb_X1_holds_29 (Q : Int32 → Rg → Ar → Prop) (σ : Rg) (μ : Ar) (t0 : Int32) : Prop := (bz t0) ∧ (Q t0 σ μ)
set_option maxHeartbeats 4000000 in
set_option maxRecDepth 100000 in
theorem wk_X1_holds_29 {p : Program} {l : Launch} {e : Env} {s : State} {m : MethodId} {args : Array Value} {below : List Frame} {meth : Method} {c : Code} {D : va_G} {cy : ClassId} {Ad : Nat → Nat} (C : Cx p s m args meth c RX1 cX1_holds 3 (some FieldType.boolean) D [(cy, .int)]) (hap : apt 18 Ad) {Q : Int32 → Rg → Ar → Prop} {σ : Rg} {μ : Ar} {t0 : Int32} {H : Heap} {locs : List Loc} {ls : Array Slot} (h : wb_X1_holds_29 Q σ μ t0) (hP : va_P D vwCl (wS Ad cy σ μ) H) (hS : va_S (AS 18 Ad) s.heap H locs) (hl : lv_has ls 3 []) : W p l e rmX1_holds s m args below meth c H locs 0 0 (MQ below (Qcg (PWi (wS Ad cy) D Q) (AS 18 Ad)) args s 0 0 (AS 18 Ad)) (F0 m 29 ls [.int t0]) := by
  have hx := C.1
  have hb := C.2.1
  obtain ⟨hc, h⟩ := h
  exact endZ C hS hc ⟨_, _, _, rfl, h, hP⟩ dX1_holds_29
def wb_X1_holds_28 (Q : Int32 → Rg → Ar → Prop) (σ : Rg) (μ : Ar) : Prop := wb_X1_holds_29 Q σ μ (0 : Int32)
set_option maxHeartbeats 4000000 in
set_option maxRecDepth 100000 in
theorem wk_X1_holds_28 {p : Program} {l : Launch} {e : Env} {s : State} {m : MethodId} {args : Array Value} {below : List Frame} {meth : Method} {c : Code} {D : va_G} {cy : ClassId} {Ad : Nat → Nat} (C : Cx p s m args meth c RX1 cX1_holds 3 (some FieldType.boolean) D [(cy, .int)]) (hap : apt 18 Ad) {Q : Int32 → Rg → Ar → Prop} {σ : Rg} {μ : Ar}  {H : Heap} {locs : List Loc} {ls : Array Slot} (h : wb_X1_holds_28 Q σ μ) (hP : va_P D vwCl (wS Ad cy σ μ) H) (hS : va_S (AS 18 Ad) s.heap H locs) (hl : lv_has ls 3 []) : W p l e rmX1_holds s m args below meth c H locs 0 0 (MQ below (Qcg (PWi (wS Ad cy) D Q) (AS 18 Ad)) args s 0 0 (AS 18 Ad)) (F0 m 28 ls []) := by
  have hx := C.1
  have hb := C.2.1
  refine lv_iconst (v := 0) hx hb dX1_holds_28 (by decide) ?_
  exact wk_X1_holds_29 C hap h hP hS (lv_sub hl [] rfl)
def wp_X1_holds (σ : Rg) (μ : Ar) (x1 : Int32) (x2 : Int32) (Q : Int32 → Rg → Ar → Prop) : Prop := ((x1 < 0 → wb_X1_holds_28 Q σ μ) ∧ (¬ x1 < 0 → (((σ 3) ≤ x1 → wb_X1_holds_28 Q σ μ) ∧ (¬ (σ 3) ≤ x1 → ((x2 < 0 → wb_X1_holds_28 Q σ μ) ∧ (¬ x2 < 0 → (((σ 4) ≤ x2 → wb_X1_holds_28 Q σ μ) ∧ (¬ (σ 4) ≤ x2 → wb_X1_holds_29 Q σ μ (1 : Int32)))))))))
set_option maxHeartbeats 4000000 in
set_option maxRecDepth 100000 in
theorem ct_X1_holds (l : Launch) (D : va_G) (cy : ClassId) (Ad : Nat → Nat) (hap : apt 18 Ad) {σ : Rg} {μ : Ar} {x1 : Int32} {x2 : Int32} {Q : Int32 → Rg → Ar → Prop} (h : wp_X1_holds σ μ x1 x2 Q) : Ct l yX1_holds cX1_holds 3 (some FieldType.boolean) rmX1_holds D [(cy, .int)] (fun H => va_P D vwCl (wS Ad cy σ μ) H) [.ref (Ad 1), .int x1, .int x2] (AS 18 Ad) (PWi (wS Ad cy) D Q) := by
  refine Ct.of (by decide) (Nat.le_of_ble_eq_true rfl) ?_
  intro p e s m below meth c ls C hP hl
  have hl : lv_has ls 3 [(0, .ref (Ad 1)), (1, .int x1), (2, .int x2)] := hl
  have hS : va_S (AS 18 Ad) s.heap s.heap [] := va_S.rf
  have hx := C.1
  have hb := C.2.1
  refine lv_iload_n hx hb dX1_holds_0 rfl (lv_at hl 1 rfl) ?_
  refine lv_if_lt (tgt := 28) hx hb dX1_holds_1 (by decide) (fun hc => ?_) (fun hc => ?_)
  · have h := h.1 hc
    exact wk_X1_holds_28 C hap h hP hS (lv_sub hl [] rfl)
  · have h := h.2 hc
    refine lv_iload_n hx hb dX1_holds_4 rfl (lv_at hl 1 rfl) ?_
    refine lv_aload_n hx hb dX1_holds_5 rfl (lv_at hl 0 rfl) ?_
    refine gS_chip_sectors C hP (C.2.2.2.2.2.2.1 _ wq_171) dX1_holds_6 ?_
    refine lv_icmp_ge (tgt := 28) hx hb dX1_holds_9 (by decide) (fun hc => ?_) (fun hc => ?_)
    · have h := h.1 hc
      exact wk_X1_holds_28 C hap h hP hS (lv_sub hl [] rfl)
    · have h := h.2 hc
      refine lv_iload_n hx hb dX1_holds_12 rfl (lv_at hl 2 rfl) ?_
      refine lv_if_lt (tgt := 28) hx hb dX1_holds_13 (by decide) (fun hc => ?_) (fun hc => ?_)
      · have h := h.1 hc
        exact wk_X1_holds_28 C hap h hP hS (lv_sub hl [] rfl)
      · have h := h.2 hc
        refine lv_iload_n hx hb dX1_holds_16 rfl (lv_at hl 2 rfl) ?_
        refine lv_aload_n hx hb dX1_holds_17 rfl (lv_at hl 0 rfl) ?_
        refine gS_chip_size C hP (C.2.2.2.2.2.2.1 _ wq_174) dX1_holds_18 ?_
        refine lv_icmp_ge (tgt := 28) hx hb dX1_holds_21 (by decide) (fun hc => ?_) (fun hc => ?_)
        · have h := h.1 hc
          exact wk_X1_holds_28 C hap h hP hS (lv_sub hl [] rfl)
        · have h := h.2 hc
          refine lv_iconst (v := 1) hx hb dX1_holds_24 (by decide) ?_
          refine lv_goto (tgt := 29) hx hb dX1_holds_25 (by decide) ?_
          exact wk_X1_holds_29 C hap h hP hS (lv_sub hl [] rfl)
abbrev rmX1_peek : Room := { frames := 1, cells := 0, slots := 0, locals := 22 }
def wb_X1_peek_28 (Q : Int32 → Rg → Ar → Prop) (σ : Rg) (μ : Ar) (t0 : Int32) : Prop := Q t0 σ μ
set_option maxHeartbeats 4000000 in
set_option maxRecDepth 100000 in
theorem wk_X1_peek_28 {p : Program} {l : Launch} {e : Env} {s : State} {m : MethodId} {args : Array Value} {below : List Frame} {meth : Method} {c : Code} {D : va_G} {cy : ClassId} {Ad : Nat → Nat} (C : Cx p s m args meth c RX1 cX1_peek 3 (some FieldType.int) D [(cy, .int)]) (hap : apt 18 Ad) {Q : Int32 → Rg → Ar → Prop} {σ : Rg} {μ : Ar} {t0 : Int32} {H : Heap} {locs : List Loc} {ls : Array Slot} (h : wb_X1_peek_28 Q σ μ t0) (hP : va_P D vwCl (wS Ad cy σ μ) H) (hS : va_S (AS 18 Ad) s.heap H locs) (hl : lv_has ls 3 []) : W p l e rmX1_peek s m args below meth c H locs 0 0 (MQ below (Qcg (PWi (wS Ad cy) D Q) (AS 18 Ad)) args s 0 0 (AS 18 Ad)) (F0 m 28 ls [.int t0]) := by
  have hx := C.1
  have hb := C.2.1
  exact endI C hS ⟨_, _, _, rfl, h, hP⟩ dX1_peek_28
def wp_X1_peek (σ : Rg) (μ : Ar) (x1 : Int32) (x2 : Int32) (Q : Int32 → Rg → Ar → Prop) : Prop := wp_X1_holds σ μ x1 x2 (fun r3 σ3 μ3 => ((r3 = 0 → wb_X1_peek_28 Q σ3 μ3 (255 : Int32)) ∧ (¬ r3 = 0 → (vp_in ((x1 * (σ3 4)) + x2) 768) ∧ (wb_X1_peek_28 Q σ3 μ3 (μ3 0 (((x1 * (σ3 4)) + x2)).toNatClampNeg)))))
set_option maxHeartbeats 4000000 in
set_option maxRecDepth 100000 in
theorem ct_X1_peek (l : Launch) (D : va_G) (cy : ClassId) (Ad : Nat → Nat) (hap : apt 18 Ad) {σ : Rg} {μ : Ar} {x1 : Int32} {x2 : Int32} {Q : Int32 → Rg → Ar → Prop} (h : wp_X1_peek σ μ x1 x2 Q) : Ct l yX1_peek cX1_peek 3 (some FieldType.int) rmX1_peek D [(cy, .int)] (fun H => va_P D vwCl (wS Ad cy σ μ) H) [.ref (Ad 1), .int x1, .int x2] (AS 18 Ad) (PWi (wS Ad cy) D Q) := by
  refine Ct.of (by decide) (Nat.le_of_ble_eq_true rfl) ?_
  intro p e s m below meth c ls C hP hl
  have hl : lv_has ls 3 [(0, .ref (Ad 1)), (1, .int x1), (2, .int x2)] := hl
  have hS : va_S (AS 18 Ad) s.heap s.heap [] := va_S.rf
  have hx := C.1
  have hb := C.2.1
  refine lv_aload_n hx hb dX1_peek_0 rfl (lv_at hl 0 rfl) ?_
  refine lv_iload_n hx hb dX1_peek_1 rfl (lv_at hl 1 rfl) ?_
  refine lv_iload_n hx hb dX1_peek_2 rfl (lv_at hl 2 rfl) ?_
  refine kWi (rnV C (ct_X1_holds l D cy Ad hap h) yv_X1_holds wq_386 ⟨rfl, rfl⟩ ⟨Nat.le_of_ble_eq_true rfl, Nat.le_of_ble_eq_true rfl⟩ ⟨Nat.zero_le _, Nat.zero_le _⟩ (vS_chip C hP) hP hl.1 rfl rfl (Nat.le_of_ble_eq_true rfl) dX1_peek_3) hS (fun _ h => h) (fun r3 σ3 μ3 H locs h hP hk hS => ?_)
  refine lv_if_eq (tgt := 25) hx hb dX1_peek_6 (by decide) (fun hc => ?_) (fun hc => ?_)
  · have h := h.1 hc
    refine lv_sipush (v := 255) hx hb dX1_peek_25 (by decide) ?_
    exact wk_X1_peek_28 C hap h hP hS (lv_sub hl [] rfl)
  · have h := h.2 hc
    refine lv_aload_n hx hb dX1_peek_9 rfl (lv_at hl 0 rfl) ?_
    refine gS_chip_cells C hP (C.2.2.2.2.2.2.1 _ wq_168) dX1_peek_10 ?_
    refine lv_iload_n hx hb dX1_peek_13 rfl (lv_at hl 1 rfl) ?_
    refine lv_aload_n hx hb dX1_peek_14 rfl (lv_at hl 0 rfl) ?_
    refine gS_chip_size C hP (C.2.2.2.2.2.2.1 _ wq_174) dX1_peek_15 ?_
    refine lv_imul hx hb dX1_peek_18 ?_
    refine lv_iload_n hx hb dX1_peek_19 rfl (lv_at hl 2 rfl) ?_
    refine lv_iadd hx hb dX1_peek_20 ?_
    obtain ⟨hc, h⟩ := h
    refine lS_0 C hP hc dX1_peek_21 ?_
    refine lv_goto (tgt := 28) hx hb dX1_peek_22 (by decide) ?_
    exact wk_X1_peek_28 C hap h hP hS (lv_sub hl [] rfl)
abbrev rmX1_decay : Room := { frames := 1, cells := 0, slots := 0, locals := 22 }
def wp_X1_decay (σ : Rg) (μ : Ar) (x1 : Int32) (x2 : Int32) (x3 : Int32) (Q : Int32 → Rg → Ar → Prop) : Prop := wp_X1_holds σ μ x1 x2 (fun r3 σ3 μ3 => ((¬ r3 = 0 → (vp_in ((x1 * (σ3 4)) + x2) 768) ∧ ((vp_in ((x1 * (σ3 4)) + x2) 768) ∧ (∀ μ27 : Ar, μ27 = updA μ3 0 (upd (μ3 0) (((x1 * (σ3 4)) + x2)).toNatClampNeg ((μ3 0 (((x1 * (σ3 4)) + x2)).toNatClampNeg) &&& x3)) → ((vp_in ((x1 * (σ3 4)) + x2) 768) ∧ (Q (μ27 0 (((x1 * (σ3 4)) + x2)).toNatClampNeg) σ3 μ27))))) ∧ (r3 = 0 → Q (-1 : Int32) σ3 μ3)))
set_option maxHeartbeats 4000000 in
set_option maxRecDepth 100000 in
theorem ct_X1_decay (l : Launch) (D : va_G) (cy : ClassId) (Ad : Nat → Nat) (hap : apt 18 Ad) {σ : Rg} {μ : Ar} {x1 : Int32} {x2 : Int32} {x3 : Int32} {Q : Int32 → Rg → Ar → Prop} (h : wp_X1_decay σ μ x1 x2 x3 Q) : Ct l yX1_decay cX1_decay 4 (some FieldType.int) rmX1_decay D [(cy, .int)] (fun H => va_P D vwCl (wS Ad cy σ μ) H) [.ref (Ad 1), .int x1, .int x2, .int x3] (AS 18 Ad) (PWi (wS Ad cy) D Q) := by
  refine Ct.of (by decide) (Nat.le_of_ble_eq_true rfl) ?_
  intro p e s m below meth c ls C hP hl
  have hl : lv_has ls 4 [(0, .ref (Ad 1)), (1, .int x1), (2, .int x2), (3, .int x3)] := hl
  have hS : va_S (AS 18 Ad) s.heap s.heap [] := va_S.rf
  have hx := C.1
  have hb := C.2.1
  refine lv_aload_n hx hb dX1_decay_0 rfl (lv_at hl 0 rfl) ?_
  refine lv_iload_n hx hb dX1_decay_1 rfl (lv_at hl 1 rfl) ?_
  refine lv_iload_n hx hb dX1_decay_2 rfl (lv_at hl 2 rfl) ?_
  refine kWi (rnV C (ct_X1_holds l D cy Ad hap h) yv_X1_holds wq_386 ⟨rfl, rfl⟩ ⟨Nat.le_of_ble_eq_true rfl, Nat.le_of_ble_eq_true rfl⟩ ⟨Nat.zero_le _, Nat.zero_le _⟩ (vS_chip C hP) hP hl.1 rfl rfl (Nat.le_of_ble_eq_true rfl) dX1_decay_3) hS (fun _ h => h) (fun r3 σ3 μ3 H locs h hP hk hS => ?_)
  refine lv_if_ne (tgt := 11) hx hb dX1_decay_6 (by decide) (fun hc => ?_) (fun hc => ?_)
  · have h := h.1 hc
    refine lv_aload_n hx hb dX1_decay_11 rfl (lv_at hl 0 rfl) ?_
    refine gS_chip_cells C hP (C.2.2.2.2.2.2.1 _ wq_168) dX1_decay_12 ?_
    refine lv_iload_n hx hb dX1_decay_15 rfl (lv_at hl 1 rfl) ?_
    refine lv_aload_n hx hb dX1_decay_16 rfl (lv_at hl 0 rfl) ?_
    refine gS_chip_size C hP (C.2.2.2.2.2.2.1 _ wq_174) dX1_decay_17 ?_
    refine lv_imul hx hb dX1_decay_20 ?_
    refine lv_iload_n hx hb dX1_decay_21 rfl (lv_at hl 2 rfl) ?_
    refine lv_iadd hx hb dX1_decay_22 ?_
    refine lv_dup2_11 hx hb dX1_decay_23 rfl rfl ?_
    obtain ⟨hc, h⟩ := h
    refine lS_0 C hP hc dX1_decay_24 ?_
    refine lv_iload_n hx hb dX1_decay_25 rfl (lv_at hl 3 rfl) ?_
    refine lv_iand hx hb dX1_decay_26 ?_
    obtain ⟨hc, h⟩ := h
    refine sS_0 C hap (fun _ h => h) hP hS hc dX1_decay_27 (fun H locs hP hS => ?_)
    obtain ⟨μ27, e27⟩ : ∃ z : Ar, z = updA μ3 0 (upd (μ3 0) (((x1 * (σ3 4)) + x2)).toNatClampNeg ((μ3 0 (((x1 * (σ3 4)) + x2)).toNatClampNeg) &&& x3)) := ⟨_, rfl⟩
    have hP : va_P D vwCl (wS Ad cy σ3 μ27) H := by rw [e27]; exact hP
    have h := h μ27 e27
    refine lv_aload_n hx hb dX1_decay_28 rfl (lv_at hl 0 rfl) ?_
    refine gS_chip_cells C hP (C.2.2.2.2.2.2.1 _ wq_168) dX1_decay_29 ?_
    refine lv_iload_n hx hb dX1_decay_32 rfl (lv_at hl 1 rfl) ?_
    refine lv_aload_n hx hb dX1_decay_33 rfl (lv_at hl 0 rfl) ?_
    refine gS_chip_size C hP (C.2.2.2.2.2.2.1 _ wq_174) dX1_decay_34 ?_
    refine lv_imul hx hb dX1_decay_37 ?_
    refine lv_iload_n hx hb dX1_decay_38 rfl (lv_at hl 2 rfl) ?_
    refine lv_iadd hx hb dX1_decay_39 ?_
    obtain ⟨hc, h⟩ := h
    refine lS_0 C hP hc dX1_decay_40 ?_
    exact endI C hS ⟨_, _, _, rfl, h, hP⟩ dX1_decay_41
  · have h := h.2 hc
    refine lv_iconst (v := -1) hx hb dX1_decay_9 (by decide) ?_
    exact endI C hS ⟨_, _, _, rfl, h, hP⟩ dX1_decay_10
abbrev rmX1_endures : Room := { frames := 0, cells := 0, slots := 0, locals := 0 }
def wp_X1_endures (σ : Rg) (μ : Ar) (Q : Int32 → Rg → Ar → Prop) : Prop := ∀ σ7 : Rg, σ7 = upd σ 6 ((σ 6) + (1 : Int32)) → (((¬ (σ7 8) = 0 → ∀ σ26 : Rg, σ26 = upd σ7 8 ((σ7 8) - (1 : Int32)) → ((((σ26 8) ≤ 0 → ∀ σ40 : Rg, σ40 = upd σ26 7 (0 : Int32) → (∀ σ50 : Rg, σ50 = upd σ40 10 ((σ40 10) + (1 : Int32)) → (Q (0 : Int32) σ50 μ))) ∧ (¬ (σ26 8) ≤ 0 → Q (1 : Int32) σ26 μ)))) ∧ ((σ7 8) = 0 → Q (1 : Int32) σ7 μ)))
set_option maxHeartbeats 4000000 in
set_option maxRecDepth 100000 in
theorem ct_X1_endures (l : Launch) (D : va_G) (cy : ClassId) (Ad : Nat → Nat) (hap : apt 18 Ad) {σ : Rg} {μ : Ar}  {Q : Int32 → Rg → Ar → Prop} (h : wp_X1_endures σ μ  Q) : Ct l yX1_endures cX1_endures 1 (some FieldType.boolean) rmX1_endures D [(cy, .int)] (fun H => va_P D vwCl (wS Ad cy σ μ) H) [.ref (Ad 1)] (AS 18 Ad) (PWi (wS Ad cy) D Q) := by
  refine Ct.of (by decide) (Nat.le_of_ble_eq_true rfl) ?_
  intro p e s m below meth c ls C hP hl
  have hl : lv_has ls 1 [(0, .ref (Ad 1))] := hl
  have hS : va_S (AS 18 Ad) s.heap s.heap [] := va_S.rf
  have hx := C.1
  have hb := C.2.1
  refine lv_aload_n hx hb dX1_endures_0 rfl (lv_at hl 0 rfl) ?_
  refine lv_dup hx hb dX1_endures_1 rfl ?_
  refine gS_chip_doings C hP (C.2.2.2.2.2.2.1 _ wq_178) dX1_endures_2 ?_
  refine lv_iconst (v := 1) hx hb dX1_endures_5 (by decide) ?_
  refine lv_iadd hx hb dX1_endures_6 ?_
  refine pS_chip_doings C hap (fun _ h => h) hP hS (C.2.2.2.2.2.2.1 _ wq_178) dX1_endures_7 (fun H locs hP hS => ?_)
  obtain ⟨σ7, e7⟩ : ∃ z : Rg, z = upd σ 6 ((σ 6) + (1 : Int32)) := ⟨_, rfl⟩
  have hP : va_P D vwCl (wS Ad cy σ7 μ) H := by rw [e7]; exact hP
  have h := h σ7 e7
  refine lv_aload_n hx hb dX1_endures_10 rfl (lv_at hl 0 rfl) ?_
  refine gS_chip_powerIn C hP (C.2.2.2.2.2.2.1 _ wq_183) dX1_endures_11 ?_
  refine lv_if_ne (tgt := 19) hx hb dX1_endures_14 (by decide) (fun hc => ?_) (fun hc => ?_)
  · have h := h.1 hc
    refine lv_aload_n hx hb dX1_endures_19 rfl (lv_at hl 0 rfl) ?_
    refine lv_dup hx hb dX1_endures_20 rfl ?_
    refine gS_chip_powerIn C hP (C.2.2.2.2.2.2.1 _ wq_183) dX1_endures_21 ?_
    refine lv_iconst (v := 1) hx hb dX1_endures_24 (by decide) ?_
    refine lv_isub hx hb dX1_endures_25 ?_
    refine pS_chip_powerIn C hap (fun _ h => h) hP hS (C.2.2.2.2.2.2.1 _ wq_183) dX1_endures_26 (fun H locs hP hS => ?_)
    obtain ⟨σ26, e26⟩ : ∃ z : Rg, z = upd σ7 8 ((σ7 8) - (1 : Int32)) := ⟨_, rfl⟩
    have hP : va_P D vwCl (wS Ad cy σ26 μ) H := by rw [e26]; exact hP
    have h := h σ26 e26
    refine lv_aload_n hx hb dX1_endures_29 rfl (lv_at hl 0 rfl) ?_
    refine gS_chip_powerIn C hP (C.2.2.2.2.2.2.1 _ wq_183) dX1_endures_30 ?_
    refine lv_if_le (tgt := 38) hx hb dX1_endures_33 (by decide) (fun hc => ?_) (fun hc => ?_)
    · have h := h.1 hc
      refine lv_aload_n hx hb dX1_endures_38 rfl (lv_at hl 0 rfl) ?_
      refine lv_iconst (v := 0) hx hb dX1_endures_39 (by decide) ?_
      refine pS_chip_powered C hap (fun _ h => h) hP hS bz0 (C.2.2.2.2.2.2.1 _ wq_181) dX1_endures_40 (fun H locs hP hS => ?_)
      obtain ⟨σ40, e40⟩ : ∃ z : Rg, z = upd σ26 7 (0 : Int32) := ⟨_, rfl⟩
      have hP : va_P D vwCl (wS Ad cy σ40 μ) H := by rw [e40]; exact hP
      have h := h σ40 e40
      refine lv_aload_n hx hb dX1_endures_43 rfl (lv_at hl 0 rfl) ?_
      refine lv_dup hx hb dX1_endures_44 rfl ?_
      refine gS_chip_outages C hP (C.2.2.2.2.2.2.1 _ wq_186) dX1_endures_45 ?_
      refine lv_iconst (v := 1) hx hb dX1_endures_48 (by decide) ?_
      refine lv_iadd hx hb dX1_endures_49 ?_
      refine pS_chip_outages C hap (fun _ h => h) hP hS (C.2.2.2.2.2.2.1 _ wq_186) dX1_endures_50 (fun H locs hP hS => ?_)
      obtain ⟨σ50, e50⟩ : ∃ z : Rg, z = upd σ40 10 ((σ40 10) + (1 : Int32)) := ⟨_, rfl⟩
      have hP : va_P D vwCl (wS Ad cy σ50 μ) H := by rw [e50]; exact hP
      have h := h σ50 e50
      refine lv_iconst (v := 0) hx hb dX1_endures_53 (by decide) ?_
      exact endZ C hS bz0 ⟨_, _, _, rfl, h, hP⟩ dX1_endures_54
    · have h := h.2 hc
      refine lv_iconst (v := 1) hx hb dX1_endures_36 (by decide) ?_
      exact endZ C hS bz1 ⟨_, _, _, rfl, h, hP⟩ dX1_endures_37
  · have h := h.2 hc
    refine lv_iconst (v := 1) hx hb dX1_endures_17 (by decide) ?_
    exact endZ C hS bz1 ⟨_, _, _, rfl, h, hP⟩ dX1_endures_18
abbrev rmX1_write : Room := { frames := 1, cells := 0, slots := 0, locals := 22 }
def wb_X1_write_16 (Q : Rg → Ar → Prop) (σ : Rg) (μ : Ar) : Prop := Q σ μ
set_option maxHeartbeats 4000000 in
set_option maxRecDepth 100000 in
theorem wk_X1_write_16 {p : Program} {l : Launch} {e : Env} {s : State} {m : MethodId} {args : Array Value} {below : List Frame} {meth : Method} {c : Code} {D : va_G} {cy : ClassId} {Ad : Nat → Nat} (C : Cx p s m args meth c RX1 cX1_write 5 (none : Option FieldType) D [(cy, .int)]) (hap : apt 18 Ad) {Q : Rg → Ar → Prop} {σ : Rg} {μ : Ar}  {H : Heap} {locs : List Loc} {ls : Array Slot} (h : wb_X1_write_16 Q σ μ) (hP : va_P D vwCl (wS Ad cy σ μ) H) (hS : va_S (AS 18 Ad) s.heap H locs) (hl : lv_has ls 5 []) : W p l e rmX1_write s m args below meth c H locs 0 0 (MQ below (Qcg (PWv (wS Ad cy) D Q) (AS 18 Ad)) args s 0 0 (AS 18 Ad)) (F0 m 16 ls []) := by
  have hx := C.1
  have hb := C.2.1
  exact endV C hS ⟨_, _, rfl, h, hP⟩ dX1_write_16
def wb_X1_write_34 (Q : Rg → Ar → Prop) (σ : Rg) (μ : Ar) (v1 : Int32) (v2 : Int32) (v3 : Int32) (t0 : Int32) : Prop := (vp_in ((v1 * (σ 4)) + v2) 768) ∧ ((vp_in ((v1 * (σ 4)) + v2) 768) ∧ (∀ μ59 : Ar, μ59 = updA μ 0 (upd (μ 0) (((v1 * (σ 4)) + v2)).toNatClampNeg ((μ 0 (((v1 * (σ 4)) + v2)).toNatClampNeg) &&& (v3 ||| ((255 : Int32) ^^^ t0)))) → (∀ σ67 : Rg, σ67 = upd σ 5 ((σ 5) + (1 : Int32)) → (Q σ67 μ59))))
set_option maxHeartbeats 4000000 in
set_option maxRecDepth 100000 in
theorem wk_X1_write_34 {p : Program} {l : Launch} {e : Env} {s : State} {m : MethodId} {args : Array Value} {below : List Frame} {meth : Method} {c : Code} {D : va_G} {cy : ClassId} {Ad : Nat → Nat} (C : Cx p s m args meth c RX1 cX1_write 5 (none : Option FieldType) D [(cy, .int)]) (hap : apt 18 Ad) {Q : Rg → Ar → Prop} {σ : Rg} {μ : Ar} {v1 : Int32} {v2 : Int32} {v3 : Int32} {t0 : Int32} {H : Heap} {locs : List Loc} {ls : Array Slot} (h : wb_X1_write_34 Q σ μ v1 v2 v3 t0) (hP : va_P D vwCl (wS Ad cy σ μ) H) (hS : va_S (AS 18 Ad) s.heap H locs) (hl : lv_has ls 5 [(0, .ref (Ad 1)), (1, .int v1), (2, .int v2), (3, .int v3)]) : W p l e rmX1_write s m args below meth c H locs 0 0 (MQ below (Qcg (PWv (wS Ad cy) D Q) (AS 18 Ad)) args s 0 0 (AS 18 Ad)) (F0 m 34 ls [.int t0]) := by
  have hx := C.1
  have hb := C.2.1
  refine lv_istore (lv' := [(4, .int t0), (0, .ref (Ad 1)), (1, .int v1), (2, .int v2), (3, .int v3)]) hx hb dX1_write_34 hl (by decide) rfl (fun ls hl => ?_)
  refine lv_aload_n hx hb dX1_write_36 rfl (lv_at hl 1 rfl) ?_
  refine gS_chip_cells C hP (C.2.2.2.2.2.2.1 _ wq_168) dX1_write_37 ?_
  refine lv_iload_n hx hb dX1_write_40 rfl (lv_at hl 2 rfl) ?_
  refine lv_aload_n hx hb dX1_write_41 rfl (lv_at hl 1 rfl) ?_
  refine gS_chip_size C hP (C.2.2.2.2.2.2.1 _ wq_174) dX1_write_42 ?_
  refine lv_imul hx hb dX1_write_45 ?_
  refine lv_iload_n hx hb dX1_write_46 rfl (lv_at hl 3 rfl) ?_
  refine lv_iadd hx hb dX1_write_47 ?_
  refine lv_dup2_11 hx hb dX1_write_48 rfl rfl ?_
  obtain ⟨hc, h⟩ := h
  refine lS_0 C hP hc dX1_write_49 ?_
  refine lv_iload_n hx hb dX1_write_50 rfl (lv_at hl 4 rfl) ?_
  refine lv_sipush (v := 255) hx hb dX1_write_51 (by decide) ?_
  refine lv_iload hx hb dX1_write_54 (lv_at hl 0 rfl) ?_
  refine lv_ixor hx hb dX1_write_56 ?_
  refine lv_ior hx hb dX1_write_57 ?_
  refine lv_iand hx hb dX1_write_58 ?_
  obtain ⟨hc, h⟩ := h
  refine sS_0 C hap (fun _ h => h) hP hS hc dX1_write_59 (fun H locs hP hS => ?_)
  obtain ⟨μ59, e59⟩ : ∃ z : Ar, z = updA μ 0 (upd (μ 0) (((v1 * (σ 4)) + v2)).toNatClampNeg ((μ 0 (((v1 * (σ 4)) + v2)).toNatClampNeg) &&& (v3 ||| ((255 : Int32) ^^^ t0)))) := ⟨_, rfl⟩
  have hP : va_P D vwCl (wS Ad cy σ μ59) H := by rw [e59]; exact hP
  have h := h μ59 e59
  refine lv_aload_n hx hb dX1_write_60 rfl (lv_at hl 1 rfl) ?_
  refine lv_dup hx hb dX1_write_61 rfl ?_
  refine gS_chip_writes C hP (C.2.2.2.2.2.2.1 _ wq_176) dX1_write_62 ?_
  refine lv_iconst (v := 1) hx hb dX1_write_65 (by decide) ?_
  refine lv_iadd hx hb dX1_write_66 ?_
  refine pS_chip_writes C hap (fun _ h => h) hP hS (C.2.2.2.2.2.2.1 _ wq_176) dX1_write_67 (fun H locs hP hS => ?_)
  obtain ⟨σ67, e67⟩ : ∃ z : Rg, z = upd σ 5 ((σ 5) + (1 : Int32)) := ⟨_, rfl⟩
  have hP : va_P D vwCl (wS Ad cy σ67 μ59) H := by rw [e67]; exact hP
  have h := h σ67 e67
  exact endV C hS ⟨_, _, rfl, h, hP⟩ dX1_write_70
def wp_X1_write (σ : Rg) (μ : Ar) (x1 : Int32) (x2 : Int32) (x3 : Int32) (Q : Rg → Ar → Prop) : Prop := (((σ 7) = 0 → wb_X1_write_16 Q σ μ) ∧ (¬ (σ 7) = 0 → wp_X1_holds σ μ x1 x2 (fun r10 σ10 μ10 => ((¬ r10 = 0 → wp_X1_endures σ10 μ10  (fun r18 σ18 μ18 => ((r18 = 0 → wb_X1_write_34 Q σ18 μ18 x1 x2 x3 (σ18 9)) ∧ (¬ r18 = 0 → wb_X1_write_34 Q σ18 μ18 x1 x2 x3 (255 : Int32))))) ∧ (r10 = 0 → wb_X1_write_16 Q σ10 μ10)))))
set_option maxHeartbeats 4000000 in
set_option maxRecDepth 100000 in
theorem ct_X1_write (l : Launch) (D : va_G) (cy : ClassId) (Ad : Nat → Nat) (hap : apt 18 Ad) {σ : Rg} {μ : Ar} {x1 : Int32} {x2 : Int32} {x3 : Int32} {Q : Rg → Ar → Prop} (h : wp_X1_write σ μ x1 x2 x3 Q) : Ct l yX1_write cX1_write 5 (none : Option FieldType) rmX1_write D [(cy, .int)] (fun H => va_P D vwCl (wS Ad cy σ μ) H) [.ref (Ad 1), .int x1, .int x2, .int x3] (AS 18 Ad) (PWv (wS Ad cy) D Q) := by
  refine Ct.of (by decide) (Nat.le_of_ble_eq_true rfl) ?_
  intro p e s m below meth c ls C hP hl
  have hl : lv_has ls 5 [(0, .ref (Ad 1)), (1, .int x1), (2, .int x2), (3, .int x3)] := hl
  have hS : va_S (AS 18 Ad) s.heap s.heap [] := va_S.rf
  have hx := C.1
  have hb := C.2.1
  refine lv_aload_n hx hb dX1_write_0 rfl (lv_at hl 0 rfl) ?_
  refine gS_chip_powered C hP (C.2.2.2.2.2.2.1 _ wq_181) dX1_write_1 ?_
  refine lv_if_eq (tgt := 16) hx hb dX1_write_4 (by decide) (fun hc => ?_) (fun hc => ?_)
  · have h := h.1 hc
    exact wk_X1_write_16 C hap h hP hS (lv_sub hl [] rfl)
  · have h := h.2 hc
    refine lv_aload_n hx hb dX1_write_7 rfl (lv_at hl 0 rfl) ?_
    refine lv_iload_n hx hb dX1_write_8 rfl (lv_at hl 1 rfl) ?_
    refine lv_iload_n hx hb dX1_write_9 rfl (lv_at hl 2 rfl) ?_
    refine kWi (rnV C (ct_X1_holds l D cy Ad hap h) yv_X1_holds wq_386 ⟨rfl, rfl⟩ ⟨Nat.le_of_ble_eq_true rfl, Nat.le_of_ble_eq_true rfl⟩ ⟨Nat.zero_le _, Nat.zero_le _⟩ (vS_chip C hP) hP hl.1 rfl rfl (Nat.le_of_ble_eq_true rfl) dX1_write_10) hS (fun _ h => h) (fun r10 σ10 μ10 H locs h hP hk hS => ?_)
    refine lv_if_ne (tgt := 17) hx hb dX1_write_13 (by decide) (fun hc => ?_) (fun hc => ?_)
    · have h := h.1 hc
      refine lv_aload_n hx hb dX1_write_17 rfl (lv_at hl 0 rfl) ?_
      refine kWi (rnV C (ct_X1_endures l D cy Ad hap h) yv_X1_endures wq_417 ⟨rfl, rfl⟩ ⟨Nat.le_of_ble_eq_true rfl, Nat.le_of_ble_eq_true rfl⟩ ⟨Nat.zero_le _, Nat.zero_le _⟩ (vS_chip C hP) hP hl.1 rfl rfl (Nat.le_of_ble_eq_true rfl) dX1_write_18) hS (fun _ h => h) (fun r18 σ18 μ18 H locs h hP hk hS => ?_)
      refine lv_if_eq (tgt := 30) hx hb dX1_write_21 (by decide) (fun hc => ?_) (fun hc => ?_)
      · have h := h.1 hc
        refine lv_aload_n hx hb dX1_write_30 rfl (lv_at hl 0 rfl) ?_
        refine gS_chip_mask C hP (C.2.2.2.2.2.2.1 _ wq_185) dX1_write_31 ?_
        exact wk_X1_write_34 C hap h hP hS (lv_sub hl [0, 1, 2, 3] rfl)
      · have h := h.2 hc
        refine lv_sipush (v := 255) hx hb dX1_write_24 (by decide) ?_
        refine lv_goto (tgt := 34) hx hb dX1_write_27 (by decide) ?_
        exact wk_X1_write_34 C hap h hP hS (lv_sub hl [0, 1, 2, 3] rfl)
    · have h := h.2 hc
      exact wk_X1_write_16 C hap h hP hS (lv_sub hl [] rfl)
abbrev rmX1_erase : Room := { frames := 1, cells := 0, slots := 0, locals := 21 }
def wb_X1_erase_15 (Q : Rg → Ar → Prop) (σ : Rg) (μ : Ar) : Prop := Q σ μ
set_option maxHeartbeats 4000000 in
set_option maxRecDepth 100000 in
theorem wk_X1_erase_15 {p : Program} {l : Launch} {e : Env} {s : State} {m : MethodId} {args : Array Value} {below : List Frame} {meth : Method} {c : Code} {D : va_G} {cy : ClassId} {Ad : Nat → Nat} (C : Cx p s m args meth c RX1 cX1_erase 4 (none : Option FieldType) D [(cy, .int)]) (hap : apt 18 Ad) {Q : Rg → Ar → Prop} {σ : Rg} {μ : Ar}  {H : Heap} {locs : List Loc} {ls : Array Slot} (h : wb_X1_erase_15 Q σ μ) (hP : va_P D vwCl (wS Ad cy σ μ) H) (hS : va_S (AS 18 Ad) s.heap H locs) (hl : lv_has ls 4 []) : W p l e rmX1_erase s m args below meth c H locs 0 0 (MQ below (Qcg (PWv (wS Ad cy) D Q) (AS 18 Ad)) args s 0 0 (AS 18 Ad)) (F0 m 15 ls []) := by
  have hx := C.1
  have hb := C.2.1
  exact endV C hS ⟨_, _, rfl, h, hP⟩ dX1_erase_15
def wb_X1_erase_39 (Q : Rg → Ar → Prop) (k39 : Rg → Ar → Int32 → Int32 → Int32 → Prop) (σ : Rg) (μ : Ar) (v1 : Int32) (v2 : Int32) (v3 : Int32) : Prop := ((v2 ≤ v3 → (vp_in v1 6) ∧ ((vp_in v1 6) ∧ (∀ μ75 : Ar, μ75 = updA μ 1 (upd (μ 1) (v1).toNatClampNeg ((μ 1 (v1).toNatClampNeg) + (1 : Int32))) → (Q σ μ75)))) ∧ (¬ v2 ≤ v3 → (vp_in ((v1 * (σ 4)) + v3) 768) ∧ (∀ μ59 : Ar, μ59 = updA μ 0 (upd (μ 0) (((v1 * (σ 4)) + v3)).toNatClampNeg (255 : Int32)) → (∀ y60 : Int32, y60 = v3 + (1 : Int32) → (k39 σ μ59 v1 v2 y60)))))
set_option maxHeartbeats 4000000 in
set_option maxRecDepth 100000 in
theorem wk_X1_erase_39 {p : Program} {l : Launch} {e : Env} {s : State} {m : MethodId} {args : Array Value} {below : List Frame} {meth : Method} {c : Code} {D : va_G} {cy : ClassId} {Ad : Nat → Nat} (C : Cx p s m args meth c RX1 cX1_erase 4 (none : Option FieldType) D [(cy, .int)]) (hap : apt 18 Ad) {Q : Rg → Ar → Prop} {k39 : Rg → Ar → Int32 → Int32 → Int32 → Prop} (hk39 : ∀ {σ : Rg} {μ : Ar} {v1 : Int32} {v2 : Int32} {v3 : Int32} {H : Heap} {locs : List Loc} {ls : Array Slot}, k39 σ μ v1 v2 v3 → va_P D vwCl (wS Ad cy σ μ) H → va_S (AS 18 Ad) s.heap H locs → lv_has ls 4 [(0, .ref (Ad 1)), (1, .int v1), (2, .int v2), (3, .int v3)] → W p l e rmX1_erase s m args below meth c H locs 0 0 (MQ below (Qcg (PWv (wS Ad cy) D Q) (AS 18 Ad)) args s 0 0 (AS 18 Ad)) (F0 m 39 ls [])) {σ : Rg} {μ : Ar} {v1 : Int32} {v2 : Int32} {v3 : Int32} {H : Heap} {locs : List Loc} {ls : Array Slot} (h : wb_X1_erase_39 Q k39 σ μ v1 v2 v3) (hP : va_P D vwCl (wS Ad cy σ μ) H) (hS : va_S (AS 18 Ad) s.heap H locs) (hl : lv_has ls 4 [(0, .ref (Ad 1)), (1, .int v1), (2, .int v2), (3, .int v3)]) : W p l e rmX1_erase s m args below meth c H locs 0 0 (MQ below (Qcg (PWv (wS Ad cy) D Q) (AS 18 Ad)) args s 0 0 (AS 18 Ad)) (F0 m 39 ls []) := by
  have hx := C.1
  have hb := C.2.1
  refine lv_iload_n hx hb dX1_erase_39 rfl (lv_at hl 3 rfl) ?_
  refine lv_iload_n hx hb dX1_erase_40 rfl (lv_at hl 2 rfl) ?_
  refine lv_icmp_ge (tgt := 66) hx hb dX1_erase_41 (by decide) (fun hc => ?_) (fun hc => ?_)
  · have h := h.1 hc
    refine lv_aload_n hx hb dX1_erase_66 rfl (lv_at hl 0 rfl) ?_
    refine gS_chip_erases C hP (C.2.2.2.2.2.2.1 _ wq_169) dX1_erase_67 ?_
    refine lv_iload_n hx hb dX1_erase_70 rfl (lv_at hl 1 rfl) ?_
    refine lv_dup2_11 hx hb dX1_erase_71 rfl rfl ?_
    obtain ⟨hc, h⟩ := h
    refine lS_1 C hP hc dX1_erase_72 ?_
    refine lv_iconst (v := 1) hx hb dX1_erase_73 (by decide) ?_
    refine lv_iadd hx hb dX1_erase_74 ?_
    obtain ⟨hc, h⟩ := h
    refine sS_1 C hap (fun _ h => h) hP hS hc dX1_erase_75 (fun H locs hP hS => ?_)
    obtain ⟨μ75, e75⟩ : ∃ z : Ar, z = updA μ 1 (upd (μ 1) (v1).toNatClampNeg ((μ 1 (v1).toNatClampNeg) + (1 : Int32))) := ⟨_, rfl⟩
    have hP : va_P D vwCl (wS Ad cy σ μ75) H := by rw [e75]; exact hP
    have h := h μ75 e75
    exact endV C hS ⟨_, _, rfl, h, hP⟩ dX1_erase_76
  · have h := h.2 hc
    refine lv_aload_n hx hb dX1_erase_44 rfl (lv_at hl 0 rfl) ?_
    refine gS_chip_cells C hP (C.2.2.2.2.2.2.1 _ wq_168) dX1_erase_45 ?_
    refine lv_iload_n hx hb dX1_erase_48 rfl (lv_at hl 1 rfl) ?_
    refine lv_aload_n hx hb dX1_erase_49 rfl (lv_at hl 0 rfl) ?_
    refine gS_chip_size C hP (C.2.2.2.2.2.2.1 _ wq_174) dX1_erase_50 ?_
    refine lv_imul hx hb dX1_erase_53 ?_
    refine lv_iload_n hx hb dX1_erase_54 rfl (lv_at hl 3 rfl) ?_
    refine lv_iadd hx hb dX1_erase_55 ?_
    refine lv_sipush (v := 255) hx hb dX1_erase_56 (by decide) ?_
    obtain ⟨hc, h⟩ := h
    refine sS_0 C hap (fun _ h => h) hP hS hc dX1_erase_59 (fun H locs hP hS => ?_)
    obtain ⟨μ59, e59⟩ : ∃ z : Ar, z = updA μ 0 (upd (μ 0) (((v1 * (σ 4)) + v3)).toNatClampNeg (255 : Int32)) := ⟨_, rfl⟩
    have hP : va_P D vwCl (wS Ad cy σ μ59) H := by rw [e59]; exact hP
    have h := h μ59 e59
    obtain ⟨y60, e60⟩ : ∃ y : Int32, y = v3 + (1 : Int32) := ⟨_, rfl⟩
    have h := h y60 e60
    refine lv_iinc (v := y60) (lv' := [(3, .int y60), (0, .ref (Ad 1)), (1, .int v1), (2, .int v2)]) hx hb dX1_erase_60 hl (k := 3) rfl (by rw [e60]; rfl) (by decide) rfl (fun ls hl => ?_)
    refine lv_goto (tgt := 39) hx hb dX1_erase_63 (by decide) ?_
    exact hk39 h hP hS (lv_sub hl [1, 2, 3, 0] rfl)
def wl_X1_erase_39 (Q : Rg → Ar → Prop) (n : Nat) : Rg → Ar → Int32 → Int32 → Int32 → Prop := Nat.rec (motive := fun _ => Rg → Ar → Int32 → Int32 → Int32 → Prop) (fun _ _ _ _ _ => False) (fun _ k => wb_X1_erase_39 Q k) n
set_option maxHeartbeats 4000000 in
theorem wkl_X1_erase_39 {p : Program} {l : Launch} {e : Env} {s : State} {m : MethodId} {args : Array Value} {below : List Frame} {meth : Method} {c : Code} {D : va_G} {cy : ClassId} {Ad : Nat → Nat} (C : Cx p s m args meth c RX1 cX1_erase 4 (none : Option FieldType) D [(cy, .int)]) (hap : apt 18 Ad) {Q : Rg → Ar → Prop}  : ∀ (n : Nat) {σ : Rg} {μ : Ar} {v1 : Int32} {v2 : Int32} {v3 : Int32} {H : Heap} {locs : List Loc} {ls : Array Slot} (h : wl_X1_erase_39 Q  n σ μ v1 v2 v3) (hP : va_P D vwCl (wS Ad cy σ μ) H) (hS : va_S (AS 18 Ad) s.heap H locs) (hl : lv_has ls 4 [(0, .ref (Ad 1)), (1, .int v1), (2, .int v2), (3, .int v3)]), W p l e rmX1_erase s m args below meth c H locs 0 0 (MQ below (Qcg (PWv (wS Ad cy) D Q) (AS 18 Ad)) args s 0 0 (AS 18 Ad)) (F0 m 39 ls []) := by
  intro n
  induction n with
  | zero => intro σ μ v1 v2 v3 H locs ls h; exact h.elim
  | succ n ih =>
    intro σ μ v1 v2 v3 H locs ls h hP hS hl
    exact wk_X1_erase_39 C hap (fun h hP hS hl => ih h hP hS hl) h hP hS hl
def wb_X1_erase_36 (Q : Rg → Ar → Prop) (σ : Rg) (μ : Ar) (v1 : Int32) (t0 : Int32) : Prop := ∃ n, wl_X1_erase_39 Q n σ μ v1 t0 (0 : Int32)
set_option maxHeartbeats 4000000 in
set_option maxRecDepth 100000 in
theorem wk_X1_erase_36 {p : Program} {l : Launch} {e : Env} {s : State} {m : MethodId} {args : Array Value} {below : List Frame} {meth : Method} {c : Code} {D : va_G} {cy : ClassId} {Ad : Nat → Nat} (C : Cx p s m args meth c RX1 cX1_erase 4 (none : Option FieldType) D [(cy, .int)]) (hap : apt 18 Ad) {Q : Rg → Ar → Prop} {σ : Rg} {μ : Ar} {v1 : Int32} {t0 : Int32} {H : Heap} {locs : List Loc} {ls : Array Slot} (h : wb_X1_erase_36 Q σ μ v1 t0) (hP : va_P D vwCl (wS Ad cy σ μ) H) (hS : va_S (AS 18 Ad) s.heap H locs) (hl : lv_has ls 4 [(0, .ref (Ad 1)), (1, .int v1)]) : W p l e rmX1_erase s m args below meth c H locs 0 0 (MQ below (Qcg (PWv (wS Ad cy) D Q) (AS 18 Ad)) args s 0 0 (AS 18 Ad)) (F0 m 36 ls [.int t0]) := by
  have hx := C.1
  have hb := C.2.1
  refine lv_istore_n (lv' := [(2, .int t0), (0, .ref (Ad 1)), (1, .int v1)]) hx hb dX1_erase_36 rfl hl (by decide) rfl (fun ls hl => ?_)
  refine lv_iconst (v := 0) hx hb dX1_erase_37 (by decide) ?_
  refine lv_istore_n (lv' := [(3, .int (0 : Int32)), (2, .int t0), (0, .ref (Ad 1)), (1, .int v1)]) hx hb dX1_erase_38 rfl hl (by decide) rfl (fun ls hl => ?_)
  obtain ⟨n, h⟩ := h
  exact wkl_X1_erase_39 C hap n h hP hS (lv_sub hl [2, 3, 1, 0] rfl)
def wp_X1_erase (σ : Rg) (μ : Ar) (x1 : Int32) (Q : Rg → Ar → Prop) : Prop := (((σ 7) = 0 → wb_X1_erase_15 Q σ μ) ∧ (¬ (σ 7) = 0 → wp_X1_hasSector σ μ x1 (fun r9 σ9 μ9 => ((¬ r9 = 0 → wp_X1_endures σ9 μ9  (fun r17 σ17 μ17 => ((r17 = 0 → wb_X1_erase_36 Q σ17 μ17 x1 ((σ17 4) / (2 : Int32))) ∧ (¬ r17 = 0 → wb_X1_erase_36 Q σ17 μ17 x1 (σ17 4))))) ∧ (r9 = 0 → wb_X1_erase_15 Q σ9 μ9)))))
set_option maxHeartbeats 4000000 in
set_option maxRecDepth 100000 in
theorem ct_X1_erase (l : Launch) (D : va_G) (cy : ClassId) (Ad : Nat → Nat) (hap : apt 18 Ad) {σ : Rg} {μ : Ar} {x1 : Int32} {Q : Rg → Ar → Prop} (h : wp_X1_erase σ μ x1 Q) : Ct l yX1_erase cX1_erase 4 (none : Option FieldType) rmX1_erase D [(cy, .int)] (fun H => va_P D vwCl (wS Ad cy σ μ) H) [.ref (Ad 1), .int x1] (AS 18 Ad) (PWv (wS Ad cy) D Q) := by
  refine Ct.of (by decide) (Nat.le_of_ble_eq_true rfl) ?_
  intro p e s m below meth c ls C hP hl
  have hl : lv_has ls 4 [(0, .ref (Ad 1)), (1, .int x1)] := hl
  have hS : va_S (AS 18 Ad) s.heap s.heap [] := va_S.rf
  have hx := C.1
  have hb := C.2.1
  refine lv_aload_n hx hb dX1_erase_0 rfl (lv_at hl 0 rfl) ?_
  refine gS_chip_powered C hP (C.2.2.2.2.2.2.1 _ wq_181) dX1_erase_1 ?_
  refine lv_if_eq (tgt := 15) hx hb dX1_erase_4 (by decide) (fun hc => ?_) (fun hc => ?_)
  · have h := h.1 hc
    exact wk_X1_erase_15 C hap h hP hS (lv_sub hl [] rfl)
  · have h := h.2 hc
    refine lv_aload_n hx hb dX1_erase_7 rfl (lv_at hl 0 rfl) ?_
    refine lv_iload_n hx hb dX1_erase_8 rfl (lv_at hl 1 rfl) ?_
    refine kWi (rnV C (ct_X1_hasSector l D cy Ad hap h) yv_X1_hasSector wq_409 ⟨rfl, rfl⟩ ⟨Nat.le_of_ble_eq_true rfl, Nat.le_of_ble_eq_true rfl⟩ ⟨Nat.zero_le _, Nat.zero_le _⟩ (vS_chip C hP) hP hl.1 rfl rfl (Nat.le_of_ble_eq_true rfl) dX1_erase_9) hS (fun _ h => h) (fun r9 σ9 μ9 H locs h hP hk hS => ?_)
    refine lv_if_ne (tgt := 16) hx hb dX1_erase_12 (by decide) (fun hc => ?_) (fun hc => ?_)
    · have h := h.1 hc
      refine lv_aload_n hx hb dX1_erase_16 rfl (lv_at hl 0 rfl) ?_
      refine kWi (rnV C (ct_X1_endures l D cy Ad hap h) yv_X1_endures wq_417 ⟨rfl, rfl⟩ ⟨Nat.le_of_ble_eq_true rfl, Nat.le_of_ble_eq_true rfl⟩ ⟨Nat.zero_le _, Nat.zero_le _⟩ (vS_chip C hP) hP hl.1 rfl rfl (Nat.le_of_ble_eq_true rfl) dX1_erase_17) hS (fun _ h => h) (fun r17 σ17 μ17 H locs h hP hk hS => ?_)
      refine lv_if_eq (tgt := 30) hx hb dX1_erase_20 (by decide) (fun hc => ?_) (fun hc => ?_)
      · have h := h.1 hc
        refine lv_aload_n hx hb dX1_erase_30 rfl (lv_at hl 0 rfl) ?_
        refine gS_chip_size C hP (C.2.2.2.2.2.2.1 _ wq_174) dX1_erase_31 ?_
        refine lv_iconst (v := 2) hx hb dX1_erase_34 (by decide) ?_
        refine lv_idiv hx hb dX1_erase_35 (by decide) ?_
        exact wk_X1_erase_36 C hap h hP hS (lv_sub hl [0, 1] rfl)
      · have h := h.2 hc
        refine lv_aload_n hx hb dX1_erase_23 rfl (lv_at hl 0 rfl) ?_
        refine gS_chip_size C hP (C.2.2.2.2.2.2.1 _ wq_174) dX1_erase_24 ?_
        refine lv_goto (tgt := 36) hx hb dX1_erase_27 (by decide) ?_
        exact wk_X1_erase_36 C hap h hP hS (lv_sub hl [0, 1] rfl)
    · have h := h.2 hc
      exact wk_X1_erase_15 C hap h hP hS (lv_sub hl [] rfl)
abbrev rmX1_makeReady : Room := { frames := 2, cells := 0, slots := 0, locals := 46 }
def wp_X1_makeReady (σ : Rg) (μ : Ar) (x1 : Int32) (x2 : Int32) (Q : Rg → Ar → Prop) : Prop := ∀ y5 : Int32, y5 = (x2 / (256 : Int32)) → (∀ y11 : Int32, y11 = (x2 - x2 / (256 : Int32) * (256 : Int32)) → (wp_X1_write σ μ x1 (1 : Int32) y5 (fun σ17 μ17 => wp_X1_write σ17 μ17 x1 (2 : Int32) y11 (fun σ25 μ25 => wp_X5_checkOf (y5 + y11) (fun r35 => wp_X1_write σ25 μ25 x1 (3 : Int32) r35 (fun σ38 μ38 => wp_X1_write σ38 μ38 x1 (0 : Int32) (127 : Int32) (fun σ46 μ46 => Q σ46 μ46)))))))
set_option maxHeartbeats 4000000 in
set_option maxRecDepth 100000 in
theorem ct_X1_makeReady (l : Launch) (D : va_G) (cy : ClassId) (Ad : Nat → Nat) (hap : apt 18 Ad) {σ : Rg} {μ : Ar} {x1 : Int32} {x2 : Int32} {Q : Rg → Ar → Prop} (h : wp_X1_makeReady σ μ x1 x2 Q) : Ct l yX1_makeReady cX1_makeReady 5 (none : Option FieldType) rmX1_makeReady D [(cy, .int)] (fun H => va_P D vwCl (wS Ad cy σ μ) H) [.ref (Ad 1), .int x1, .int x2] (AS 18 Ad) (PWv (wS Ad cy) D Q) := by
  refine Ct.of (by decide) (Nat.le_of_ble_eq_true rfl) ?_
  intro p e s m below meth c ls C hP hl
  have hl : lv_has ls 5 [(0, .ref (Ad 1)), (1, .int x1), (2, .int x2)] := hl
  have hS : va_S (AS 18 Ad) s.heap s.heap [] := va_S.rf
  have hx := C.1
  have hb := C.2.1
  refine lv_iload_n hx hb dX1_makeReady_0 rfl (lv_at hl 2 rfl) ?_
  refine lv_sipush (v := 256) hx hb dX1_makeReady_1 (by decide) ?_
  refine lv_idiv hx hb dX1_makeReady_4 (by decide) ?_
  refine lv_topi (fun y5 e5 => ?_)
  have h := h y5 e5
  refine lv_istore_n (lv' := [(3, .int y5), (0, .ref (Ad 1)), (1, .int x1), (2, .int x2)]) hx hb dX1_makeReady_5 rfl hl (by decide) rfl (fun ls hl => ?_)
  refine lv_iload_n hx hb dX1_makeReady_6 rfl (lv_at hl 3 rfl) ?_
  refine lv_sipush (v := 256) hx hb dX1_makeReady_7 (by decide) ?_
  refine lv_irem hx hb dX1_makeReady_10 (by decide) ?_
  refine lv_topi (fun y11 e11 => ?_)
  have h := h y11 e11
  refine lv_istore (lv' := [(4, .int y11), (3, .int y5), (0, .ref (Ad 1)), (1, .int x1), (2, .int x2)]) hx hb dX1_makeReady_11 hl (by decide) rfl (fun ls hl => ?_)
  refine lv_aload_n hx hb dX1_makeReady_13 rfl (lv_at hl 2 rfl) ?_
  refine lv_iload_n hx hb dX1_makeReady_14 rfl (lv_at hl 3 rfl) ?_
  refine lv_iconst (v := 1) hx hb dX1_makeReady_15 (by decide) ?_
  refine lv_iload_n hx hb dX1_makeReady_16 rfl (lv_at hl 1 rfl) ?_
  refine kWv (rnV C (ct_X1_write l D cy Ad hap h) yv_X1_write wq_433 ⟨rfl, rfl⟩ ⟨Nat.le_of_ble_eq_true rfl, Nat.le_of_ble_eq_true rfl⟩ ⟨Nat.zero_le _, Nat.zero_le _⟩ (vS_chip C hP) hP hl.1 rfl rfl (Nat.le_of_ble_eq_true rfl) dX1_makeReady_17) hS (fun _ h => h) (fun σ17 μ17 H locs h hP hk hS => ?_)
  refine lv_aload_n hx hb dX1_makeReady_20 rfl (lv_at hl 2 rfl) ?_
  refine lv_iload_n hx hb dX1_makeReady_21 rfl (lv_at hl 3 rfl) ?_
  refine lv_iconst (v := 2) hx hb dX1_makeReady_22 (by decide) ?_
  refine lv_iload hx hb dX1_makeReady_23 (lv_at hl 0 rfl) ?_
  refine kWv (rnV C (ct_X1_write l D cy Ad hap h) yv_X1_write wq_433 ⟨rfl, rfl⟩ ⟨Nat.le_of_ble_eq_true rfl, Nat.le_of_ble_eq_true rfl⟩ ⟨Nat.zero_le _, Nat.zero_le _⟩ (vS_chip C hP) hP hl.1 rfl rfl (Nat.le_of_ble_eq_true rfl) dX1_makeReady_25) hS (fun _ h => h) (fun σ25 μ25 H locs h hP hk hS => ?_)
  refine lv_aload_n hx hb dX1_makeReady_28 rfl (lv_at hl 2 rfl) ?_
  refine lv_iload_n hx hb dX1_makeReady_29 rfl (lv_at hl 3 rfl) ?_
  refine lv_iconst (v := 3) hx hb dX1_makeReady_30 (by decide) ?_
  refine lv_iload_n hx hb dX1_makeReady_31 rfl (lv_at hl 1 rfl) ?_
  refine lv_iload hx hb dX1_makeReady_32 (lv_at hl 0 rfl) ?_
  refine lv_iadd hx hb dX1_makeReady_34 ?_
  refine kNi (rnSN (C.none) (ct_X5_checkOf l D h) ys_X5_checkOf wn_390 ⟨rfl, rfl⟩ ⟨Nat.le_of_ble_eq_true rfl, Nat.le_of_ble_eq_true rfl⟩ ⟨Nat.zero_le _, Nat.zero_le _⟩ trivial hl.1 rfl rfl (Nat.le_of_ble_eq_true rfl) dX1_makeReady_35) hS (fun _ h => h.elim) (fun r35 H locs h hk hS => ?_)
  have hP := keepN hP hk
  refine kWv (rnV C (ct_X1_write l D cy Ad hap h) yv_X1_write wq_433 ⟨rfl, rfl⟩ ⟨Nat.le_of_ble_eq_true rfl, Nat.le_of_ble_eq_true rfl⟩ ⟨Nat.zero_le _, Nat.zero_le _⟩ (vS_chip C hP) hP hl.1 rfl rfl (Nat.le_of_ble_eq_true rfl) dX1_makeReady_38) hS (fun _ h => h) (fun σ38 μ38 H locs h hP hk hS => ?_)
  refine lv_aload_n hx hb dX1_makeReady_41 rfl (lv_at hl 2 rfl) ?_
  refine lv_iload_n hx hb dX1_makeReady_42 rfl (lv_at hl 3 rfl) ?_
  refine lv_iconst (v := 0) hx hb dX1_makeReady_43 (by decide) ?_
  refine lv_bipush (v := 127) hx hb dX1_makeReady_44 (by decide) ?_
  refine kWv (rnV C (ct_X1_write l D cy Ad hap h) yv_X1_write wq_433 ⟨rfl, rfl⟩ ⟨Nat.le_of_ble_eq_true rfl, Nat.le_of_ble_eq_true rfl⟩ ⟨Nat.zero_le _, Nat.zero_le _⟩ (vS_chip C hP) hP hl.1 rfl rfl (Nat.le_of_ble_eq_true rfl) dX1_makeReady_46) hS (fun _ h => h) (fun σ46 μ46 H locs h hP hk hS => ?_)
  exact endV C hS ⟨_, _, rfl, h, hP⟩ dX1_makeReady_49
abbrev rmX1_writeDraft : Room := { frames := 2, cells := 0, slots := 0, locals := 46 }
def wb_X1_writeDraft_44 (Q : Rg → Ar → Prop) (σ : Rg) (μ : Ar) : Prop := Q σ μ
set_option maxHeartbeats 4000000 in
set_option maxRecDepth 100000 in
theorem wk_X1_writeDraft_44 {p : Program} {l : Launch} {e : Env} {s : State} {m : MethodId} {args : Array Value} {below : List Frame} {meth : Method} {c : Code} {D : va_G} {cy : ClassId} {Ad : Nat → Nat} (C : Cx p s m args meth c RX1 cX1_writeDraft 5 (none : Option FieldType) D [(cy, .int)]) (hap : apt 18 Ad) {Q : Rg → Ar → Prop} {σ : Rg} {μ : Ar}  {H : Heap} {locs : List Loc} {ls : Array Slot} (h : wb_X1_writeDraft_44 Q σ μ) (hP : va_P D vwCl (wS Ad cy σ μ) H) (hS : va_S (AS 18 Ad) s.heap H locs) (hl : lv_has ls 5 []) : W p l e rmX1_writeDraft s m args below meth c H locs 0 0 (MQ below (Qcg (PWv (wS Ad cy) D Q) (AS 18 Ad)) args s 0 0 (AS 18 Ad)) (F0 m 44 ls []) := by
  have hx := C.1
  have hb := C.2.1
  exact endV C hS ⟨_, _, rfl, h, hP⟩ dX1_writeDraft_44
def wb_X1_writeDraft_3 (Q : Rg → Ar → Prop) (k3 : Rg → Ar → Int32 → Int32 → Int32 → Prop) (σ : Rg) (μ : Ar) (v1 : Int32) (v2 : Int32) (v4 : Int32) : Prop := (((σ 17) ≤ v4 → wb_X1_writeDraft_44 Q σ μ) ∧ (¬ (σ 17) ≤ v4 → (((7 : Int32) ≤ v4 → wb_X1_writeDraft_44 Q σ μ) ∧ (¬ (7 : Int32) ≤ v4 → (vp_in v4 7) ∧ (wp_X1_write σ μ v1 (v2 + v4) (μ 12 (v4).toNatClampNeg) (fun σ35 μ35 => ∀ y38 : Int32, y38 = v4 + (1 : Int32) → (k3 σ35 μ35 v1 v2 y38)))))))
set_option maxHeartbeats 4000000 in
set_option maxRecDepth 100000 in
theorem wk_X1_writeDraft_3 {p : Program} {l : Launch} {e : Env} {s : State} {m : MethodId} {args : Array Value} {below : List Frame} {meth : Method} {c : Code} {D : va_G} {cy : ClassId} {Ad : Nat → Nat} (C : Cx p s m args meth c RX1 cX1_writeDraft 5 (none : Option FieldType) D [(cy, .int)]) (hap : apt 18 Ad) {Q : Rg → Ar → Prop} {k3 : Rg → Ar → Int32 → Int32 → Int32 → Prop} (hk3 : ∀ {σ : Rg} {μ : Ar} {v1 : Int32} {v2 : Int32} {v4 : Int32} {H : Heap} {locs : List Loc} {ls : Array Slot}, k3 σ μ v1 v2 v4 → va_P D vwCl (wS Ad cy σ μ) H → va_S (AS 18 Ad) s.heap H locs → lv_has ls 5 [(0, .ref (Ad 1)), (1, .int v1), (2, .int v2), (3, .ref (Ad 16)), (4, .int v4)] → W p l e rmX1_writeDraft s m args below meth c H locs 0 0 (MQ below (Qcg (PWv (wS Ad cy) D Q) (AS 18 Ad)) args s 0 0 (AS 18 Ad)) (F0 m 3 ls [])) {σ : Rg} {μ : Ar} {v1 : Int32} {v2 : Int32} {v4 : Int32} {H : Heap} {locs : List Loc} {ls : Array Slot} (h : wb_X1_writeDraft_3 Q k3 σ μ v1 v2 v4) (hP : va_P D vwCl (wS Ad cy σ μ) H) (hS : va_S (AS 18 Ad) s.heap H locs) (hl : lv_has ls 5 [(0, .ref (Ad 1)), (1, .int v1), (2, .int v2), (3, .ref (Ad 16)), (4, .int v4)]) : W p l e rmX1_writeDraft s m args below meth c H locs 0 0 (MQ below (Qcg (PWv (wS Ad cy) D Q) (AS 18 Ad)) args s 0 0 (AS 18 Ad)) (F0 m 3 ls []) := by
  have hx := C.1
  have hb := C.2.1
  refine lv_iload hx hb dX1_writeDraft_3 (lv_at hl 4 rfl) ?_
  refine lv_aload_n hx hb dX1_writeDraft_5 rfl (lv_at hl 3 rfl) ?_
  refine gnS_draft_used C hP (NW.use C.2.2.2.2.2.2.2.2 wn_292) dX1_writeDraft_6 ?_
  refine lv_icmp_ge (tgt := 44) hx hb dX1_writeDraft_9 (by decide) (fun hc => ?_) (fun hc => ?_)
  · have h := h.1 hc
    exact wk_X1_writeDraft_44 C hap h hP hS (lv_sub hl [] rfl)
  · have h := h.2 hc
    refine lv_iload hx hb dX1_writeDraft_12 (lv_at hl 4 rfl) ?_
    refine lv_aload_n hx hb dX1_writeDraft_14 rfl (lv_at hl 3 rfl) ?_
    refine gnS_draft_row C hP (NW.use C.2.2.2.2.2.2.2.2 wn_290) dX1_writeDraft_15 ?_
    refine nS_12 C hP dX1_writeDraft_18 ?_
    refine lv_icmp_ge (tgt := 44) hx hb dX1_writeDraft_19 (by decide) (fun hc => ?_) (fun hc => ?_)
    · have h := h.1 hc
      exact wk_X1_writeDraft_44 C hap h hP hS (lv_sub hl [] rfl)
    · have h := h.2 hc
      refine lv_aload_n hx hb dX1_writeDraft_22 rfl (lv_at hl 0 rfl) ?_
      refine lv_iload_n hx hb dX1_writeDraft_23 rfl (lv_at hl 1 rfl) ?_
      refine lv_iload_n hx hb dX1_writeDraft_24 rfl (lv_at hl 2 rfl) ?_
      refine lv_iload hx hb dX1_writeDraft_25 (lv_at hl 4 rfl) ?_
      refine lv_iadd hx hb dX1_writeDraft_27 ?_
      refine lv_aload_n hx hb dX1_writeDraft_28 rfl (lv_at hl 3 rfl) ?_
      refine gnS_draft_row C hP (NW.use C.2.2.2.2.2.2.2.2 wn_290) dX1_writeDraft_29 ?_
      refine lv_iload hx hb dX1_writeDraft_32 (lv_at hl 4 rfl) ?_
      obtain ⟨hc, h⟩ := h
      refine lS_12 C hP hc dX1_writeDraft_34 ?_
      refine kWv (rnV C (ct_X1_write l D cy Ad hap h) yv_X1_write wq_433 ⟨rfl, rfl⟩ ⟨Nat.le_of_ble_eq_true rfl, Nat.le_of_ble_eq_true rfl⟩ ⟨Nat.zero_le _, Nat.zero_le _⟩ (vS_chip C hP) hP hl.1 rfl rfl (Nat.le_of_ble_eq_true rfl) dX1_writeDraft_35) hS (fun _ h => h) (fun σ35 μ35 H locs h hP hk hS => ?_)
      obtain ⟨y38, e38⟩ : ∃ y : Int32, y = v4 + (1 : Int32) := ⟨_, rfl⟩
      have h := h y38 e38
      refine lv_iinc (v := y38) (lv' := [(4, .int y38), (0, .ref (Ad 1)), (1, .int v1), (2, .int v2), (3, .ref (Ad 16))]) hx hb dX1_writeDraft_38 hl (k := 4) rfl (by rw [e38]; rfl) (by decide) rfl (fun ls hl => ?_)
      refine lv_goto (tgt := 3) hx hb dX1_writeDraft_41 (by decide) ?_
      exact hk3 h hP hS (lv_sub hl [1, 2, 3, 4, 0] rfl)
def wl_X1_writeDraft_3 (Q : Rg → Ar → Prop) (n : Nat) : Rg → Ar → Int32 → Int32 → Int32 → Prop := Nat.rec (motive := fun _ => Rg → Ar → Int32 → Int32 → Int32 → Prop) (fun _ _ _ _ _ => False) (fun _ k => wb_X1_writeDraft_3 Q k) n
set_option maxHeartbeats 4000000 in
theorem wkl_X1_writeDraft_3 {p : Program} {l : Launch} {e : Env} {s : State} {m : MethodId} {args : Array Value} {below : List Frame} {meth : Method} {c : Code} {D : va_G} {cy : ClassId} {Ad : Nat → Nat} (C : Cx p s m args meth c RX1 cX1_writeDraft 5 (none : Option FieldType) D [(cy, .int)]) (hap : apt 18 Ad) {Q : Rg → Ar → Prop}  : ∀ (n : Nat) {σ : Rg} {μ : Ar} {v1 : Int32} {v2 : Int32} {v4 : Int32} {H : Heap} {locs : List Loc} {ls : Array Slot} (h : wl_X1_writeDraft_3 Q  n σ μ v1 v2 v4) (hP : va_P D vwCl (wS Ad cy σ μ) H) (hS : va_S (AS 18 Ad) s.heap H locs) (hl : lv_has ls 5 [(0, .ref (Ad 1)), (1, .int v1), (2, .int v2), (3, .ref (Ad 16)), (4, .int v4)]), W p l e rmX1_writeDraft s m args below meth c H locs 0 0 (MQ below (Qcg (PWv (wS Ad cy) D Q) (AS 18 Ad)) args s 0 0 (AS 18 Ad)) (F0 m 3 ls []) := by
  intro n
  induction n with
  | zero => intro σ μ v1 v2 v4 H locs ls h; exact h.elim
  | succ n ih =>
    intro σ μ v1 v2 v4 H locs ls h hP hS hl
    exact wk_X1_writeDraft_3 C hap (fun h hP hS hl => ih h hP hS hl) h hP hS hl
def wp_X1_writeDraft (σ : Rg) (μ : Ar) (x1 : Int32) (x2 : Int32) (Q : Rg → Ar → Prop) : Prop := ∃ n, wl_X1_writeDraft_3 Q n σ μ x1 x2 (0 : Int32)
set_option maxHeartbeats 4000000 in
set_option maxRecDepth 100000 in
theorem ct_X1_writeDraft (l : Launch) (D : va_G) (cy : ClassId) (Ad : Nat → Nat) (hap : apt 18 Ad) {σ : Rg} {μ : Ar} {x1 : Int32} {x2 : Int32} {Q : Rg → Ar → Prop} (h : wp_X1_writeDraft σ μ x1 x2 Q) : Ct l yX1_writeDraft cX1_writeDraft 5 (none : Option FieldType) rmX1_writeDraft D [(cy, .int)] (fun H => va_P D vwCl (wS Ad cy σ μ) H) [.ref (Ad 1), .int x1, .int x2, .ref (Ad 16)] (AS 18 Ad) (PWv (wS Ad cy) D Q) := by
  refine Ct.of (by decide) (Nat.le_of_ble_eq_true rfl) ?_
  intro p e s m below meth c ls C hP hl
  have hl : lv_has ls 5 [(0, .ref (Ad 1)), (1, .int x1), (2, .int x2), (3, .ref (Ad 16))] := hl
  have hS : va_S (AS 18 Ad) s.heap s.heap [] := va_S.rf
  have hx := C.1
  have hb := C.2.1
  refine lv_iconst (v := 0) hx hb dX1_writeDraft_0 (by decide) ?_
  refine lv_istore (lv' := [(4, .int (0 : Int32)), (0, .ref (Ad 1)), (1, .int x1), (2, .int x2), (3, .ref (Ad 16))]) hx hb dX1_writeDraft_1 hl (by decide) rfl (fun ls hl => ?_)
  obtain ⟨n, h⟩ := h
  exact wkl_X1_writeDraft_3 C hap n h hP hS (lv_sub hl [1, 2, 3, 4, 0] rfl)
abbrev rmX1_usedEnd : Room := { frames := 1, cells := 0, slots := 0, locals := 21 }
def wb_X1_usedEnd_46 (Q : Int32 → Rg → Ar → Prop) (σ : Rg) (μ : Ar) (v2 : Int32) : Prop := Q v2 σ μ
set_option maxHeartbeats 4000000 in
set_option maxRecDepth 100000 in
theorem wk_X1_usedEnd_46 {p : Program} {l : Launch} {e : Env} {s : State} {m : MethodId} {args : Array Value} {below : List Frame} {meth : Method} {c : Code} {D : va_G} {cy : ClassId} {Ad : Nat → Nat} (C : Cx p s m args meth c RX1 cX1_usedEnd 3 (some FieldType.int) D [(cy, .int)]) (hap : apt 18 Ad) {Q : Int32 → Rg → Ar → Prop} {σ : Rg} {μ : Ar} {v2 : Int32} {H : Heap} {locs : List Loc} {ls : Array Slot} (h : wb_X1_usedEnd_46 Q σ μ v2) (hP : va_P D vwCl (wS Ad cy σ μ) H) (hS : va_S (AS 18 Ad) s.heap H locs) (hl : lv_has ls 3 [(2, .int v2)]) : W p l e rmX1_usedEnd s m args below meth c H locs 0 0 (MQ below (Qcg (PWi (wS Ad cy) D Q) (AS 18 Ad)) args s 0 0 (AS 18 Ad)) (F0 m 46 ls []) := by
  have hx := C.1
  have hb := C.2.1
  refine lv_iload_n hx hb dX1_usedEnd_46 rfl (lv_at hl 0 rfl) ?_
  exact endI C hS ⟨_, _, _, rfl, h, hP⟩ dX1_usedEnd_47
def wb_X1_usedEnd_15 (Q : Int32 → Rg → Ar → Prop) (k15 : Rg → Ar → Int32 → Int32 → Prop) (σ : Rg) (μ : Ar) (v1 : Int32) (v2 : Int32) : Prop := ((v2 ≤ 0 → wb_X1_usedEnd_46 Q σ μ v2) ∧ (¬ v2 ≤ 0 → (vp_in (((v1 * (σ 4)) + v2) - (1 : Int32)) 768) ∧ (((¬ (μ 0 ((((v1 * (σ 4)) + v2) - (1 : Int32))).toNatClampNeg) = (255 : Int32) → wb_X1_usedEnd_46 Q σ μ v2) ∧ ((μ 0 ((((v1 * (σ 4)) + v2) - (1 : Int32))).toNatClampNeg) = (255 : Int32) → ∀ y40 : Int32, y40 = v2 + (-1 : Int32) → (k15 σ μ v1 y40))))))
set_option maxHeartbeats 4000000 in
set_option maxRecDepth 100000 in
theorem wk_X1_usedEnd_15 {p : Program} {l : Launch} {e : Env} {s : State} {m : MethodId} {args : Array Value} {below : List Frame} {meth : Method} {c : Code} {D : va_G} {cy : ClassId} {Ad : Nat → Nat} (C : Cx p s m args meth c RX1 cX1_usedEnd 3 (some FieldType.int) D [(cy, .int)]) (hap : apt 18 Ad) {Q : Int32 → Rg → Ar → Prop} {k15 : Rg → Ar → Int32 → Int32 → Prop} (hk15 : ∀ {σ : Rg} {μ : Ar} {v1 : Int32} {v2 : Int32} {H : Heap} {locs : List Loc} {ls : Array Slot}, k15 σ μ v1 v2 → va_P D vwCl (wS Ad cy σ μ) H → va_S (AS 18 Ad) s.heap H locs → lv_has ls 3 [(0, .ref (Ad 1)), (1, .int v1), (2, .int v2)] → W p l e rmX1_usedEnd s m args below meth c H locs 0 0 (MQ below (Qcg (PWi (wS Ad cy) D Q) (AS 18 Ad)) args s 0 0 (AS 18 Ad)) (F0 m 15 ls [])) {σ : Rg} {μ : Ar} {v1 : Int32} {v2 : Int32} {H : Heap} {locs : List Loc} {ls : Array Slot} (h : wb_X1_usedEnd_15 Q k15 σ μ v1 v2) (hP : va_P D vwCl (wS Ad cy σ μ) H) (hS : va_S (AS 18 Ad) s.heap H locs) (hl : lv_has ls 3 [(0, .ref (Ad 1)), (1, .int v1), (2, .int v2)]) : W p l e rmX1_usedEnd s m args below meth c H locs 0 0 (MQ below (Qcg (PWi (wS Ad cy) D Q) (AS 18 Ad)) args s 0 0 (AS 18 Ad)) (F0 m 15 ls []) := by
  have hx := C.1
  have hb := C.2.1
  refine lv_iload_n hx hb dX1_usedEnd_15 rfl (lv_at hl 2 rfl) ?_
  refine lv_if_le (tgt := 46) hx hb dX1_usedEnd_16 (by decide) (fun hc => ?_) (fun hc => ?_)
  · have h := h.1 hc
    exact wk_X1_usedEnd_46 C hap h hP hS (lv_sub hl [2] rfl)
  · have h := h.2 hc
    refine lv_aload_n hx hb dX1_usedEnd_19 rfl (lv_at hl 0 rfl) ?_
    refine gS_chip_cells C hP (C.2.2.2.2.2.2.1 _ wq_168) dX1_usedEnd_20 ?_
    refine lv_iload_n hx hb dX1_usedEnd_23 rfl (lv_at hl 1 rfl) ?_
    refine lv_aload_n hx hb dX1_usedEnd_24 rfl (lv_at hl 0 rfl) ?_
    refine gS_chip_size C hP (C.2.2.2.2.2.2.1 _ wq_174) dX1_usedEnd_25 ?_
    refine lv_imul hx hb dX1_usedEnd_28 ?_
    refine lv_iload_n hx hb dX1_usedEnd_29 rfl (lv_at hl 2 rfl) ?_
    refine lv_iadd hx hb dX1_usedEnd_30 ?_
    refine lv_iconst (v := 1) hx hb dX1_usedEnd_31 (by decide) ?_
    refine lv_isub hx hb dX1_usedEnd_32 ?_
    obtain ⟨hc, h⟩ := h
    refine lS_0 C hP hc dX1_usedEnd_33 ?_
    refine lv_sipush (v := 255) hx hb dX1_usedEnd_34 (by decide) ?_
    refine lv_icmp_ne (tgt := 46) hx hb dX1_usedEnd_37 (by decide) (fun hc => ?_) (fun hc => ?_)
    · have h := h.1 hc
      exact wk_X1_usedEnd_46 C hap h hP hS (lv_sub hl [2] rfl)
    · have h := h.2 hc
      obtain ⟨y40, e40⟩ : ∃ y : Int32, y = v2 + (-1 : Int32) := ⟨_, rfl⟩
      have h := h y40 e40
      refine lv_iinc (v := y40) (lv' := [(2, .int y40), (0, .ref (Ad 1)), (1, .int v1)]) hx hb dX1_usedEnd_40 hl (k := 2) rfl (by rw [e40]; rfl) (by decide) rfl (fun ls hl => ?_)
      refine lv_goto (tgt := 15) hx hb dX1_usedEnd_43 (by decide) ?_
      exact hk15 h hP hS (lv_sub hl [1, 2, 0] rfl)
def wl_X1_usedEnd_15 (Q : Int32 → Rg → Ar → Prop) (n : Nat) : Rg → Ar → Int32 → Int32 → Prop := Nat.rec (motive := fun _ => Rg → Ar → Int32 → Int32 → Prop) (fun _ _ _ _ => False) (fun _ k => wb_X1_usedEnd_15 Q k) n
set_option maxHeartbeats 4000000 in
theorem wkl_X1_usedEnd_15 {p : Program} {l : Launch} {e : Env} {s : State} {m : MethodId} {args : Array Value} {below : List Frame} {meth : Method} {c : Code} {D : va_G} {cy : ClassId} {Ad : Nat → Nat} (C : Cx p s m args meth c RX1 cX1_usedEnd 3 (some FieldType.int) D [(cy, .int)]) (hap : apt 18 Ad) {Q : Int32 → Rg → Ar → Prop}  : ∀ (n : Nat) {σ : Rg} {μ : Ar} {v1 : Int32} {v2 : Int32} {H : Heap} {locs : List Loc} {ls : Array Slot} (h : wl_X1_usedEnd_15 Q  n σ μ v1 v2) (hP : va_P D vwCl (wS Ad cy σ μ) H) (hS : va_S (AS 18 Ad) s.heap H locs) (hl : lv_has ls 3 [(0, .ref (Ad 1)), (1, .int v1), (2, .int v2)]), W p l e rmX1_usedEnd s m args below meth c H locs 0 0 (MQ below (Qcg (PWi (wS Ad cy) D Q) (AS 18 Ad)) args s 0 0 (AS 18 Ad)) (F0 m 15 ls []) := by
  intro n
  induction n with
  | zero => intro σ μ v1 v2 H locs ls h; exact h.elim
  | succ n ih =>
    intro σ μ v1 v2 H locs ls h hP hS hl
    exact wk_X1_usedEnd_15 C hap (fun h hP hS hl => ih h hP hS hl) h hP hS hl
def wp_X1_usedEnd (σ : Rg) (μ : Ar) (x1 : Int32) (Q : Int32 → Rg → Ar → Prop) : Prop := wp_X1_hasSector σ μ x1 (fun r2 σ2 μ2 => ((¬ r2 = 0 → ∀ y14 : Int32, y14 = (σ2 4) → (∃ n, wl_X1_usedEnd_15 Q n σ2 μ2 x1 y14)) ∧ (r2 = 0 → Q (0 : Int32) σ2 μ2)))
set_option maxHeartbeats 4000000 in
set_option maxRecDepth 100000 in
theorem ct_X1_usedEnd (l : Launch) (D : va_G) (cy : ClassId) (Ad : Nat → Nat) (hap : apt 18 Ad) {σ : Rg} {μ : Ar} {x1 : Int32} {Q : Int32 → Rg → Ar → Prop} (h : wp_X1_usedEnd σ μ x1 Q) : Ct l yX1_usedEnd cX1_usedEnd 3 (some FieldType.int) rmX1_usedEnd D [(cy, .int)] (fun H => va_P D vwCl (wS Ad cy σ μ) H) [.ref (Ad 1), .int x1] (AS 18 Ad) (PWi (wS Ad cy) D Q) := by
  refine Ct.of (by decide) (Nat.le_of_ble_eq_true rfl) ?_
  intro p e s m below meth c ls C hP hl
  have hl : lv_has ls 3 [(0, .ref (Ad 1)), (1, .int x1)] := hl
  have hS : va_S (AS 18 Ad) s.heap s.heap [] := va_S.rf
  have hx := C.1
  have hb := C.2.1
  refine lv_aload_n hx hb dX1_usedEnd_0 rfl (lv_at hl 0 rfl) ?_
  refine lv_iload_n hx hb dX1_usedEnd_1 rfl (lv_at hl 1 rfl) ?_
  refine kWi (rnV C (ct_X1_hasSector l D cy Ad hap h) yv_X1_hasSector wq_409 ⟨rfl, rfl⟩ ⟨Nat.le_of_ble_eq_true rfl, Nat.le_of_ble_eq_true rfl⟩ ⟨Nat.zero_le _, Nat.zero_le _⟩ (vS_chip C hP) hP hl.1 rfl rfl (Nat.le_of_ble_eq_true rfl) dX1_usedEnd_2) hS (fun _ h => h) (fun r2 σ2 μ2 H locs h hP hk hS => ?_)
  refine lv_if_ne (tgt := 10) hx hb dX1_usedEnd_5 (by decide) (fun hc => ?_) (fun hc => ?_)
  · have h := h.1 hc
    refine lv_aload_n hx hb dX1_usedEnd_10 rfl (lv_at hl 0 rfl) ?_
    refine gS_chip_size C hP (C.2.2.2.2.2.2.1 _ wq_174) dX1_usedEnd_11 ?_
    refine lv_topi (fun y14 e14 => ?_)
    have h := h y14 e14
    refine lv_istore_n (lv' := [(2, .int y14), (0, .ref (Ad 1)), (1, .int x1)]) hx hb dX1_usedEnd_14 rfl hl (by decide) rfl (fun ls hl => ?_)
    obtain ⟨n, h⟩ := h
    exact wkl_X1_usedEnd_15 C hap n h hP hS (lv_sub hl [1, 2, 0] rfl)
  · have h := h.2 hc
    refine lv_iconst (v := 0) hx hb dX1_usedEnd_8 (by decide) ?_
    exact endI C hS ⟨_, _, _, rfl, h, hP⟩ dX1_usedEnd_9
abbrev rmX1_isBlank : Room := { frames := 2, cells := 0, slots := 0, locals := 43 }
def wb_X1_isBlank_13 (Q : Int32 → Rg → Ar → Prop) (σ : Rg) (μ : Ar) (t0 : Int32) : Prop := (bz t0) ∧ (Q t0 σ μ)
set_option maxHeartbeats 4000000 in
set_option maxRecDepth 100000 in
theorem wk_X1_isBlank_13 {p : Program} {l : Launch} {e : Env} {s : State} {m : MethodId} {args : Array Value} {below : List Frame} {meth : Method} {c : Code} {D : va_G} {cy : ClassId} {Ad : Nat → Nat} (C : Cx p s m args meth c RX1 cX1_isBlank 2 (some FieldType.boolean) D [(cy, .int)]) (hap : apt 18 Ad) {Q : Int32 → Rg → Ar → Prop} {σ : Rg} {μ : Ar} {t0 : Int32} {H : Heap} {locs : List Loc} {ls : Array Slot} (h : wb_X1_isBlank_13 Q σ μ t0) (hP : va_P D vwCl (wS Ad cy σ μ) H) (hS : va_S (AS 18 Ad) s.heap H locs) (hl : lv_has ls 2 []) : W p l e rmX1_isBlank s m args below meth c H locs 0 0 (MQ below (Qcg (PWi (wS Ad cy) D Q) (AS 18 Ad)) args s 0 0 (AS 18 Ad)) (F0 m 13 ls [.int t0]) := by
  have hx := C.1
  have hb := C.2.1
  obtain ⟨hc, h⟩ := h
  exact endZ C hS hc ⟨_, _, _, rfl, h, hP⟩ dX1_isBlank_13
def wp_X1_isBlank (σ : Rg) (μ : Ar) (x1 : Int32) (Q : Int32 → Rg → Ar → Prop) : Prop := wp_X1_usedEnd σ μ x1 (fun r2 σ2 μ2 => ((¬ r2 = 0 → wb_X1_isBlank_13 Q σ2 μ2 (0 : Int32)) ∧ (r2 = 0 → wb_X1_isBlank_13 Q σ2 μ2 (1 : Int32))))
set_option maxHeartbeats 4000000 in
set_option maxRecDepth 100000 in
theorem ct_X1_isBlank (l : Launch) (D : va_G) (cy : ClassId) (Ad : Nat → Nat) (hap : apt 18 Ad) {σ : Rg} {μ : Ar} {x1 : Int32} {Q : Int32 → Rg → Ar → Prop} (h : wp_X1_isBlank σ μ x1 Q) : Ct l yX1_isBlank cX1_isBlank 2 (some FieldType.boolean) rmX1_isBlank D [(cy, .int)] (fun H => va_P D vwCl (wS Ad cy σ μ) H) [.ref (Ad 1), .int x1] (AS 18 Ad) (PWi (wS Ad cy) D Q) := by
  refine Ct.of (by decide) (Nat.le_of_ble_eq_true rfl) ?_
  intro p e s m below meth c ls C hP hl
  have hl : lv_has ls 2 [(0, .ref (Ad 1)), (1, .int x1)] := hl
  have hS : va_S (AS 18 Ad) s.heap s.heap [] := va_S.rf
  have hx := C.1
  have hb := C.2.1
  refine lv_aload_n hx hb dX1_isBlank_0 rfl (lv_at hl 0 rfl) ?_
  refine lv_iload_n hx hb dX1_isBlank_1 rfl (lv_at hl 1 rfl) ?_
  refine kWi (rnV C (ct_X1_usedEnd l D cy Ad hap h) yv_X1_usedEnd wq_405 ⟨rfl, rfl⟩ ⟨Nat.le_of_ble_eq_true rfl, Nat.le_of_ble_eq_true rfl⟩ ⟨Nat.zero_le _, Nat.zero_le _⟩ (vS_chip C hP) hP hl.1 rfl rfl (Nat.le_of_ble_eq_true rfl) dX1_isBlank_2) hS (fun _ h => h) (fun r2 σ2 μ2 H locs h hP hk hS => ?_)
  refine lv_if_ne (tgt := 12) hx hb dX1_isBlank_5 (by decide) (fun hc => ?_) (fun hc => ?_)
  · have h := h.1 hc
    refine lv_iconst (v := 0) hx hb dX1_isBlank_12 (by decide) ?_
    exact wk_X1_isBlank_13 C hap h hP hS (lv_sub hl [] rfl)
  · have h := h.2 hc
    refine lv_iconst (v := 1) hx hb dX1_isBlank_8 (by decide) ?_
    refine lv_goto (tgt := 13) hx hb dX1_isBlank_9 (by decide) ?_
    exact wk_X1_isBlank_13 C hap h hP hS (lv_sub hl [] rfl)
abbrev rmX1_eraseAllBut : Room := { frames := 3, cells := 0, slots := 0, locals := 64 }
def wb_X1_eraseAllBut_28 (Q : Rg → Ar → Prop) (k2 : Rg → Ar → Int32 → Int32 → Prop) (σ : Rg) (μ : Ar) (v1 : Int32) (v2 : Int32) : Prop := ∀ y28 : Int32, y28 = v2 + (1 : Int32) → (k2 σ μ v1 y28)
set_option maxHeartbeats 4000000 in
set_option maxRecDepth 100000 in
theorem wk_X1_eraseAllBut_28 {p : Program} {l : Launch} {e : Env} {s : State} {m : MethodId} {args : Array Value} {below : List Frame} {meth : Method} {c : Code} {D : va_G} {cy : ClassId} {Ad : Nat → Nat} (C : Cx p s m args meth c RX1 cX1_eraseAllBut 3 (none : Option FieldType) D [(cy, .int)]) (hap : apt 18 Ad) {Q : Rg → Ar → Prop} {k2 : Rg → Ar → Int32 → Int32 → Prop} (hk2 : ∀ {σ : Rg} {μ : Ar} {v1 : Int32} {v2 : Int32} {H : Heap} {locs : List Loc} {ls : Array Slot}, k2 σ μ v1 v2 → va_P D vwCl (wS Ad cy σ μ) H → va_S (AS 18 Ad) s.heap H locs → lv_has ls 3 [(0, .ref (Ad 1)), (1, .int v1), (2, .int v2)] → W p l e rmX1_eraseAllBut s m args below meth c H locs 0 0 (MQ below (Qcg (PWv (wS Ad cy) D Q) (AS 18 Ad)) args s 0 0 (AS 18 Ad)) (F0 m 2 ls [])) {σ : Rg} {μ : Ar} {v1 : Int32} {v2 : Int32} {H : Heap} {locs : List Loc} {ls : Array Slot} (h : wb_X1_eraseAllBut_28 Q k2 σ μ v1 v2) (hP : va_P D vwCl (wS Ad cy σ μ) H) (hS : va_S (AS 18 Ad) s.heap H locs) (hl : lv_has ls 3 [(0, .ref (Ad 1)), (1, .int v1), (2, .int v2)]) : W p l e rmX1_eraseAllBut s m args below meth c H locs 0 0 (MQ below (Qcg (PWv (wS Ad cy) D Q) (AS 18 Ad)) args s 0 0 (AS 18 Ad)) (F0 m 28 ls []) := by
  have hx := C.1
  have hb := C.2.1
  obtain ⟨y28, e28⟩ : ∃ y : Int32, y = v2 + (1 : Int32) := ⟨_, rfl⟩
  have h := h y28 e28
  refine lv_iinc (v := y28) (lv' := [(2, .int y28), (0, .ref (Ad 1)), (1, .int v1)]) hx hb dX1_eraseAllBut_28 hl (k := 2) rfl (by rw [e28]; rfl) (by decide) rfl (fun ls hl => ?_)
  refine lv_goto (tgt := 2) hx hb dX1_eraseAllBut_31 (by decide) ?_
  exact hk2 h hP hS (lv_sub hl [1, 2, 0] rfl)
def wb_X1_eraseAllBut_2 (Q : Rg → Ar → Prop) (k2 : Rg → Ar → Int32 → Int32 → Prop) (σ : Rg) (μ : Ar) (v1 : Int32) (v2 : Int32) : Prop := (((σ 3) ≤ v2 → Q σ μ) ∧ (¬ (σ 3) ≤ v2 → ((v2 = v1 → wb_X1_eraseAllBut_28 Q k2 σ μ v1 v2) ∧ (¬ v2 = v1 → wp_X1_isBlank σ μ v2 (fun r17 σ17 μ17 => ((¬ r17 = 0 → wb_X1_eraseAllBut_28 Q k2 σ17 μ17 v1 v2) ∧ (r17 = 0 → wp_X1_erase σ17 μ17 v2 (fun σ25 μ25 => wb_X1_eraseAllBut_28 Q k2 σ25 μ25 v1 v2))))))))
set_option maxHeartbeats 4000000 in
set_option maxRecDepth 100000 in
theorem wk_X1_eraseAllBut_2 {p : Program} {l : Launch} {e : Env} {s : State} {m : MethodId} {args : Array Value} {below : List Frame} {meth : Method} {c : Code} {D : va_G} {cy : ClassId} {Ad : Nat → Nat} (C : Cx p s m args meth c RX1 cX1_eraseAllBut 3 (none : Option FieldType) D [(cy, .int)]) (hap : apt 18 Ad) {Q : Rg → Ar → Prop} {k2 : Rg → Ar → Int32 → Int32 → Prop} (hk2 : ∀ {σ : Rg} {μ : Ar} {v1 : Int32} {v2 : Int32} {H : Heap} {locs : List Loc} {ls : Array Slot}, k2 σ μ v1 v2 → va_P D vwCl (wS Ad cy σ μ) H → va_S (AS 18 Ad) s.heap H locs → lv_has ls 3 [(0, .ref (Ad 1)), (1, .int v1), (2, .int v2)] → W p l e rmX1_eraseAllBut s m args below meth c H locs 0 0 (MQ below (Qcg (PWv (wS Ad cy) D Q) (AS 18 Ad)) args s 0 0 (AS 18 Ad)) (F0 m 2 ls [])) {σ : Rg} {μ : Ar} {v1 : Int32} {v2 : Int32} {H : Heap} {locs : List Loc} {ls : Array Slot} (h : wb_X1_eraseAllBut_2 Q k2 σ μ v1 v2) (hP : va_P D vwCl (wS Ad cy σ μ) H) (hS : va_S (AS 18 Ad) s.heap H locs) (hl : lv_has ls 3 [(0, .ref (Ad 1)), (1, .int v1), (2, .int v2)]) : W p l e rmX1_eraseAllBut s m args below meth c H locs 0 0 (MQ below (Qcg (PWv (wS Ad cy) D Q) (AS 18 Ad)) args s 0 0 (AS 18 Ad)) (F0 m 2 ls []) := by
  have hx := C.1
  have hb := C.2.1
  refine lv_iload_n hx hb dX1_eraseAllBut_2 rfl (lv_at hl 2 rfl) ?_
  refine lv_aload_n hx hb dX1_eraseAllBut_3 rfl (lv_at hl 0 rfl) ?_
  refine gS_chip_sectors C hP (C.2.2.2.2.2.2.1 _ wq_171) dX1_eraseAllBut_4 ?_
  refine lv_icmp_ge (tgt := 34) hx hb dX1_eraseAllBut_7 (by decide) (fun hc => ?_) (fun hc => ?_)
  · have h := h.1 hc
    exact endV C hS ⟨_, _, rfl, h, hP⟩ dX1_eraseAllBut_34
  · have h := h.2 hc
    refine lv_iload_n hx hb dX1_eraseAllBut_10 rfl (lv_at hl 2 rfl) ?_
    refine lv_iload_n hx hb dX1_eraseAllBut_11 rfl (lv_at hl 1 rfl) ?_
    refine lv_icmp_eq (tgt := 28) hx hb dX1_eraseAllBut_12 (by decide) (fun hc => ?_) (fun hc => ?_)
    · have h := h.1 hc
      exact wk_X1_eraseAllBut_28 C hap hk2 h hP hS (lv_sub hl [0, 1, 2] rfl)
    · have h := h.2 hc
      refine lv_aload_n hx hb dX1_eraseAllBut_15 rfl (lv_at hl 0 rfl) ?_
      refine lv_iload_n hx hb dX1_eraseAllBut_16 rfl (lv_at hl 2 rfl) ?_
      refine kWi (rnV C (ct_X1_isBlank l D cy Ad hap h) yv_X1_isBlank wq_401 ⟨rfl, rfl⟩ ⟨Nat.le_of_ble_eq_true rfl, Nat.le_of_ble_eq_true rfl⟩ ⟨Nat.zero_le _, Nat.zero_le _⟩ (vS_chip C hP) hP hl.1 rfl rfl (Nat.le_of_ble_eq_true rfl) dX1_eraseAllBut_17) hS (fun _ h => h) (fun r17 σ17 μ17 H locs h hP hk hS => ?_)
      refine lv_if_ne (tgt := 28) hx hb dX1_eraseAllBut_20 (by decide) (fun hc => ?_) (fun hc => ?_)
      · have h := h.1 hc
        exact wk_X1_eraseAllBut_28 C hap hk2 h hP hS (lv_sub hl [0, 1, 2] rfl)
      · have h := h.2 hc
        refine lv_aload_n hx hb dX1_eraseAllBut_23 rfl (lv_at hl 0 rfl) ?_
        refine lv_iload_n hx hb dX1_eraseAllBut_24 rfl (lv_at hl 2 rfl) ?_
        refine kWv (rnV C (ct_X1_erase l D cy Ad hap h) yv_X1_erase wq_413 ⟨rfl, rfl⟩ ⟨Nat.le_of_ble_eq_true rfl, Nat.le_of_ble_eq_true rfl⟩ ⟨Nat.zero_le _, Nat.zero_le _⟩ (vS_chip C hP) hP hl.1 rfl rfl (Nat.le_of_ble_eq_true rfl) dX1_eraseAllBut_25) hS (fun _ h => h) (fun σ25 μ25 H locs h hP hk hS => ?_)
        exact wk_X1_eraseAllBut_28 C hap hk2 h hP hS (lv_sub hl [0, 1, 2] rfl)
def wl_X1_eraseAllBut_2 (Q : Rg → Ar → Prop) (n : Nat) : Rg → Ar → Int32 → Int32 → Prop := Nat.rec (motive := fun _ => Rg → Ar → Int32 → Int32 → Prop) (fun _ _ _ _ => False) (fun _ k => wb_X1_eraseAllBut_2 Q k) n
set_option maxHeartbeats 4000000 in
theorem wkl_X1_eraseAllBut_2 {p : Program} {l : Launch} {e : Env} {s : State} {m : MethodId} {args : Array Value} {below : List Frame} {meth : Method} {c : Code} {D : va_G} {cy : ClassId} {Ad : Nat → Nat} (C : Cx p s m args meth c RX1 cX1_eraseAllBut 3 (none : Option FieldType) D [(cy, .int)]) (hap : apt 18 Ad) {Q : Rg → Ar → Prop}  : ∀ (n : Nat) {σ : Rg} {μ : Ar} {v1 : Int32} {v2 : Int32} {H : Heap} {locs : List Loc} {ls : Array Slot} (h : wl_X1_eraseAllBut_2 Q  n σ μ v1 v2) (hP : va_P D vwCl (wS Ad cy σ μ) H) (hS : va_S (AS 18 Ad) s.heap H locs) (hl : lv_has ls 3 [(0, .ref (Ad 1)), (1, .int v1), (2, .int v2)]), W p l e rmX1_eraseAllBut s m args below meth c H locs 0 0 (MQ below (Qcg (PWv (wS Ad cy) D Q) (AS 18 Ad)) args s 0 0 (AS 18 Ad)) (F0 m 2 ls []) := by
  intro n
  induction n with
  | zero => intro σ μ v1 v2 H locs ls h; exact h.elim
  | succ n ih =>
    intro σ μ v1 v2 H locs ls h hP hS hl
    exact wk_X1_eraseAllBut_2 C hap (fun h hP hS hl => ih h hP hS hl) h hP hS hl
def wp_X1_eraseAllBut (σ : Rg) (μ : Ar) (x1 : Int32) (Q : Rg → Ar → Prop) : Prop := ∃ n, wl_X1_eraseAllBut_2 Q n σ μ x1 (0 : Int32)
set_option maxHeartbeats 4000000 in
set_option maxRecDepth 100000 in
theorem ct_X1_eraseAllBut (l : Launch) (D : va_G) (cy : ClassId) (Ad : Nat → Nat) (hap : apt 18 Ad) {σ : Rg} {μ : Ar} {x1 : Int32} {Q : Rg → Ar → Prop} (h : wp_X1_eraseAllBut σ μ x1 Q) : Ct l yX1_eraseAllBut cX1_eraseAllBut 3 (none : Option FieldType) rmX1_eraseAllBut D [(cy, .int)] (fun H => va_P D vwCl (wS Ad cy σ μ) H) [.ref (Ad 1), .int x1] (AS 18 Ad) (PWv (wS Ad cy) D Q) := by
  refine Ct.of (by decide) (Nat.le_of_ble_eq_true rfl) ?_
  intro p e s m below meth c ls C hP hl
  have hl : lv_has ls 3 [(0, .ref (Ad 1)), (1, .int x1)] := hl
  have hS : va_S (AS 18 Ad) s.heap s.heap [] := va_S.rf
  have hx := C.1
  have hb := C.2.1
  refine lv_iconst (v := 0) hx hb dX1_eraseAllBut_0 (by decide) ?_
  refine lv_istore_n (lv' := [(2, .int (0 : Int32)), (0, .ref (Ad 1)), (1, .int x1)]) hx hb dX1_eraseAllBut_1 rfl hl (by decide) rfl (fun ls hl => ?_)
  obtain ⟨n, h⟩ := h
  exact wkl_X1_eraseAllBut_2 C hap n h hP hS (lv_sub hl [1, 2, 0] rfl)
abbrev rmX1_copySector : Room := { frames := 1, cells := 0, slots := 0, locals := 21 }
def wb_X1_copySector_47 (Q : Rg → Ar → Prop) (σ : Rg) (μ : Ar) : Prop := Q σ μ
set_option maxHeartbeats 4000000 in
set_option maxRecDepth 100000 in
theorem wk_X1_copySector_47 {p : Program} {l : Launch} {e : Env} {s : State} {m : MethodId} {args : Array Value} {below : List Frame} {meth : Method} {c : Code} {D : va_G} {cy : ClassId} {Ad : Nat → Nat} (C : Cx p s m args meth c RX1 cX1_copySector 4 (none : Option FieldType) D [(cy, .int)]) (hap : apt 18 Ad) {Q : Rg → Ar → Prop} {σ : Rg} {μ : Ar}  {H : Heap} {locs : List Loc} {ls : Array Slot} (h : wb_X1_copySector_47 Q σ μ) (hP : va_P D vwCl (wS Ad cy σ μ) H) (hS : va_S (AS 18 Ad) s.heap H locs) (hl : lv_has ls 4 []) : W p l e rmX1_copySector s m args below meth c H locs 0 0 (MQ below (Qcg (PWv (wS Ad cy) D Q) (AS 18 Ad)) args s 0 0 (AS 18 Ad)) (F0 m 47 ls []) := by
  have hx := C.1
  have hb := C.2.1
  exact endV C hS ⟨_, _, rfl, h, hP⟩ dX1_copySector_47
def wb_X1_copySector_11 (Q : Rg → Ar → Prop) (k11 : Rg → Ar → Int32 → Int32 → Prop) (σ : Rg) (μ : Ar) (v1 : Int32) (v3 : Int32) : Prop := (((σ 4) ≤ v3 → wb_X1_copySector_47 Q σ μ) ∧ (¬ (σ 4) ≤ v3 → (((128 : Int32) ≤ v3 → wb_X1_copySector_47 Q σ μ) ∧ (¬ (128 : Int32) ≤ v3 → (vp_in ((v1 * (σ 4)) + v3) 768) ∧ ((vp_in v3 128) ∧ (∀ μ40 : Ar, μ40 = updA μ 2 (upd (μ 2) (v3).toNatClampNeg (μ 0 (((v1 * (σ 4)) + v3)).toNatClampNeg)) → (∀ y41 : Int32, y41 = v3 + (1 : Int32) → (k11 σ μ40 v1 y41))))))))
set_option maxHeartbeats 4000000 in
set_option maxRecDepth 100000 in
theorem wk_X1_copySector_11 {p : Program} {l : Launch} {e : Env} {s : State} {m : MethodId} {args : Array Value} {below : List Frame} {meth : Method} {c : Code} {D : va_G} {cy : ClassId} {Ad : Nat → Nat} (C : Cx p s m args meth c RX1 cX1_copySector 4 (none : Option FieldType) D [(cy, .int)]) (hap : apt 18 Ad) {Q : Rg → Ar → Prop} {k11 : Rg → Ar → Int32 → Int32 → Prop} (hk11 : ∀ {σ : Rg} {μ : Ar} {v1 : Int32} {v3 : Int32} {H : Heap} {locs : List Loc} {ls : Array Slot}, k11 σ μ v1 v3 → va_P D vwCl (wS Ad cy σ μ) H → va_S (AS 18 Ad) s.heap H locs → lv_has ls 4 [(0, .ref (Ad 1)), (1, .int v1), (2, .ref (Ad 5)), (3, .int v3)] → W p l e rmX1_copySector s m args below meth c H locs 0 0 (MQ below (Qcg (PWv (wS Ad cy) D Q) (AS 18 Ad)) args s 0 0 (AS 18 Ad)) (F0 m 11 ls [])) {σ : Rg} {μ : Ar} {v1 : Int32} {v3 : Int32} {H : Heap} {locs : List Loc} {ls : Array Slot} (h : wb_X1_copySector_11 Q k11 σ μ v1 v3) (hP : va_P D vwCl (wS Ad cy σ μ) H) (hS : va_S (AS 18 Ad) s.heap H locs) (hl : lv_has ls 4 [(0, .ref (Ad 1)), (1, .int v1), (2, .ref (Ad 5)), (3, .int v3)]) : W p l e rmX1_copySector s m args below meth c H locs 0 0 (MQ below (Qcg (PWv (wS Ad cy) D Q) (AS 18 Ad)) args s 0 0 (AS 18 Ad)) (F0 m 11 ls []) := by
  have hx := C.1
  have hb := C.2.1
  refine lv_iload_n hx hb dX1_copySector_11 rfl (lv_at hl 3 rfl) ?_
  refine lv_aload_n hx hb dX1_copySector_12 rfl (lv_at hl 0 rfl) ?_
  refine gS_chip_size C hP (C.2.2.2.2.2.2.1 _ wq_174) dX1_copySector_13 ?_
  refine lv_icmp_ge (tgt := 47) hx hb dX1_copySector_16 (by decide) (fun hc => ?_) (fun hc => ?_)
  · have h := h.1 hc
    exact wk_X1_copySector_47 C hap h hP hS (lv_sub hl [] rfl)
  · have h := h.2 hc
    refine lv_iload_n hx hb dX1_copySector_19 rfl (lv_at hl 3 rfl) ?_
    refine lv_aload_n hx hb dX1_copySector_20 rfl (lv_at hl 2 rfl) ?_
    refine nS_2 C hP dX1_copySector_21 ?_
    refine lv_icmp_ge (tgt := 47) hx hb dX1_copySector_22 (by decide) (fun hc => ?_) (fun hc => ?_)
    · have h := h.1 hc
      exact wk_X1_copySector_47 C hap h hP hS (lv_sub hl [] rfl)
    · have h := h.2 hc
      refine lv_aload_n hx hb dX1_copySector_25 rfl (lv_at hl 2 rfl) ?_
      refine lv_iload_n hx hb dX1_copySector_26 rfl (lv_at hl 3 rfl) ?_
      refine lv_aload_n hx hb dX1_copySector_27 rfl (lv_at hl 0 rfl) ?_
      refine gS_chip_cells C hP (C.2.2.2.2.2.2.1 _ wq_168) dX1_copySector_28 ?_
      refine lv_iload_n hx hb dX1_copySector_31 rfl (lv_at hl 1 rfl) ?_
      refine lv_aload_n hx hb dX1_copySector_32 rfl (lv_at hl 0 rfl) ?_
      refine gS_chip_size C hP (C.2.2.2.2.2.2.1 _ wq_174) dX1_copySector_33 ?_
      refine lv_imul hx hb dX1_copySector_36 ?_
      refine lv_iload_n hx hb dX1_copySector_37 rfl (lv_at hl 3 rfl) ?_
      refine lv_iadd hx hb dX1_copySector_38 ?_
      obtain ⟨hc, h⟩ := h
      refine lS_0 C hP hc dX1_copySector_39 ?_
      obtain ⟨hc, h⟩ := h
      refine sS_2 C hap (fun _ h => h) hP hS hc dX1_copySector_40 (fun H locs hP hS => ?_)
      obtain ⟨μ40, e40⟩ : ∃ z : Ar, z = updA μ 2 (upd (μ 2) (v3).toNatClampNeg (μ 0 (((v1 * (σ 4)) + v3)).toNatClampNeg)) := ⟨_, rfl⟩
      have hP : va_P D vwCl (wS Ad cy σ μ40) H := by rw [e40]; exact hP
      have h := h μ40 e40
      obtain ⟨y41, e41⟩ : ∃ y : Int32, y = v3 + (1 : Int32) := ⟨_, rfl⟩
      have h := h y41 e41
      refine lv_iinc (v := y41) (lv' := [(3, .int y41), (0, .ref (Ad 1)), (1, .int v1), (2, .ref (Ad 5))]) hx hb dX1_copySector_41 hl (k := 3) rfl (by rw [e41]; rfl) (by decide) rfl (fun ls hl => ?_)
      refine lv_goto (tgt := 11) hx hb dX1_copySector_44 (by decide) ?_
      exact hk11 h hP hS (lv_sub hl [1, 2, 3, 0] rfl)
def wl_X1_copySector_11 (Q : Rg → Ar → Prop) (n : Nat) : Rg → Ar → Int32 → Int32 → Prop := Nat.rec (motive := fun _ => Rg → Ar → Int32 → Int32 → Prop) (fun _ _ _ _ => False) (fun _ k => wb_X1_copySector_11 Q k) n
set_option maxHeartbeats 4000000 in
theorem wkl_X1_copySector_11 {p : Program} {l : Launch} {e : Env} {s : State} {m : MethodId} {args : Array Value} {below : List Frame} {meth : Method} {c : Code} {D : va_G} {cy : ClassId} {Ad : Nat → Nat} (C : Cx p s m args meth c RX1 cX1_copySector 4 (none : Option FieldType) D [(cy, .int)]) (hap : apt 18 Ad) {Q : Rg → Ar → Prop}  : ∀ (n : Nat) {σ : Rg} {μ : Ar} {v1 : Int32} {v3 : Int32} {H : Heap} {locs : List Loc} {ls : Array Slot} (h : wl_X1_copySector_11 Q  n σ μ v1 v3) (hP : va_P D vwCl (wS Ad cy σ μ) H) (hS : va_S (AS 18 Ad) s.heap H locs) (hl : lv_has ls 4 [(0, .ref (Ad 1)), (1, .int v1), (2, .ref (Ad 5)), (3, .int v3)]), W p l e rmX1_copySector s m args below meth c H locs 0 0 (MQ below (Qcg (PWv (wS Ad cy) D Q) (AS 18 Ad)) args s 0 0 (AS 18 Ad)) (F0 m 11 ls []) := by
  intro n
  induction n with
  | zero => intro σ μ v1 v3 H locs ls h; exact h.elim
  | succ n ih =>
    intro σ μ v1 v3 H locs ls h hP hS hl
    exact wk_X1_copySector_11 C hap (fun h hP hS hl => ih h hP hS hl) h hP hS hl
def wp_X1_copySector (σ : Rg) (μ : Ar) (x1 : Int32) (Q : Rg → Ar → Prop) : Prop := wp_X1_hasSector σ μ x1 (fun r2 σ2 μ2 => ((¬ r2 = 0 → ∃ n, wl_X1_copySector_11 Q n σ2 μ2 x1 (0 : Int32)) ∧ (r2 = 0 → Q σ2 μ2)))
set_option maxHeartbeats 4000000 in
set_option maxRecDepth 100000 in
theorem ct_X1_copySector (l : Launch) (D : va_G) (cy : ClassId) (Ad : Nat → Nat) (hap : apt 18 Ad) {σ : Rg} {μ : Ar} {x1 : Int32} {Q : Rg → Ar → Prop} (h : wp_X1_copySector σ μ x1 Q) : Ct l yX1_copySector cX1_copySector 4 (none : Option FieldType) rmX1_copySector D [(cy, .int)] (fun H => va_P D vwCl (wS Ad cy σ μ) H) [.ref (Ad 1), .int x1, .ref (Ad 5)] (AS 18 Ad) (PWv (wS Ad cy) D Q) := by
  refine Ct.of (by decide) (Nat.le_of_ble_eq_true rfl) ?_
  intro p e s m below meth c ls C hP hl
  have hl : lv_has ls 4 [(0, .ref (Ad 1)), (1, .int x1), (2, .ref (Ad 5))] := hl
  have hS : va_S (AS 18 Ad) s.heap s.heap [] := va_S.rf
  have hx := C.1
  have hb := C.2.1
  refine lv_aload_n hx hb dX1_copySector_0 rfl (lv_at hl 0 rfl) ?_
  refine lv_iload_n hx hb dX1_copySector_1 rfl (lv_at hl 1 rfl) ?_
  refine kWi (rnV C (ct_X1_hasSector l D cy Ad hap h) yv_X1_hasSector wq_409 ⟨rfl, rfl⟩ ⟨Nat.le_of_ble_eq_true rfl, Nat.le_of_ble_eq_true rfl⟩ ⟨Nat.zero_le _, Nat.zero_le _⟩ (vS_chip C hP) hP hl.1 rfl rfl (Nat.le_of_ble_eq_true rfl) dX1_copySector_2) hS (fun _ h => h) (fun r2 σ2 μ2 H locs h hP hk hS => ?_)
  refine lv_if_ne (tgt := 9) hx hb dX1_copySector_5 (by decide) (fun hc => ?_) (fun hc => ?_)
  · have h := h.1 hc
    refine lv_iconst (v := 0) hx hb dX1_copySector_9 (by decide) ?_
    refine lv_istore_n (lv' := [(3, .int (0 : Int32)), (0, .ref (Ad 1)), (1, .int x1), (2, .ref (Ad 5))]) hx hb dX1_copySector_10 rfl hl (by decide) rfl (fun ls hl => ?_)
    obtain ⟨n, h⟩ := h
    exact wkl_X1_copySector_11 C hap n h hP hS (lv_sub hl [1, 2, 3, 0] rfl)
  · have h := h.2 hc
    exact endV C hS ⟨_, _, rfl, h, hP⟩ dX1_copySector_8
abbrev rmX1_numberOf : Room := { frames := 2, cells := 0, slots := 0, locals := 44 }
def wp_X1_numberOf (σ : Rg) (μ : Ar) (x1 : Int32) (Q : Int32 → Rg → Ar → Prop) : Prop := wp_X1_peek σ μ x1 (1 : Int32) (fun r3 σ3 μ3 => wp_X1_peek σ3 μ3 x1 (2 : Int32) (fun r13 σ13 μ13 => Q ((r3 * (256 : Int32)) + r13) σ13 μ13))
set_option maxHeartbeats 4000000 in
set_option maxRecDepth 100000 in
theorem ct_X1_numberOf (l : Launch) (D : va_G) (cy : ClassId) (Ad : Nat → Nat) (hap : apt 18 Ad) {σ : Rg} {μ : Ar} {x1 : Int32} {Q : Int32 → Rg → Ar → Prop} (h : wp_X1_numberOf σ μ x1 Q) : Ct l yX1_numberOf cX1_numberOf 2 (some FieldType.int) rmX1_numberOf D [(cy, .int)] (fun H => va_P D vwCl (wS Ad cy σ μ) H) [.ref (Ad 1), .int x1] (AS 18 Ad) (PWi (wS Ad cy) D Q) := by
  refine Ct.of (by decide) (Nat.le_of_ble_eq_true rfl) ?_
  intro p e s m below meth c ls C hP hl
  have hl : lv_has ls 2 [(0, .ref (Ad 1)), (1, .int x1)] := hl
  have hS : va_S (AS 18 Ad) s.heap s.heap [] := va_S.rf
  have hx := C.1
  have hb := C.2.1
  refine lv_aload_n hx hb dX1_numberOf_0 rfl (lv_at hl 0 rfl) ?_
  refine lv_iload_n hx hb dX1_numberOf_1 rfl (lv_at hl 1 rfl) ?_
  refine lv_iconst (v := 1) hx hb dX1_numberOf_2 (by decide) ?_
  refine kWi (rnV C (ct_X1_peek l D cy Ad hap h) yv_X1_peek wq_382 ⟨rfl, rfl⟩ ⟨Nat.le_of_ble_eq_true rfl, Nat.le_of_ble_eq_true rfl⟩ ⟨Nat.zero_le _, Nat.zero_le _⟩ (vS_chip C hP) hP hl.1 rfl rfl (Nat.le_of_ble_eq_true rfl) dX1_numberOf_3) hS (fun _ h => h) (fun r3 σ3 μ3 H locs h hP hk hS => ?_)
  refine lv_sipush (v := 256) hx hb dX1_numberOf_6 (by decide) ?_
  refine lv_imul hx hb dX1_numberOf_9 ?_
  refine lv_aload_n hx hb dX1_numberOf_10 rfl (lv_at hl 0 rfl) ?_
  refine lv_iload_n hx hb dX1_numberOf_11 rfl (lv_at hl 1 rfl) ?_
  refine lv_iconst (v := 2) hx hb dX1_numberOf_12 (by decide) ?_
  refine kWi (rnV C (ct_X1_peek l D cy Ad hap h) yv_X1_peek wq_382 ⟨rfl, rfl⟩ ⟨Nat.le_of_ble_eq_true rfl, Nat.le_of_ble_eq_true rfl⟩ ⟨Nat.zero_le _, Nat.zero_le _⟩ (vS_chip C hP) hP hl.1 rfl rfl (Nat.le_of_ble_eq_true rfl) dX1_numberOf_13) hS (fun _ h => h) (fun r13 σ13 μ13 H locs h hP hk hS => ?_)
  refine lv_iadd hx hb dX1_numberOf_16 ?_
  exact endI C hS ⟨_, _, _, rfl, h, hP⟩ dX1_numberOf_17
abbrev rmX1_isActive : Room := { frames := 2, cells := 0, slots := 0, locals := 44 }
def wb_X1_isActive_43 (Q : Int32 → Rg → Ar → Prop) (σ : Rg) (μ : Ar) (t0 : Int32) : Prop := (bz t0) ∧ (Q t0 σ μ)
set_option maxHeartbeats 4000000 in
set_option maxRecDepth 100000 in
theorem wk_X1_isActive_43 {p : Program} {l : Launch} {e : Env} {s : State} {m : MethodId} {args : Array Value} {below : List Frame} {meth : Method} {c : Code} {D : va_G} {cy : ClassId} {Ad : Nat → Nat} (C : Cx p s m args meth c RX1 cX1_isActive 3 (some FieldType.boolean) D [(cy, .int)]) (hap : apt 18 Ad) {Q : Int32 → Rg → Ar → Prop} {σ : Rg} {μ : Ar} {t0 : Int32} {H : Heap} {locs : List Loc} {ls : Array Slot} (h : wb_X1_isActive_43 Q σ μ t0) (hP : va_P D vwCl (wS Ad cy σ μ) H) (hS : va_S (AS 18 Ad) s.heap H locs) (hl : lv_has ls 3 []) : W p l e rmX1_isActive s m args below meth c H locs 0 0 (MQ below (Qcg (PWi (wS Ad cy) D Q) (AS 18 Ad)) args s 0 0 (AS 18 Ad)) (F0 m 43 ls [.int t0]) := by
  have hx := C.1
  have hb := C.2.1
  obtain ⟨hc, h⟩ := h
  exact endZ C hS hc ⟨_, _, _, rfl, h, hP⟩ dX1_isActive_43
def wb_X1_isActive_42 (Q : Int32 → Rg → Ar → Prop) (σ : Rg) (μ : Ar) : Prop := wb_X1_isActive_43 Q σ μ (0 : Int32)
set_option maxHeartbeats 4000000 in
set_option maxRecDepth 100000 in
theorem wk_X1_isActive_42 {p : Program} {l : Launch} {e : Env} {s : State} {m : MethodId} {args : Array Value} {below : List Frame} {meth : Method} {c : Code} {D : va_G} {cy : ClassId} {Ad : Nat → Nat} (C : Cx p s m args meth c RX1 cX1_isActive 3 (some FieldType.boolean) D [(cy, .int)]) (hap : apt 18 Ad) {Q : Int32 → Rg → Ar → Prop} {σ : Rg} {μ : Ar}  {H : Heap} {locs : List Loc} {ls : Array Slot} (h : wb_X1_isActive_42 Q σ μ) (hP : va_P D vwCl (wS Ad cy σ μ) H) (hS : va_S (AS 18 Ad) s.heap H locs) (hl : lv_has ls 3 []) : W p l e rmX1_isActive s m args below meth c H locs 0 0 (MQ below (Qcg (PWi (wS Ad cy) D Q) (AS 18 Ad)) args s 0 0 (AS 18 Ad)) (F0 m 42 ls []) := by
  have hx := C.1
  have hb := C.2.1
  refine lv_iconst (v := 0) hx hb dX1_isActive_42 (by decide) ?_
  exact wk_X1_isActive_43 C hap h hP hS (lv_sub hl [] rfl)
def wp_X1_isActive (σ : Rg) (μ : Ar) (x1 : Int32) (Q : Int32 → Rg → Ar → Prop) : Prop := wp_X1_peek σ μ x1 (1 : Int32) (fun r3 σ3 μ3 => wp_X1_peek σ3 μ3 x1 (2 : Int32) (fun r9 σ9 μ9 => ∀ y13 : Int32, y13 = (r3 + r9) → (wp_X1_peek σ9 μ9 x1 (0 : Int32) (fun r17 σ17 μ17 => ((¬ r17 = (63 : Int32) → wb_X1_isActive_42 Q σ17 μ17) ∧ (r17 = (63 : Int32) → wp_X1_peek σ17 μ17 x1 (3 : Int32) (fun r28 σ28 μ28 => wp_X5_checkOf y13 (fun r32 => ((¬ r28 = r32 → wb_X1_isActive_42 Q σ28 μ28) ∧ (r28 = r32 → wb_X1_isActive_43 Q σ28 μ28 (1 : Int32)))))))))))
set_option maxHeartbeats 4000000 in
set_option maxRecDepth 100000 in
theorem ct_X1_isActive (l : Launch) (D : va_G) (cy : ClassId) (Ad : Nat → Nat) (hap : apt 18 Ad) {σ : Rg} {μ : Ar} {x1 : Int32} {Q : Int32 → Rg → Ar → Prop} (h : wp_X1_isActive σ μ x1 Q) : Ct l yX1_isActive cX1_isActive 3 (some FieldType.boolean) rmX1_isActive D [(cy, .int)] (fun H => va_P D vwCl (wS Ad cy σ μ) H) [.ref (Ad 1), .int x1] (AS 18 Ad) (PWi (wS Ad cy) D Q) := by
  refine Ct.of (by decide) (Nat.le_of_ble_eq_true rfl) ?_
  intro p e s m below meth c ls C hP hl
  have hl : lv_has ls 3 [(0, .ref (Ad 1)), (1, .int x1)] := hl
  have hS : va_S (AS 18 Ad) s.heap s.heap [] := va_S.rf
  have hx := C.1
  have hb := C.2.1
  refine lv_aload_n hx hb dX1_isActive_0 rfl (lv_at hl 0 rfl) ?_
  refine lv_iload_n hx hb dX1_isActive_1 rfl (lv_at hl 1 rfl) ?_
  refine lv_iconst (v := 1) hx hb dX1_isActive_2 (by decide) ?_
  refine kWi (rnV C (ct_X1_peek l D cy Ad hap h) yv_X1_peek wq_382 ⟨rfl, rfl⟩ ⟨Nat.le_of_ble_eq_true rfl, Nat.le_of_ble_eq_true rfl⟩ ⟨Nat.zero_le _, Nat.zero_le _⟩ (vS_chip C hP) hP hl.1 rfl rfl (Nat.le_of_ble_eq_true rfl) dX1_isActive_3) hS (fun _ h => h) (fun r3 σ3 μ3 H locs h hP hk hS => ?_)
  refine lv_aload_n hx hb dX1_isActive_6 rfl (lv_at hl 0 rfl) ?_
  refine lv_iload_n hx hb dX1_isActive_7 rfl (lv_at hl 1 rfl) ?_
  refine lv_iconst (v := 2) hx hb dX1_isActive_8 (by decide) ?_
  refine kWi (rnV C (ct_X1_peek l D cy Ad hap h) yv_X1_peek wq_382 ⟨rfl, rfl⟩ ⟨Nat.le_of_ble_eq_true rfl, Nat.le_of_ble_eq_true rfl⟩ ⟨Nat.zero_le _, Nat.zero_le _⟩ (vS_chip C hP) hP hl.1 rfl rfl (Nat.le_of_ble_eq_true rfl) dX1_isActive_9) hS (fun _ h => h) (fun r9 σ9 μ9 H locs h hP hk hS => ?_)
  refine lv_iadd hx hb dX1_isActive_12 ?_
  refine lv_topi (fun y13 e13 => ?_)
  have h := h y13 e13
  refine lv_istore_n (lv' := [(2, .int y13), (0, .ref (Ad 1)), (1, .int x1)]) hx hb dX1_isActive_13 rfl hl (by decide) rfl (fun ls hl => ?_)
  refine lv_aload_n hx hb dX1_isActive_14 rfl (lv_at hl 1 rfl) ?_
  refine lv_iload_n hx hb dX1_isActive_15 rfl (lv_at hl 2 rfl) ?_
  refine lv_iconst (v := 0) hx hb dX1_isActive_16 (by decide) ?_
  refine kWi (rnV C (ct_X1_peek l D cy Ad hap h) yv_X1_peek wq_382 ⟨rfl, rfl⟩ ⟨Nat.le_of_ble_eq_true rfl, Nat.le_of_ble_eq_true rfl⟩ ⟨Nat.zero_le _, Nat.zero_le _⟩ (vS_chip C hP) hP hl.1 rfl rfl (Nat.le_of_ble_eq_true rfl) dX1_isActive_17) hS (fun _ h => h) (fun r17 σ17 μ17 H locs h hP hk hS => ?_)
  refine lv_bipush (v := 63) hx hb dX1_isActive_20 (by decide) ?_
  refine lv_icmp_ne (tgt := 42) hx hb dX1_isActive_22 (by decide) (fun hc => ?_) (fun hc => ?_)
  · have h := h.1 hc
    exact wk_X1_isActive_42 C hap h hP hS (lv_sub hl [] rfl)
  · have h := h.2 hc
    refine lv_aload_n hx hb dX1_isActive_25 rfl (lv_at hl 1 rfl) ?_
    refine lv_iload_n hx hb dX1_isActive_26 rfl (lv_at hl 2 rfl) ?_
    refine lv_iconst (v := 3) hx hb dX1_isActive_27 (by decide) ?_
    refine kWi (rnV C (ct_X1_peek l D cy Ad hap h) yv_X1_peek wq_382 ⟨rfl, rfl⟩ ⟨Nat.le_of_ble_eq_true rfl, Nat.le_of_ble_eq_true rfl⟩ ⟨Nat.zero_le _, Nat.zero_le _⟩ (vS_chip C hP) hP hl.1 rfl rfl (Nat.le_of_ble_eq_true rfl) dX1_isActive_28) hS (fun _ h => h) (fun r28 σ28 μ28 H locs h hP hk hS => ?_)
    refine lv_iload_n hx hb dX1_isActive_31 rfl (lv_at hl 0 rfl) ?_
    refine kNi (rnSN (C.none) (ct_X5_checkOf l D h) ys_X5_checkOf wn_390 ⟨rfl, rfl⟩ ⟨Nat.le_of_ble_eq_true rfl, Nat.le_of_ble_eq_true rfl⟩ ⟨Nat.zero_le _, Nat.zero_le _⟩ trivial hl.1 rfl rfl (Nat.le_of_ble_eq_true rfl) dX1_isActive_32) hS (fun _ h => h.elim) (fun r32 H locs h hk hS => ?_)
    have hP := keepN hP hk
    refine lv_icmp_ne (tgt := 42) hx hb dX1_isActive_35 (by decide) (fun hc => ?_) (fun hc => ?_)
    · have h := h.1 hc
      exact wk_X1_isActive_42 C hap h hP hS (lv_sub hl [] rfl)
    · have h := h.2 hc
      refine lv_iconst (v := 1) hx hb dX1_isActive_38 (by decide) ?_
      refine lv_goto (tgt := 43) hx hb dX1_isActive_39 (by decide) ?_
      exact wk_X1_isActive_43 C hap h hP hS (lv_sub hl [] rfl)
abbrev rmX1_greatestActive : Room := { frames := 3, cells := 0, slots := 0, locals := 66 }
def wb_X1_greatestActive_40 (Q : Int32 → Rg → Ar → Prop) (k4 : Rg → Ar → Int32 → Int32 → Prop) (σ : Rg) (μ : Ar) (v1 : Int32) (v2 : Int32) : Prop := ∀ y40 : Int32, y40 = v2 + (1 : Int32) → (k4 σ μ v1 y40)
set_option maxHeartbeats 4000000 in
set_option maxRecDepth 100000 in
theorem wk_X1_greatestActive_40 {p : Program} {l : Launch} {e : Env} {s : State} {m : MethodId} {args : Array Value} {below : List Frame} {meth : Method} {c : Code} {D : va_G} {cy : ClassId} {Ad : Nat → Nat} (C : Cx p s m args meth c RX1 cX1_greatestActive 3 (some FieldType.int) D [(cy, .int)]) (hap : apt 18 Ad) {Q : Int32 → Rg → Ar → Prop} {k4 : Rg → Ar → Int32 → Int32 → Prop} (hk4 : ∀ {σ : Rg} {μ : Ar} {v1 : Int32} {v2 : Int32} {H : Heap} {locs : List Loc} {ls : Array Slot}, k4 σ μ v1 v2 → va_P D vwCl (wS Ad cy σ μ) H → va_S (AS 18 Ad) s.heap H locs → lv_has ls 3 [(0, .ref (Ad 1)), (1, .int v1), (2, .int v2)] → W p l e rmX1_greatestActive s m args below meth c H locs 0 0 (MQ below (Qcg (PWi (wS Ad cy) D Q) (AS 18 Ad)) args s 0 0 (AS 18 Ad)) (F0 m 4 ls [])) {σ : Rg} {μ : Ar} {v1 : Int32} {v2 : Int32} {H : Heap} {locs : List Loc} {ls : Array Slot} (h : wb_X1_greatestActive_40 Q k4 σ μ v1 v2) (hP : va_P D vwCl (wS Ad cy σ μ) H) (hS : va_S (AS 18 Ad) s.heap H locs) (hl : lv_has ls 3 [(0, .ref (Ad 1)), (1, .int v1), (2, .int v2)]) : W p l e rmX1_greatestActive s m args below meth c H locs 0 0 (MQ below (Qcg (PWi (wS Ad cy) D Q) (AS 18 Ad)) args s 0 0 (AS 18 Ad)) (F0 m 40 ls []) := by
  have hx := C.1
  have hb := C.2.1
  obtain ⟨y40, e40⟩ : ∃ y : Int32, y = v2 + (1 : Int32) := ⟨_, rfl⟩
  have h := h y40 e40
  refine lv_iinc (v := y40) (lv' := [(2, .int y40), (0, .ref (Ad 1)), (1, .int v1)]) hx hb dX1_greatestActive_40 hl (k := 2) rfl (by rw [e40]; rfl) (by decide) rfl (fun ls hl => ?_)
  refine lv_goto (tgt := 4) hx hb dX1_greatestActive_43 (by decide) ?_
  exact hk4 h hP hS (lv_sub hl [1, 2, 0] rfl)
def wb_X1_greatestActive_38 (Q : Int32 → Rg → Ar → Prop) (k4 : Rg → Ar → Int32 → Int32 → Prop) (σ : Rg) (μ : Ar) (v2 : Int32) : Prop := wb_X1_greatestActive_40 Q k4 σ μ v2 v2
set_option maxHeartbeats 4000000 in
set_option maxRecDepth 100000 in
theorem wk_X1_greatestActive_38 {p : Program} {l : Launch} {e : Env} {s : State} {m : MethodId} {args : Array Value} {below : List Frame} {meth : Method} {c : Code} {D : va_G} {cy : ClassId} {Ad : Nat → Nat} (C : Cx p s m args meth c RX1 cX1_greatestActive 3 (some FieldType.int) D [(cy, .int)]) (hap : apt 18 Ad) {Q : Int32 → Rg → Ar → Prop} {k4 : Rg → Ar → Int32 → Int32 → Prop} (hk4 : ∀ {σ : Rg} {μ : Ar} {v1 : Int32} {v2 : Int32} {H : Heap} {locs : List Loc} {ls : Array Slot}, k4 σ μ v1 v2 → va_P D vwCl (wS Ad cy σ μ) H → va_S (AS 18 Ad) s.heap H locs → lv_has ls 3 [(0, .ref (Ad 1)), (1, .int v1), (2, .int v2)] → W p l e rmX1_greatestActive s m args below meth c H locs 0 0 (MQ below (Qcg (PWi (wS Ad cy) D Q) (AS 18 Ad)) args s 0 0 (AS 18 Ad)) (F0 m 4 ls [])) {σ : Rg} {μ : Ar} {v2 : Int32} {H : Heap} {locs : List Loc} {ls : Array Slot} (h : wb_X1_greatestActive_38 Q k4 σ μ v2) (hP : va_P D vwCl (wS Ad cy σ μ) H) (hS : va_S (AS 18 Ad) s.heap H locs) (hl : lv_has ls 3 [(0, .ref (Ad 1)), (2, .int v2)]) : W p l e rmX1_greatestActive s m args below meth c H locs 0 0 (MQ below (Qcg (PWi (wS Ad cy) D Q) (AS 18 Ad)) args s 0 0 (AS 18 Ad)) (F0 m 38 ls []) := by
  have hx := C.1
  have hb := C.2.1
  refine lv_iload_n hx hb dX1_greatestActive_38 rfl (lv_at hl 1 rfl) ?_
  refine lv_istore_n (lv' := [(1, .int v2), (0, .ref (Ad 1)), (2, .int v2)]) hx hb dX1_greatestActive_39 rfl hl (by decide) rfl (fun ls hl => ?_)
  exact wk_X1_greatestActive_40 C hap hk4 h hP hS (lv_sub hl [1, 0, 2] rfl)
def wb_X1_greatestActive_4 (Q : Int32 → Rg → Ar → Prop) (k4 : Rg → Ar → Int32 → Int32 → Prop) (σ : Rg) (μ : Ar) (v1 : Int32) (v2 : Int32) : Prop := (((σ 3) ≤ v2 → Q v1 σ μ) ∧ (¬ (σ 3) ≤ v2 → wp_X1_isActive σ μ v2 (fun r14 σ14 μ14 => ((r14 = 0 → wb_X1_greatestActive_40 Q k4 σ14 μ14 v1 v2) ∧ (¬ r14 = 0 → ((v1 = (-1 : Int32) → wb_X1_greatestActive_38 Q k4 σ14 μ14 v2) ∧ (¬ v1 = (-1 : Int32) → wp_X1_numberOf σ14 μ14 v2 (fun r27 σ27 μ27 => wp_X1_numberOf σ27 μ27 v1 (fun r32 σ32 μ32 => ((r27 ≤ r32 → wb_X1_greatestActive_40 Q k4 σ32 μ32 v1 v2) ∧ (¬ r27 ≤ r32 → wb_X1_greatestActive_38 Q k4 σ32 μ32 v2)))))))))))
set_option maxHeartbeats 4000000 in
set_option maxRecDepth 100000 in
theorem wk_X1_greatestActive_4 {p : Program} {l : Launch} {e : Env} {s : State} {m : MethodId} {args : Array Value} {below : List Frame} {meth : Method} {c : Code} {D : va_G} {cy : ClassId} {Ad : Nat → Nat} (C : Cx p s m args meth c RX1 cX1_greatestActive 3 (some FieldType.int) D [(cy, .int)]) (hap : apt 18 Ad) {Q : Int32 → Rg → Ar → Prop} {k4 : Rg → Ar → Int32 → Int32 → Prop} (hk4 : ∀ {σ : Rg} {μ : Ar} {v1 : Int32} {v2 : Int32} {H : Heap} {locs : List Loc} {ls : Array Slot}, k4 σ μ v1 v2 → va_P D vwCl (wS Ad cy σ μ) H → va_S (AS 18 Ad) s.heap H locs → lv_has ls 3 [(0, .ref (Ad 1)), (1, .int v1), (2, .int v2)] → W p l e rmX1_greatestActive s m args below meth c H locs 0 0 (MQ below (Qcg (PWi (wS Ad cy) D Q) (AS 18 Ad)) args s 0 0 (AS 18 Ad)) (F0 m 4 ls [])) {σ : Rg} {μ : Ar} {v1 : Int32} {v2 : Int32} {H : Heap} {locs : List Loc} {ls : Array Slot} (h : wb_X1_greatestActive_4 Q k4 σ μ v1 v2) (hP : va_P D vwCl (wS Ad cy σ μ) H) (hS : va_S (AS 18 Ad) s.heap H locs) (hl : lv_has ls 3 [(0, .ref (Ad 1)), (1, .int v1), (2, .int v2)]) : W p l e rmX1_greatestActive s m args below meth c H locs 0 0 (MQ below (Qcg (PWi (wS Ad cy) D Q) (AS 18 Ad)) args s 0 0 (AS 18 Ad)) (F0 m 4 ls []) := by
  have hx := C.1
  have hb := C.2.1
  refine lv_iload_n hx hb dX1_greatestActive_4 rfl (lv_at hl 2 rfl) ?_
  refine lv_aload_n hx hb dX1_greatestActive_5 rfl (lv_at hl 0 rfl) ?_
  refine gS_chip_sectors C hP (C.2.2.2.2.2.2.1 _ wq_171) dX1_greatestActive_6 ?_
  refine lv_icmp_ge (tgt := 46) hx hb dX1_greatestActive_9 (by decide) (fun hc => ?_) (fun hc => ?_)
  · have h := h.1 hc
    refine lv_iload_n hx hb dX1_greatestActive_46 rfl (lv_at hl 1 rfl) ?_
    exact endI C hS ⟨_, _, _, rfl, h, hP⟩ dX1_greatestActive_47
  · have h := h.2 hc
    refine lv_aload_n hx hb dX1_greatestActive_12 rfl (lv_at hl 0 rfl) ?_
    refine lv_iload_n hx hb dX1_greatestActive_13 rfl (lv_at hl 2 rfl) ?_
    refine kWi (rnV C (ct_X1_isActive l D cy Ad hap h) yv_X1_isActive wq_378 ⟨rfl, rfl⟩ ⟨Nat.le_of_ble_eq_true rfl, Nat.le_of_ble_eq_true rfl⟩ ⟨Nat.zero_le _, Nat.zero_le _⟩ (vS_chip C hP) hP hl.1 rfl rfl (Nat.le_of_ble_eq_true rfl) dX1_greatestActive_14) hS (fun _ h => h) (fun r14 σ14 μ14 H locs h hP hk hS => ?_)
    refine lv_if_eq (tgt := 40) hx hb dX1_greatestActive_17 (by decide) (fun hc => ?_) (fun hc => ?_)
    · have h := h.1 hc
      exact wk_X1_greatestActive_40 C hap hk4 h hP hS (lv_sub hl [0, 1, 2] rfl)
    · have h := h.2 hc
      refine lv_iload_n hx hb dX1_greatestActive_20 rfl (lv_at hl 1 rfl) ?_
      refine lv_iconst (v := -1) hx hb dX1_greatestActive_21 (by decide) ?_
      refine lv_icmp_eq (tgt := 38) hx hb dX1_greatestActive_22 (by decide) (fun hc => ?_) (fun hc => ?_)
      · have h := h.1 hc
        exact wk_X1_greatestActive_38 C hap hk4 h hP hS (lv_sub hl [0, 2] rfl)
      · have h := h.2 hc
        refine lv_aload_n hx hb dX1_greatestActive_25 rfl (lv_at hl 0 rfl) ?_
        refine lv_iload_n hx hb dX1_greatestActive_26 rfl (lv_at hl 2 rfl) ?_
        refine kWi (rnV C (ct_X1_numberOf l D cy Ad hap h) yv_X1_numberOf wq_393 ⟨rfl, rfl⟩ ⟨Nat.le_of_ble_eq_true rfl, Nat.le_of_ble_eq_true rfl⟩ ⟨Nat.zero_le _, Nat.zero_le _⟩ (vS_chip C hP) hP hl.1 rfl rfl (Nat.le_of_ble_eq_true rfl) dX1_greatestActive_27) hS (fun _ h => h) (fun r27 σ27 μ27 H locs h hP hk hS => ?_)
        refine lv_aload_n hx hb dX1_greatestActive_30 rfl (lv_at hl 0 rfl) ?_
        refine lv_iload_n hx hb dX1_greatestActive_31 rfl (lv_at hl 1 rfl) ?_
        refine kWi (rnV C (ct_X1_numberOf l D cy Ad hap h) yv_X1_numberOf wq_393 ⟨rfl, rfl⟩ ⟨Nat.le_of_ble_eq_true rfl, Nat.le_of_ble_eq_true rfl⟩ ⟨Nat.zero_le _, Nat.zero_le _⟩ (vS_chip C hP) hP hl.1 rfl rfl (Nat.le_of_ble_eq_true rfl) dX1_greatestActive_32) hS (fun _ h => h) (fun r32 σ32 μ32 H locs h hP hk hS => ?_)
        refine lv_icmp_le (tgt := 40) hx hb dX1_greatestActive_35 (by decide) (fun hc => ?_) (fun hc => ?_)
        · have h := h.1 hc
          exact wk_X1_greatestActive_40 C hap hk4 h hP hS (lv_sub hl [0, 1, 2] rfl)
        · have h := h.2 hc
          exact wk_X1_greatestActive_38 C hap hk4 h hP hS (lv_sub hl [0, 2] rfl)
def wl_X1_greatestActive_4 (Q : Int32 → Rg → Ar → Prop) (n : Nat) : Rg → Ar → Int32 → Int32 → Prop := Nat.rec (motive := fun _ => Rg → Ar → Int32 → Int32 → Prop) (fun _ _ _ _ => False) (fun _ k => wb_X1_greatestActive_4 Q k) n
set_option maxHeartbeats 4000000 in
theorem wkl_X1_greatestActive_4 {p : Program} {l : Launch} {e : Env} {s : State} {m : MethodId} {args : Array Value} {below : List Frame} {meth : Method} {c : Code} {D : va_G} {cy : ClassId} {Ad : Nat → Nat} (C : Cx p s m args meth c RX1 cX1_greatestActive 3 (some FieldType.int) D [(cy, .int)]) (hap : apt 18 Ad) {Q : Int32 → Rg → Ar → Prop}  : ∀ (n : Nat) {σ : Rg} {μ : Ar} {v1 : Int32} {v2 : Int32} {H : Heap} {locs : List Loc} {ls : Array Slot} (h : wl_X1_greatestActive_4 Q  n σ μ v1 v2) (hP : va_P D vwCl (wS Ad cy σ μ) H) (hS : va_S (AS 18 Ad) s.heap H locs) (hl : lv_has ls 3 [(0, .ref (Ad 1)), (1, .int v1), (2, .int v2)]), W p l e rmX1_greatestActive s m args below meth c H locs 0 0 (MQ below (Qcg (PWi (wS Ad cy) D Q) (AS 18 Ad)) args s 0 0 (AS 18 Ad)) (F0 m 4 ls []) := by
  intro n
  induction n with
  | zero => intro σ μ v1 v2 H locs ls h; exact h.elim
  | succ n ih =>
    intro σ μ v1 v2 H locs ls h hP hS hl
    exact wk_X1_greatestActive_4 C hap (fun h hP hS hl => ih h hP hS hl) h hP hS hl
def wp_X1_greatestActive (σ : Rg) (μ : Ar) (Q : Int32 → Rg → Ar → Prop) : Prop := ∃ n, wl_X1_greatestActive_4 Q n σ μ (-1 : Int32) (0 : Int32)
set_option maxHeartbeats 4000000 in
set_option maxRecDepth 100000 in
theorem ct_X1_greatestActive (l : Launch) (D : va_G) (cy : ClassId) (Ad : Nat → Nat) (hap : apt 18 Ad) {σ : Rg} {μ : Ar}  {Q : Int32 → Rg → Ar → Prop} (h : wp_X1_greatestActive σ μ  Q) : Ct l yX1_greatestActive cX1_greatestActive 3 (some FieldType.int) rmX1_greatestActive D [(cy, .int)] (fun H => va_P D vwCl (wS Ad cy σ μ) H) [.ref (Ad 1)] (AS 18 Ad) (PWi (wS Ad cy) D Q) := by
  refine Ct.of (by decide) (Nat.le_of_ble_eq_true rfl) ?_
  intro p e s m below meth c ls C hP hl
  have hl : lv_has ls 3 [(0, .ref (Ad 1))] := hl
  have hS : va_S (AS 18 Ad) s.heap s.heap [] := va_S.rf
  have hx := C.1
  have hb := C.2.1
  refine lv_iconst (v := -1) hx hb dX1_greatestActive_0 (by decide) ?_
  refine lv_istore_n (lv' := [(1, .int (-1 : Int32)), (0, .ref (Ad 1))]) hx hb dX1_greatestActive_1 rfl hl (by decide) rfl (fun ls hl => ?_)
  refine lv_iconst (v := 0) hx hb dX1_greatestActive_2 (by decide) ?_
  refine lv_istore_n (lv' := [(2, .int (0 : Int32)), (1, .int (-1 : Int32)), (0, .ref (Ad 1))]) hx hb dX1_greatestActive_3 rfl hl (by decide) rfl (fun ls hl => ?_)
  obtain ⟨n, h⟩ := h
  exact wkl_X1_greatestActive_4 C hap n h hP hS (lv_sub hl [2, 1, 0] rfl)
abbrev rmX1_erasesOf : Room := { frames := 1, cells := 0, slots := 0, locals := 21 }
def wb_X1_erasesOf_18 (Q : Int32 → Rg → Ar → Prop) (σ : Rg) (μ : Ar) (t0 : Int32) : Prop := Q t0 σ μ
set_option maxHeartbeats 4000000 in
set_option maxRecDepth 100000 in
theorem wk_X1_erasesOf_18 {p : Program} {l : Launch} {e : Env} {s : State} {m : MethodId} {args : Array Value} {below : List Frame} {meth : Method} {c : Code} {D : va_G} {cy : ClassId} {Ad : Nat → Nat} (C : Cx p s m args meth c RX1 cX1_erasesOf 2 (some FieldType.int) D [(cy, .int)]) (hap : apt 18 Ad) {Q : Int32 → Rg → Ar → Prop} {σ : Rg} {μ : Ar} {t0 : Int32} {H : Heap} {locs : List Loc} {ls : Array Slot} (h : wb_X1_erasesOf_18 Q σ μ t0) (hP : va_P D vwCl (wS Ad cy σ μ) H) (hS : va_S (AS 18 Ad) s.heap H locs) (hl : lv_has ls 2 []) : W p l e rmX1_erasesOf s m args below meth c H locs 0 0 (MQ below (Qcg (PWi (wS Ad cy) D Q) (AS 18 Ad)) args s 0 0 (AS 18 Ad)) (F0 m 18 ls [.int t0]) := by
  have hx := C.1
  have hb := C.2.1
  exact endI C hS ⟨_, _, _, rfl, h, hP⟩ dX1_erasesOf_18
def wp_X1_erasesOf (σ : Rg) (μ : Ar) (x1 : Int32) (Q : Int32 → Rg → Ar → Prop) : Prop := wp_X1_hasSector σ μ x1 (fun r2 σ2 μ2 => ((r2 = 0 → wb_X1_erasesOf_18 Q σ2 μ2 (0 : Int32)) ∧ (¬ r2 = 0 → (vp_in x1 6) ∧ (wb_X1_erasesOf_18 Q σ2 μ2 (μ2 1 (x1).toNatClampNeg)))))
set_option maxHeartbeats 4000000 in
set_option maxRecDepth 100000 in
theorem ct_X1_erasesOf (l : Launch) (D : va_G) (cy : ClassId) (Ad : Nat → Nat) (hap : apt 18 Ad) {σ : Rg} {μ : Ar} {x1 : Int32} {Q : Int32 → Rg → Ar → Prop} (h : wp_X1_erasesOf σ μ x1 Q) : Ct l yX1_erasesOf cX1_erasesOf 2 (some FieldType.int) rmX1_erasesOf D [(cy, .int)] (fun H => va_P D vwCl (wS Ad cy σ μ) H) [.ref (Ad 1), .int x1] (AS 18 Ad) (PWi (wS Ad cy) D Q) := by
  refine Ct.of (by decide) (Nat.le_of_ble_eq_true rfl) ?_
  intro p e s m below meth c ls C hP hl
  have hl : lv_has ls 2 [(0, .ref (Ad 1)), (1, .int x1)] := hl
  have hS : va_S (AS 18 Ad) s.heap s.heap [] := va_S.rf
  have hx := C.1
  have hb := C.2.1
  refine lv_aload_n hx hb dX1_erasesOf_0 rfl (lv_at hl 0 rfl) ?_
  refine lv_iload_n hx hb dX1_erasesOf_1 rfl (lv_at hl 1 rfl) ?_
  refine kWi (rnV C (ct_X1_hasSector l D cy Ad hap h) yv_X1_hasSector wq_409 ⟨rfl, rfl⟩ ⟨Nat.le_of_ble_eq_true rfl, Nat.le_of_ble_eq_true rfl⟩ ⟨Nat.zero_le _, Nat.zero_le _⟩ (vS_chip C hP) hP hl.1 rfl rfl (Nat.le_of_ble_eq_true rfl) dX1_erasesOf_2) hS (fun _ h => h) (fun r2 σ2 μ2 H locs h hP hk hS => ?_)
  refine lv_if_eq (tgt := 17) hx hb dX1_erasesOf_5 (by decide) (fun hc => ?_) (fun hc => ?_)
  · have h := h.1 hc
    refine lv_iconst (v := 0) hx hb dX1_erasesOf_17 (by decide) ?_
    exact wk_X1_erasesOf_18 C hap h hP hS (lv_sub hl [] rfl)
  · have h := h.2 hc
    refine lv_aload_n hx hb dX1_erasesOf_8 rfl (lv_at hl 0 rfl) ?_
    refine gS_chip_erases C hP (C.2.2.2.2.2.2.1 _ wq_169) dX1_erasesOf_9 ?_
    refine lv_iload_n hx hb dX1_erasesOf_12 rfl (lv_at hl 1 rfl) ?_
    obtain ⟨hc, h⟩ := h
    refine lS_1 C hP hc dX1_erasesOf_13 ?_
    refine lv_goto (tgt := 18) hx hb dX1_erasesOf_14 (by decide) ?_
    exact wk_X1_erasesOf_18 C hap h hP hS (lv_sub hl [] rfl)
abbrev rmX1_leastErased : Room := { frames := 2, cells := 0, slots := 0, locals := 42 }
def wb_X1_leastErased_37 (Q : Int32 → Rg → Ar → Prop) (k4 : Rg → Ar → Int32 → Int32 → Int32 → Prop) (σ : Rg) (μ : Ar) (v1 : Int32) (v2 : Int32) (v3 : Int32) : Prop := ∀ y37 : Int32, y37 = v3 + (1 : Int32) → (k4 σ μ v1 v2 y37)
set_option maxHeartbeats 4000000 in
set_option maxRecDepth 100000 in
theorem wk_X1_leastErased_37 {p : Program} {l : Launch} {e : Env} {s : State} {m : MethodId} {args : Array Value} {below : List Frame} {meth : Method} {c : Code} {D : va_G} {cy : ClassId} {Ad : Nat → Nat} (C : Cx p s m args meth c RX1 cX1_leastErased 4 (some FieldType.int) D [(cy, .int)]) (hap : apt 18 Ad) {Q : Int32 → Rg → Ar → Prop} {k4 : Rg → Ar → Int32 → Int32 → Int32 → Prop} (hk4 : ∀ {σ : Rg} {μ : Ar} {v1 : Int32} {v2 : Int32} {v3 : Int32} {H : Heap} {locs : List Loc} {ls : Array Slot}, k4 σ μ v1 v2 v3 → va_P D vwCl (wS Ad cy σ μ) H → va_S (AS 18 Ad) s.heap H locs → lv_has ls 4 [(0, .ref (Ad 1)), (1, .int v1), (2, .int v2), (3, .int v3)] → W p l e rmX1_leastErased s m args below meth c H locs 0 0 (MQ below (Qcg (PWi (wS Ad cy) D Q) (AS 18 Ad)) args s 0 0 (AS 18 Ad)) (F0 m 4 ls [])) {σ : Rg} {μ : Ar} {v1 : Int32} {v2 : Int32} {v3 : Int32} {H : Heap} {locs : List Loc} {ls : Array Slot} (h : wb_X1_leastErased_37 Q k4 σ μ v1 v2 v3) (hP : va_P D vwCl (wS Ad cy σ μ) H) (hS : va_S (AS 18 Ad) s.heap H locs) (hl : lv_has ls 4 [(0, .ref (Ad 1)), (1, .int v1), (2, .int v2), (3, .int v3)]) : W p l e rmX1_leastErased s m args below meth c H locs 0 0 (MQ below (Qcg (PWi (wS Ad cy) D Q) (AS 18 Ad)) args s 0 0 (AS 18 Ad)) (F0 m 37 ls []) := by
  have hx := C.1
  have hb := C.2.1
  obtain ⟨y37, e37⟩ : ∃ y : Int32, y = v3 + (1 : Int32) := ⟨_, rfl⟩
  have h := h y37 e37
  refine lv_iinc (v := y37) (lv' := [(3, .int y37), (0, .ref (Ad 1)), (1, .int v1), (2, .int v2)]) hx hb dX1_leastErased_37 hl (k := 3) rfl (by rw [e37]; rfl) (by decide) rfl (fun ls hl => ?_)
  refine lv_goto (tgt := 4) hx hb dX1_leastErased_40 (by decide) ?_
  exact hk4 h hP hS (lv_sub hl [1, 2, 3, 0] rfl)
def wb_X1_leastErased_35 (Q : Int32 → Rg → Ar → Prop) (k4 : Rg → Ar → Int32 → Int32 → Int32 → Prop) (σ : Rg) (μ : Ar) (v1 : Int32) (v3 : Int32) : Prop := wb_X1_leastErased_37 Q k4 σ μ v1 v3 v3
set_option maxHeartbeats 4000000 in
set_option maxRecDepth 100000 in
theorem wk_X1_leastErased_35 {p : Program} {l : Launch} {e : Env} {s : State} {m : MethodId} {args : Array Value} {below : List Frame} {meth : Method} {c : Code} {D : va_G} {cy : ClassId} {Ad : Nat → Nat} (C : Cx p s m args meth c RX1 cX1_leastErased 4 (some FieldType.int) D [(cy, .int)]) (hap : apt 18 Ad) {Q : Int32 → Rg → Ar → Prop} {k4 : Rg → Ar → Int32 → Int32 → Int32 → Prop} (hk4 : ∀ {σ : Rg} {μ : Ar} {v1 : Int32} {v2 : Int32} {v3 : Int32} {H : Heap} {locs : List Loc} {ls : Array Slot}, k4 σ μ v1 v2 v3 → va_P D vwCl (wS Ad cy σ μ) H → va_S (AS 18 Ad) s.heap H locs → lv_has ls 4 [(0, .ref (Ad 1)), (1, .int v1), (2, .int v2), (3, .int v3)] → W p l e rmX1_leastErased s m args below meth c H locs 0 0 (MQ below (Qcg (PWi (wS Ad cy) D Q) (AS 18 Ad)) args s 0 0 (AS 18 Ad)) (F0 m 4 ls [])) {σ : Rg} {μ : Ar} {v1 : Int32} {v3 : Int32} {H : Heap} {locs : List Loc} {ls : Array Slot} (h : wb_X1_leastErased_35 Q k4 σ μ v1 v3) (hP : va_P D vwCl (wS Ad cy σ μ) H) (hS : va_S (AS 18 Ad) s.heap H locs) (hl : lv_has ls 4 [(0, .ref (Ad 1)), (1, .int v1), (3, .int v3)]) : W p l e rmX1_leastErased s m args below meth c H locs 0 0 (MQ below (Qcg (PWi (wS Ad cy) D Q) (AS 18 Ad)) args s 0 0 (AS 18 Ad)) (F0 m 35 ls []) := by
  have hx := C.1
  have hb := C.2.1
  refine lv_iload_n hx hb dX1_leastErased_35 rfl (lv_at hl 2 rfl) ?_
  refine lv_istore_n (lv' := [(2, .int v3), (0, .ref (Ad 1)), (1, .int v1), (3, .int v3)]) hx hb dX1_leastErased_36 rfl hl (by decide) rfl (fun ls hl => ?_)
  exact wk_X1_leastErased_37 C hap hk4 h hP hS (lv_sub hl [1, 2, 0, 3] rfl)
def wb_X1_leastErased_4 (Q : Int32 → Rg → Ar → Prop) (k4 : Rg → Ar → Int32 → Int32 → Int32 → Prop) (σ : Rg) (μ : Ar) (v1 : Int32) (v2 : Int32) (v3 : Int32) : Prop := (((σ 3) ≤ v3 → Q v2 σ μ) ∧ (¬ (σ 3) ≤ v3 → ((v3 = v1 → wb_X1_leastErased_37 Q k4 σ μ v1 v2 v3) ∧ (¬ v3 = v1 → ((v2 = (-1 : Int32) → wb_X1_leastErased_35 Q k4 σ μ v1 v3) ∧ (¬ v2 = (-1 : Int32) → wp_X1_erasesOf σ μ v3 (fun r24 σ24 μ24 => wp_X1_erasesOf σ24 μ24 v2 (fun r29 σ29 μ29 => ((r29 ≤ r24 → wb_X1_leastErased_37 Q k4 σ29 μ29 v1 v2 v3) ∧ (¬ r29 ≤ r24 → wb_X1_leastErased_35 Q k4 σ29 μ29 v1 v3))))))))))
set_option maxHeartbeats 4000000 in
set_option maxRecDepth 100000 in
theorem wk_X1_leastErased_4 {p : Program} {l : Launch} {e : Env} {s : State} {m : MethodId} {args : Array Value} {below : List Frame} {meth : Method} {c : Code} {D : va_G} {cy : ClassId} {Ad : Nat → Nat} (C : Cx p s m args meth c RX1 cX1_leastErased 4 (some FieldType.int) D [(cy, .int)]) (hap : apt 18 Ad) {Q : Int32 → Rg → Ar → Prop} {k4 : Rg → Ar → Int32 → Int32 → Int32 → Prop} (hk4 : ∀ {σ : Rg} {μ : Ar} {v1 : Int32} {v2 : Int32} {v3 : Int32} {H : Heap} {locs : List Loc} {ls : Array Slot}, k4 σ μ v1 v2 v3 → va_P D vwCl (wS Ad cy σ μ) H → va_S (AS 18 Ad) s.heap H locs → lv_has ls 4 [(0, .ref (Ad 1)), (1, .int v1), (2, .int v2), (3, .int v3)] → W p l e rmX1_leastErased s m args below meth c H locs 0 0 (MQ below (Qcg (PWi (wS Ad cy) D Q) (AS 18 Ad)) args s 0 0 (AS 18 Ad)) (F0 m 4 ls [])) {σ : Rg} {μ : Ar} {v1 : Int32} {v2 : Int32} {v3 : Int32} {H : Heap} {locs : List Loc} {ls : Array Slot} (h : wb_X1_leastErased_4 Q k4 σ μ v1 v2 v3) (hP : va_P D vwCl (wS Ad cy σ μ) H) (hS : va_S (AS 18 Ad) s.heap H locs) (hl : lv_has ls 4 [(0, .ref (Ad 1)), (1, .int v1), (2, .int v2), (3, .int v3)]) : W p l e rmX1_leastErased s m args below meth c H locs 0 0 (MQ below (Qcg (PWi (wS Ad cy) D Q) (AS 18 Ad)) args s 0 0 (AS 18 Ad)) (F0 m 4 ls []) := by
  have hx := C.1
  have hb := C.2.1
  refine lv_iload_n hx hb dX1_leastErased_4 rfl (lv_at hl 3 rfl) ?_
  refine lv_aload_n hx hb dX1_leastErased_5 rfl (lv_at hl 0 rfl) ?_
  refine gS_chip_sectors C hP (C.2.2.2.2.2.2.1 _ wq_171) dX1_leastErased_6 ?_
  refine lv_icmp_ge (tgt := 43) hx hb dX1_leastErased_9 (by decide) (fun hc => ?_) (fun hc => ?_)
  · have h := h.1 hc
    refine lv_iload_n hx hb dX1_leastErased_43 rfl (lv_at hl 2 rfl) ?_
    exact endI C hS ⟨_, _, _, rfl, h, hP⟩ dX1_leastErased_44
  · have h := h.2 hc
    refine lv_iload_n hx hb dX1_leastErased_12 rfl (lv_at hl 3 rfl) ?_
    refine lv_iload_n hx hb dX1_leastErased_13 rfl (lv_at hl 1 rfl) ?_
    refine lv_icmp_eq (tgt := 37) hx hb dX1_leastErased_14 (by decide) (fun hc => ?_) (fun hc => ?_)
    · have h := h.1 hc
      exact wk_X1_leastErased_37 C hap hk4 h hP hS (lv_sub hl [0, 1, 2, 3] rfl)
    · have h := h.2 hc
      refine lv_iload_n hx hb dX1_leastErased_17 rfl (lv_at hl 2 rfl) ?_
      refine lv_iconst (v := -1) hx hb dX1_leastErased_18 (by decide) ?_
      refine lv_icmp_eq (tgt := 35) hx hb dX1_leastErased_19 (by decide) (fun hc => ?_) (fun hc => ?_)
      · have h := h.1 hc
        exact wk_X1_leastErased_35 C hap hk4 h hP hS (lv_sub hl [0, 1, 3] rfl)
      · have h := h.2 hc
        refine lv_aload_n hx hb dX1_leastErased_22 rfl (lv_at hl 0 rfl) ?_
        refine lv_iload_n hx hb dX1_leastErased_23 rfl (lv_at hl 3 rfl) ?_
        refine kWi (rnV C (ct_X1_erasesOf l D cy Ad hap h) yv_X1_erasesOf wq_425 ⟨rfl, rfl⟩ ⟨Nat.le_of_ble_eq_true rfl, Nat.le_of_ble_eq_true rfl⟩ ⟨Nat.zero_le _, Nat.zero_le _⟩ (vS_chip C hP) hP hl.1 rfl rfl (Nat.le_of_ble_eq_true rfl) dX1_leastErased_24) hS (fun _ h => h) (fun r24 σ24 μ24 H locs h hP hk hS => ?_)
        refine lv_aload_n hx hb dX1_leastErased_27 rfl (lv_at hl 0 rfl) ?_
        refine lv_iload_n hx hb dX1_leastErased_28 rfl (lv_at hl 2 rfl) ?_
        refine kWi (rnV C (ct_X1_erasesOf l D cy Ad hap h) yv_X1_erasesOf wq_425 ⟨rfl, rfl⟩ ⟨Nat.le_of_ble_eq_true rfl, Nat.le_of_ble_eq_true rfl⟩ ⟨Nat.zero_le _, Nat.zero_le _⟩ (vS_chip C hP) hP hl.1 rfl rfl (Nat.le_of_ble_eq_true rfl) dX1_leastErased_29) hS (fun _ h => h) (fun r29 σ29 μ29 H locs h hP hk hS => ?_)
        refine lv_icmp_ge (tgt := 37) hx hb dX1_leastErased_32 (by decide) (fun hc => ?_) (fun hc => ?_)
        · have h := h.1 hc
          exact wk_X1_leastErased_37 C hap hk4 h hP hS (lv_sub hl [0, 1, 2, 3] rfl)
        · have h := h.2 hc
          exact wk_X1_leastErased_35 C hap hk4 h hP hS (lv_sub hl [0, 1, 3] rfl)
def wl_X1_leastErased_4 (Q : Int32 → Rg → Ar → Prop) (n : Nat) : Rg → Ar → Int32 → Int32 → Int32 → Prop := Nat.rec (motive := fun _ => Rg → Ar → Int32 → Int32 → Int32 → Prop) (fun _ _ _ _ _ => False) (fun _ k => wb_X1_leastErased_4 Q k) n
set_option maxHeartbeats 4000000 in
theorem wkl_X1_leastErased_4 {p : Program} {l : Launch} {e : Env} {s : State} {m : MethodId} {args : Array Value} {below : List Frame} {meth : Method} {c : Code} {D : va_G} {cy : ClassId} {Ad : Nat → Nat} (C : Cx p s m args meth c RX1 cX1_leastErased 4 (some FieldType.int) D [(cy, .int)]) (hap : apt 18 Ad) {Q : Int32 → Rg → Ar → Prop}  : ∀ (n : Nat) {σ : Rg} {μ : Ar} {v1 : Int32} {v2 : Int32} {v3 : Int32} {H : Heap} {locs : List Loc} {ls : Array Slot} (h : wl_X1_leastErased_4 Q  n σ μ v1 v2 v3) (hP : va_P D vwCl (wS Ad cy σ μ) H) (hS : va_S (AS 18 Ad) s.heap H locs) (hl : lv_has ls 4 [(0, .ref (Ad 1)), (1, .int v1), (2, .int v2), (3, .int v3)]), W p l e rmX1_leastErased s m args below meth c H locs 0 0 (MQ below (Qcg (PWi (wS Ad cy) D Q) (AS 18 Ad)) args s 0 0 (AS 18 Ad)) (F0 m 4 ls []) := by
  intro n
  induction n with
  | zero => intro σ μ v1 v2 v3 H locs ls h; exact h.elim
  | succ n ih =>
    intro σ μ v1 v2 v3 H locs ls h hP hS hl
    exact wk_X1_leastErased_4 C hap (fun h hP hS hl => ih h hP hS hl) h hP hS hl
def wp_X1_leastErased (σ : Rg) (μ : Ar) (x1 : Int32) (Q : Int32 → Rg → Ar → Prop) : Prop := ∃ n, wl_X1_leastErased_4 Q n σ μ x1 (-1 : Int32) (0 : Int32)
set_option maxHeartbeats 4000000 in
set_option maxRecDepth 100000 in
theorem ct_X1_leastErased (l : Launch) (D : va_G) (cy : ClassId) (Ad : Nat → Nat) (hap : apt 18 Ad) {σ : Rg} {μ : Ar} {x1 : Int32} {Q : Int32 → Rg → Ar → Prop} (h : wp_X1_leastErased σ μ x1 Q) : Ct l yX1_leastErased cX1_leastErased 4 (some FieldType.int) rmX1_leastErased D [(cy, .int)] (fun H => va_P D vwCl (wS Ad cy σ μ) H) [.ref (Ad 1), .int x1] (AS 18 Ad) (PWi (wS Ad cy) D Q) := by
  refine Ct.of (by decide) (Nat.le_of_ble_eq_true rfl) ?_
  intro p e s m below meth c ls C hP hl
  have hl : lv_has ls 4 [(0, .ref (Ad 1)), (1, .int x1)] := hl
  have hS : va_S (AS 18 Ad) s.heap s.heap [] := va_S.rf
  have hx := C.1
  have hb := C.2.1
  refine lv_iconst (v := -1) hx hb dX1_leastErased_0 (by decide) ?_
  refine lv_istore_n (lv' := [(2, .int (-1 : Int32)), (0, .ref (Ad 1)), (1, .int x1)]) hx hb dX1_leastErased_1 rfl hl (by decide) rfl (fun ls hl => ?_)
  refine lv_iconst (v := 0) hx hb dX1_leastErased_2 (by decide) ?_
  refine lv_istore_n (lv' := [(3, .int (0 : Int32)), (2, .int (-1 : Int32)), (0, .ref (Ad 1)), (1, .int x1)]) hx hb dX1_leastErased_3 rfl hl (by decide) rfl (fun ls hl => ?_)
  obtain ⟨n, h⟩ := h
  exact wkl_X1_leastErased_4 C hap n h hP hS (lv_sub hl [2, 3, 1, 0] rfl)
abbrev rmX1_mostErases : Room := { frames := 1, cells := 0, slots := 0, locals := 14 }
def wb_X1_mostErases_4 (Q : Int32 → Rg → Ar → Prop) (k4 : Rg → Ar → Int32 → Int32 → Prop) (σ : Rg) (μ : Ar) (v1 : Int32) (v2 : Int32) : Prop := (((σ 3) ≤ v2 → Q v1 σ μ) ∧ (¬ (σ 3) ≤ v2 → (vp_in v2 6) ∧ (∀ y22 : Int32, y22 = (if v1 < (μ 1 (v2).toNatClampNeg) then (μ 1 (v2).toNatClampNeg) else v1) → (∀ y23 : Int32, y23 = v2 + (1 : Int32) → (k4 σ μ y22 y23)))))
set_option maxHeartbeats 4000000 in
set_option maxRecDepth 100000 in
theorem wk_X1_mostErases_4 {p : Program} {l : Launch} {e : Env} {s : State} {m : MethodId} {args : Array Value} {below : List Frame} {meth : Method} {c : Code} {D : va_G} {cy : ClassId} {Ad : Nat → Nat} (C : Cx p s m args meth c RX1 cX1_mostErases 3 (some FieldType.int) D [(cy, .int)]) (hap : apt 18 Ad) {Q : Int32 → Rg → Ar → Prop} {k4 : Rg → Ar → Int32 → Int32 → Prop} (hk4 : ∀ {σ : Rg} {μ : Ar} {v1 : Int32} {v2 : Int32} {H : Heap} {locs : List Loc} {ls : Array Slot}, k4 σ μ v1 v2 → va_P D vwCl (wS Ad cy σ μ) H → va_S (AS 18 Ad) s.heap H locs → lv_has ls 3 [(0, .ref (Ad 1)), (1, .int v1), (2, .int v2)] → W p l e rmX1_mostErases s m args below meth c H locs 0 0 (MQ below (Qcg (PWi (wS Ad cy) D Q) (AS 18 Ad)) args s 0 0 (AS 18 Ad)) (F0 m 4 ls [])) {σ : Rg} {μ : Ar} {v1 : Int32} {v2 : Int32} {H : Heap} {locs : List Loc} {ls : Array Slot} (h : wb_X1_mostErases_4 Q k4 σ μ v1 v2) (hP : va_P D vwCl (wS Ad cy σ μ) H) (hS : va_S (AS 18 Ad) s.heap H locs) (hl : lv_has ls 3 [(0, .ref (Ad 1)), (1, .int v1), (2, .int v2)]) : W p l e rmX1_mostErases s m args below meth c H locs 0 0 (MQ below (Qcg (PWi (wS Ad cy) D Q) (AS 18 Ad)) args s 0 0 (AS 18 Ad)) (F0 m 4 ls []) := by
  have hx := C.1
  have hb := C.2.1
  refine lv_iload_n hx hb dX1_mostErases_4 rfl (lv_at hl 2 rfl) ?_
  refine lv_aload_n hx hb dX1_mostErases_5 rfl (lv_at hl 0 rfl) ?_
  refine gS_chip_sectors C hP (C.2.2.2.2.2.2.1 _ wq_171) dX1_mostErases_6 ?_
  refine lv_icmp_ge (tgt := 29) hx hb dX1_mostErases_9 (by decide) (fun hc => ?_) (fun hc => ?_)
  · have h := h.1 hc
    refine lv_iload_n hx hb dX1_mostErases_29 rfl (lv_at hl 1 rfl) ?_
    exact endI C hS ⟨_, _, _, rfl, h, hP⟩ dX1_mostErases_30
  · have h := h.2 hc
    refine lv_iload_n hx hb dX1_mostErases_12 rfl (lv_at hl 1 rfl) ?_
    refine lv_aload_n hx hb dX1_mostErases_13 rfl (lv_at hl 0 rfl) ?_
    refine gS_chip_erases C hP (C.2.2.2.2.2.2.1 _ wq_169) dX1_mostErases_14 ?_
    refine lv_iload_n hx hb dX1_mostErases_17 rfl (lv_at hl 2 rfl) ?_
    obtain ⟨hc, h⟩ := h
    refine lS_1 C hP hc dX1_mostErases_18 ?_
    refine va_mmax hx hb (by rw [C.2.2.1]; exact hl.1.symm) C.2.2.2.1 (C.2.2.2.2.2.2.1 _ wq_808) (C.2.2.2.2.2.2.1 _ wq_809) (C.2.2.2.2.2.2.1 _ wq_146) (C.2.2.2.2.2.2.1 _ wq_810) (Nat.le_of_ble_eq_true rfl) (Nat.le_of_ble_eq_true rfl) (Nat.zero_le _) (Nat.zero_le _) dX1_mostErases_19 ?_
    refine lv_topi (fun y22 e22 => ?_)
    have h := h y22 e22
    refine lv_istore_n (lv' := [(1, .int y22), (0, .ref (Ad 1)), (2, .int v2)]) hx hb dX1_mostErases_22 rfl hl (by decide) rfl (fun ls hl => ?_)
    obtain ⟨y23, e23⟩ : ∃ y : Int32, y = v2 + (1 : Int32) := ⟨_, rfl⟩
    have h := h y23 e23
    refine lv_iinc (v := y23) (lv' := [(2, .int y23), (1, .int y22), (0, .ref (Ad 1))]) hx hb dX1_mostErases_23 hl (k := 2) rfl (by rw [e23]; rfl) (by decide) rfl (fun ls hl => ?_)
    refine lv_goto (tgt := 4) hx hb dX1_mostErases_26 (by decide) ?_
    exact hk4 h hP hS (lv_sub hl [2, 1, 0] rfl)
def wl_X1_mostErases_4 (Q : Int32 → Rg → Ar → Prop) (n : Nat) : Rg → Ar → Int32 → Int32 → Prop := Nat.rec (motive := fun _ => Rg → Ar → Int32 → Int32 → Prop) (fun _ _ _ _ => False) (fun _ k => wb_X1_mostErases_4 Q k) n
set_option maxHeartbeats 4000000 in
theorem wkl_X1_mostErases_4 {p : Program} {l : Launch} {e : Env} {s : State} {m : MethodId} {args : Array Value} {below : List Frame} {meth : Method} {c : Code} {D : va_G} {cy : ClassId} {Ad : Nat → Nat} (C : Cx p s m args meth c RX1 cX1_mostErases 3 (some FieldType.int) D [(cy, .int)]) (hap : apt 18 Ad) {Q : Int32 → Rg → Ar → Prop}  : ∀ (n : Nat) {σ : Rg} {μ : Ar} {v1 : Int32} {v2 : Int32} {H : Heap} {locs : List Loc} {ls : Array Slot} (h : wl_X1_mostErases_4 Q  n σ μ v1 v2) (hP : va_P D vwCl (wS Ad cy σ μ) H) (hS : va_S (AS 18 Ad) s.heap H locs) (hl : lv_has ls 3 [(0, .ref (Ad 1)), (1, .int v1), (2, .int v2)]), W p l e rmX1_mostErases s m args below meth c H locs 0 0 (MQ below (Qcg (PWi (wS Ad cy) D Q) (AS 18 Ad)) args s 0 0 (AS 18 Ad)) (F0 m 4 ls []) := by
  intro n
  induction n with
  | zero => intro σ μ v1 v2 H locs ls h; exact h.elim
  | succ n ih =>
    intro σ μ v1 v2 H locs ls h hP hS hl
    exact wk_X1_mostErases_4 C hap (fun h hP hS hl => ih h hP hS hl) h hP hS hl
def wp_X1_mostErases (σ : Rg) (μ : Ar) (Q : Int32 → Rg → Ar → Prop) : Prop := ∃ n, wl_X1_mostErases_4 Q n σ μ (0 : Int32) (0 : Int32)
set_option maxHeartbeats 4000000 in
set_option maxRecDepth 100000 in
theorem ct_X1_mostErases (l : Launch) (D : va_G) (cy : ClassId) (Ad : Nat → Nat) (hap : apt 18 Ad) {σ : Rg} {μ : Ar}  {Q : Int32 → Rg → Ar → Prop} (h : wp_X1_mostErases σ μ  Q) : Ct l yX1_mostErases cX1_mostErases 3 (some FieldType.int) rmX1_mostErases D [(cy, .int)] (fun H => va_P D vwCl (wS Ad cy σ μ) H) [.ref (Ad 1)] (AS 18 Ad) (PWi (wS Ad cy) D Q) := by
  refine Ct.of (by decide) (Nat.le_of_ble_eq_true rfl) ?_
  intro p e s m below meth c ls C hP hl
  have hl : lv_has ls 3 [(0, .ref (Ad 1))] := hl
  have hS : va_S (AS 18 Ad) s.heap s.heap [] := va_S.rf
  have hx := C.1
  have hb := C.2.1
  refine lv_iconst (v := 0) hx hb dX1_mostErases_0 (by decide) ?_
  refine lv_istore_n (lv' := [(1, .int (0 : Int32)), (0, .ref (Ad 1))]) hx hb dX1_mostErases_1 rfl hl (by decide) rfl (fun ls hl => ?_)
  refine lv_iconst (v := 0) hx hb dX1_mostErases_2 (by decide) ?_
  refine lv_istore_n (lv' := [(2, .int (0 : Int32)), (1, .int (0 : Int32)), (0, .ref (Ad 1))]) hx hb dX1_mostErases_3 rfl hl (by decide) rfl (fun ls hl => ?_)
  obtain ⟨n, h⟩ := h
  exact wkl_X1_mostErases_4 C hap n h hP hS (lv_sub hl [2, 1, 0] rfl)
abbrev rmX1_fewestErases : Room := { frames := 3, cells := 0, slots := 0, locals := 65 }
def wp_X1_fewestErases (σ : Rg) (μ : Ar) (Q : Int32 → Rg → Ar → Prop) : Prop := wp_X1_leastErased σ μ (-1 : Int32) (fun r3 σ3 μ3 => wp_X1_erasesOf σ3 μ3 r3 (fun r6 σ6 μ6 => Q r6 σ6 μ6))
set_option maxHeartbeats 4000000 in
set_option maxRecDepth 100000 in
theorem ct_X1_fewestErases (l : Launch) (D : va_G) (cy : ClassId) (Ad : Nat → Nat) (hap : apt 18 Ad) {σ : Rg} {μ : Ar}  {Q : Int32 → Rg → Ar → Prop} (h : wp_X1_fewestErases σ μ  Q) : Ct l yX1_fewestErases cX1_fewestErases 1 (some FieldType.int) rmX1_fewestErases D [(cy, .int)] (fun H => va_P D vwCl (wS Ad cy σ μ) H) [.ref (Ad 1)] (AS 18 Ad) (PWi (wS Ad cy) D Q) := by
  refine Ct.of (by decide) (Nat.le_of_ble_eq_true rfl) ?_
  intro p e s m below meth c ls C hP hl
  have hl : lv_has ls 1 [(0, .ref (Ad 1))] := hl
  have hS : va_S (AS 18 Ad) s.heap s.heap [] := va_S.rf
  have hx := C.1
  have hb := C.2.1
  refine lv_aload_n hx hb dX1_fewestErases_0 rfl (lv_at hl 0 rfl) ?_
  refine lv_aload_n hx hb dX1_fewestErases_1 rfl (lv_at hl 0 rfl) ?_
  refine lv_iconst (v := -1) hx hb dX1_fewestErases_2 (by decide) ?_
  refine kWi (rnV C (ct_X1_leastErased l D cy Ad hap h) yv_X1_leastErased wq_815 ⟨rfl, rfl⟩ ⟨Nat.le_of_ble_eq_true rfl, Nat.le_of_ble_eq_true rfl⟩ ⟨Nat.zero_le _, Nat.zero_le _⟩ (vS_chip C hP) hP hl.1 rfl rfl (Nat.le_of_ble_eq_true rfl) dX1_fewestErases_3) hS (fun _ h => h) (fun r3 σ3 μ3 H locs h hP hk hS => ?_)
  refine kWi (rnV C (ct_X1_erasesOf l D cy Ad hap h) yv_X1_erasesOf wq_425 ⟨rfl, rfl⟩ ⟨Nat.le_of_ble_eq_true rfl, Nat.le_of_ble_eq_true rfl⟩ ⟨Nat.zero_le _, Nat.zero_le _⟩ (vS_chip C hP) hP hl.1 rfl rfl (Nat.le_of_ble_eq_true rfl) dX1_fewestErases_6) hS (fun _ h => h) (fun r6 σ6 μ6 H locs h hP hk hS => ?_)
  exact endI C hS ⟨_, _, _, rfl, h, hP⟩ dX1_fewestErases_9
abbrev rmX1_allErases : Room := { frames := 0, cells := 0, slots := 0, locals := 0 }
def wb_X1_allErases_4 (Q : Int32 → Rg → Ar → Prop) (k4 : Rg → Ar → Int32 → Int32 → Prop) (σ : Rg) (μ : Ar) (v1 : Int32) (v2 : Int32) : Prop := (((σ 3) ≤ v2 → Q v1 σ μ) ∧ (¬ (σ 3) ≤ v2 → (vp_in v2 6) ∧ (∀ y20 : Int32, y20 = (v1 + (μ 1 (v2).toNatClampNeg)) → (∀ y21 : Int32, y21 = v2 + (1 : Int32) → (k4 σ μ y20 y21)))))
set_option maxHeartbeats 4000000 in
set_option maxRecDepth 100000 in
theorem wk_X1_allErases_4 {p : Program} {l : Launch} {e : Env} {s : State} {m : MethodId} {args : Array Value} {below : List Frame} {meth : Method} {c : Code} {D : va_G} {cy : ClassId} {Ad : Nat → Nat} (C : Cx p s m args meth c RX1 cX1_allErases 3 (some FieldType.int) D [(cy, .int)]) (hap : apt 18 Ad) {Q : Int32 → Rg → Ar → Prop} {k4 : Rg → Ar → Int32 → Int32 → Prop} (hk4 : ∀ {σ : Rg} {μ : Ar} {v1 : Int32} {v2 : Int32} {H : Heap} {locs : List Loc} {ls : Array Slot}, k4 σ μ v1 v2 → va_P D vwCl (wS Ad cy σ μ) H → va_S (AS 18 Ad) s.heap H locs → lv_has ls 3 [(0, .ref (Ad 1)), (1, .int v1), (2, .int v2)] → W p l e rmX1_allErases s m args below meth c H locs 0 0 (MQ below (Qcg (PWi (wS Ad cy) D Q) (AS 18 Ad)) args s 0 0 (AS 18 Ad)) (F0 m 4 ls [])) {σ : Rg} {μ : Ar} {v1 : Int32} {v2 : Int32} {H : Heap} {locs : List Loc} {ls : Array Slot} (h : wb_X1_allErases_4 Q k4 σ μ v1 v2) (hP : va_P D vwCl (wS Ad cy σ μ) H) (hS : va_S (AS 18 Ad) s.heap H locs) (hl : lv_has ls 3 [(0, .ref (Ad 1)), (1, .int v1), (2, .int v2)]) : W p l e rmX1_allErases s m args below meth c H locs 0 0 (MQ below (Qcg (PWi (wS Ad cy) D Q) (AS 18 Ad)) args s 0 0 (AS 18 Ad)) (F0 m 4 ls []) := by
  have hx := C.1
  have hb := C.2.1
  refine lv_iload_n hx hb dX1_allErases_4 rfl (lv_at hl 2 rfl) ?_
  refine lv_aload_n hx hb dX1_allErases_5 rfl (lv_at hl 0 rfl) ?_
  refine gS_chip_sectors C hP (C.2.2.2.2.2.2.1 _ wq_171) dX1_allErases_6 ?_
  refine lv_icmp_ge (tgt := 27) hx hb dX1_allErases_9 (by decide) (fun hc => ?_) (fun hc => ?_)
  · have h := h.1 hc
    refine lv_iload_n hx hb dX1_allErases_27 rfl (lv_at hl 1 rfl) ?_
    exact endI C hS ⟨_, _, _, rfl, h, hP⟩ dX1_allErases_28
  · have h := h.2 hc
    refine lv_iload_n hx hb dX1_allErases_12 rfl (lv_at hl 1 rfl) ?_
    refine lv_aload_n hx hb dX1_allErases_13 rfl (lv_at hl 0 rfl) ?_
    refine gS_chip_erases C hP (C.2.2.2.2.2.2.1 _ wq_169) dX1_allErases_14 ?_
    refine lv_iload_n hx hb dX1_allErases_17 rfl (lv_at hl 2 rfl) ?_
    obtain ⟨hc, h⟩ := h
    refine lS_1 C hP hc dX1_allErases_18 ?_
    refine lv_iadd hx hb dX1_allErases_19 ?_
    refine lv_topi (fun y20 e20 => ?_)
    have h := h y20 e20
    refine lv_istore_n (lv' := [(1, .int y20), (0, .ref (Ad 1)), (2, .int v2)]) hx hb dX1_allErases_20 rfl hl (by decide) rfl (fun ls hl => ?_)
    obtain ⟨y21, e21⟩ : ∃ y : Int32, y = v2 + (1 : Int32) := ⟨_, rfl⟩
    have h := h y21 e21
    refine lv_iinc (v := y21) (lv' := [(2, .int y21), (1, .int y20), (0, .ref (Ad 1))]) hx hb dX1_allErases_21 hl (k := 2) rfl (by rw [e21]; rfl) (by decide) rfl (fun ls hl => ?_)
    refine lv_goto (tgt := 4) hx hb dX1_allErases_24 (by decide) ?_
    exact hk4 h hP hS (lv_sub hl [2, 1, 0] rfl)
def wl_X1_allErases_4 (Q : Int32 → Rg → Ar → Prop) (n : Nat) : Rg → Ar → Int32 → Int32 → Prop := Nat.rec (motive := fun _ => Rg → Ar → Int32 → Int32 → Prop) (fun _ _ _ _ => False) (fun _ k => wb_X1_allErases_4 Q k) n
set_option maxHeartbeats 4000000 in
theorem wkl_X1_allErases_4 {p : Program} {l : Launch} {e : Env} {s : State} {m : MethodId} {args : Array Value} {below : List Frame} {meth : Method} {c : Code} {D : va_G} {cy : ClassId} {Ad : Nat → Nat} (C : Cx p s m args meth c RX1 cX1_allErases 3 (some FieldType.int) D [(cy, .int)]) (hap : apt 18 Ad) {Q : Int32 → Rg → Ar → Prop}  : ∀ (n : Nat) {σ : Rg} {μ : Ar} {v1 : Int32} {v2 : Int32} {H : Heap} {locs : List Loc} {ls : Array Slot} (h : wl_X1_allErases_4 Q  n σ μ v1 v2) (hP : va_P D vwCl (wS Ad cy σ μ) H) (hS : va_S (AS 18 Ad) s.heap H locs) (hl : lv_has ls 3 [(0, .ref (Ad 1)), (1, .int v1), (2, .int v2)]), W p l e rmX1_allErases s m args below meth c H locs 0 0 (MQ below (Qcg (PWi (wS Ad cy) D Q) (AS 18 Ad)) args s 0 0 (AS 18 Ad)) (F0 m 4 ls []) := by
  intro n
  induction n with
  | zero => intro σ μ v1 v2 H locs ls h; exact h.elim
  | succ n ih =>
    intro σ μ v1 v2 H locs ls h hP hS hl
    exact wk_X1_allErases_4 C hap (fun h hP hS hl => ih h hP hS hl) h hP hS hl
def wp_X1_allErases (σ : Rg) (μ : Ar) (Q : Int32 → Rg → Ar → Prop) : Prop := ∃ n, wl_X1_allErases_4 Q n σ μ (0 : Int32) (0 : Int32)
set_option maxHeartbeats 4000000 in
set_option maxRecDepth 100000 in
theorem ct_X1_allErases (l : Launch) (D : va_G) (cy : ClassId) (Ad : Nat → Nat) (hap : apt 18 Ad) {σ : Rg} {μ : Ar}  {Q : Int32 → Rg → Ar → Prop} (h : wp_X1_allErases σ μ  Q) : Ct l yX1_allErases cX1_allErases 3 (some FieldType.int) rmX1_allErases D [(cy, .int)] (fun H => va_P D vwCl (wS Ad cy σ μ) H) [.ref (Ad 1)] (AS 18 Ad) (PWi (wS Ad cy) D Q) := by
  refine Ct.of (by decide) (Nat.le_of_ble_eq_true rfl) ?_
  intro p e s m below meth c ls C hP hl
  have hl : lv_has ls 3 [(0, .ref (Ad 1))] := hl
  have hS : va_S (AS 18 Ad) s.heap s.heap [] := va_S.rf
  have hx := C.1
  have hb := C.2.1
  refine lv_iconst (v := 0) hx hb dX1_allErases_0 (by decide) ?_
  refine lv_istore_n (lv' := [(1, .int (0 : Int32)), (0, .ref (Ad 1))]) hx hb dX1_allErases_1 rfl hl (by decide) rfl (fun ls hl => ?_)
  refine lv_iconst (v := 0) hx hb dX1_allErases_2 (by decide) ?_
  refine lv_istore_n (lv' := [(2, .int (0 : Int32)), (1, .int (0 : Int32)), (0, .ref (Ad 1))]) hx hb dX1_allErases_3 rfl hl (by decide) rfl (fun ls hl => ?_)
  obtain ⟨n, h⟩ := h
  exact wkl_X1_allErases_4 C hap n h hP hS (lv_sub hl [2, 1, 0] rfl)
abbrev rmX2_put : Room := { frames := 0, cells := 0, slots := 0, locals := 0 }
def wb_X2_put_42 (Q : Rg → Ar → Prop) (σ : Rg) (μ : Ar) : Prop := Q σ μ
set_option maxHeartbeats 4000000 in
set_option maxRecDepth 100000 in
theorem wk_X2_put_42 {p : Program} {l : Launch} {e : Env} {s : State} {m : MethodId} {args : Array Value} {below : List Frame} {meth : Method} {c : Code} {D : va_G} {cy : ClassId} {Ad : Nat → Nat} (C : Cx p s m args meth c RX2 cX2_put 2 (none : Option FieldType) D [(cy, .int)]) (hap : apt 18 Ad) {Q : Rg → Ar → Prop} {σ : Rg} {μ : Ar}  {H : Heap} {locs : List Loc} {ls : Array Slot} (h : wb_X2_put_42 Q σ μ) (hP : va_P D vwCl (wS Ad cy σ μ) H) (hS : va_S (AS 18 Ad) s.heap H locs) (hl : lv_has ls 2 []) : W p l e rmX2_put s m args below meth c H locs 0 0 (MQ below (Qcg (PWv (wS Ad cy) D Q) (AS 18 Ad)) args s 0 0 (AS 18 Ad)) (F0 m 42 ls []) := by
  have hx := C.1
  have hb := C.2.1
  exact endV C hS ⟨_, _, rfl, h, hP⟩ dX2_put_42
def wp_X2_put (σ : Rg) (μ : Ar) (x1 : Int32) (Q : Rg → Ar → Prop) : Prop := (((7 : Int32) ≤ (σ 17) → wb_X2_put_42 Q σ μ) ∧ (¬ (7 : Int32) ≤ (σ 17) → (vp_in (σ 17) 7) ∧ (∀ μ21 : Ar, μ21 = updA μ 12 (upd (μ 12) ((σ 17)).toNatClampNeg x1) → (∀ σ29 : Rg, σ29 = upd σ 17 ((σ 17) + (1 : Int32)) → (∀ σ39 : Rg, σ39 = upd σ29 18 ((σ29 18) + x1) → (wb_X2_put_42 Q σ39 μ21))))))
set_option maxHeartbeats 4000000 in
set_option maxRecDepth 100000 in
theorem ct_X2_put (l : Launch) (D : va_G) (cy : ClassId) (Ad : Nat → Nat) (hap : apt 18 Ad) {σ : Rg} {μ : Ar} {x1 : Int32} {Q : Rg → Ar → Prop} (h : wp_X2_put σ μ x1 Q) : Ct l yX2_put cX2_put 2 (none : Option FieldType) rmX2_put D [(cy, .int)] (fun H => va_P D vwCl (wS Ad cy σ μ) H) [.ref (Ad 16), .int x1] (AS 18 Ad) (PWv (wS Ad cy) D Q) := by
  refine Ct.of (by decide) (Nat.le_of_ble_eq_true rfl) ?_
  intro p e s m below meth c ls C hP hl
  have hl : lv_has ls 2 [(0, .ref (Ad 16)), (1, .int x1)] := hl
  have hS : va_S (AS 18 Ad) s.heap s.heap [] := va_S.rf
  have hx := C.1
  have hb := C.2.1
  refine lv_aload_n hx hb dX2_put_0 rfl (lv_at hl 0 rfl) ?_
  refine gS_draft_used C hP (C.2.2.2.2.2.2.1 _ wq_291) dX2_put_1 ?_
  refine lv_aload_n hx hb dX2_put_4 rfl (lv_at hl 0 rfl) ?_
  refine gS_draft_row C hP (C.2.2.2.2.2.2.1 _ wq_289) dX2_put_5 ?_
  refine nS_12 C hP dX2_put_8 ?_
  refine lv_icmp_ge (tgt := 42) hx hb dX2_put_9 (by decide) (fun hc => ?_) (fun hc => ?_)
  · have h := h.1 hc
    exact wk_X2_put_42 C hap h hP hS (lv_sub hl [] rfl)
  · have h := h.2 hc
    refine lv_aload_n hx hb dX2_put_12 rfl (lv_at hl 0 rfl) ?_
    refine gS_draft_row C hP (C.2.2.2.2.2.2.1 _ wq_289) dX2_put_13 ?_
    refine lv_aload_n hx hb dX2_put_16 rfl (lv_at hl 0 rfl) ?_
    refine gS_draft_used C hP (C.2.2.2.2.2.2.1 _ wq_291) dX2_put_17 ?_
    refine lv_iload_n hx hb dX2_put_20 rfl (lv_at hl 1 rfl) ?_
    obtain ⟨hc, h⟩ := h
    refine sS_12 C hap (fun _ h => h) hP hS hc dX2_put_21 (fun H locs hP hS => ?_)
    obtain ⟨μ21, e21⟩ : ∃ z : Ar, z = updA μ 12 (upd (μ 12) ((σ 17)).toNatClampNeg x1) := ⟨_, rfl⟩
    have hP : va_P D vwCl (wS Ad cy σ μ21) H := by rw [e21]; exact hP
    have h := h μ21 e21
    refine lv_aload_n hx hb dX2_put_22 rfl (lv_at hl 0 rfl) ?_
    refine lv_dup hx hb dX2_put_23 rfl ?_
    refine gS_draft_used C hP (C.2.2.2.2.2.2.1 _ wq_291) dX2_put_24 ?_
    refine lv_iconst (v := 1) hx hb dX2_put_27 (by decide) ?_
    refine lv_iadd hx hb dX2_put_28 ?_
    refine pS_draft_used C hap (fun _ h => h) hP hS (C.2.2.2.2.2.2.1 _ wq_291) dX2_put_29 (fun H locs hP hS => ?_)
    obtain ⟨σ29, e29⟩ : ∃ z : Rg, z = upd σ 17 ((σ 17) + (1 : Int32)) := ⟨_, rfl⟩
    have hP : va_P D vwCl (wS Ad cy σ29 μ21) H := by rw [e29]; exact hP
    have h := h σ29 e29
    refine lv_aload_n hx hb dX2_put_32 rfl (lv_at hl 0 rfl) ?_
    refine lv_dup hx hb dX2_put_33 rfl ?_
    refine gS_draft_sum C hP (C.2.2.2.2.2.2.1 _ wq_294) dX2_put_34 ?_
    refine lv_iload_n hx hb dX2_put_37 rfl (lv_at hl 1 rfl) ?_
    refine lv_iadd hx hb dX2_put_38 ?_
    refine pS_draft_sum C hap (fun _ h => h) hP hS (C.2.2.2.2.2.2.1 _ wq_294) dX2_put_39 (fun H locs hP hS => ?_)
    obtain ⟨σ39, e39⟩ : ∃ z : Rg, z = upd σ29 18 ((σ29 18) + x1) := ⟨_, rfl⟩
    have hP : va_P D vwCl (wS Ad cy σ39 μ21) H := by rw [e39]; exact hP
    have h := h σ39 e39
    exact wk_X2_put_42 C hap h hP hS (lv_sub hl [] rfl)
abbrev rmX2_start : Room := { frames := 1, cells := 0, slots := 0, locals := 21 }
def wp_X2_start (σ : Rg) (μ : Ar) (x1 : Int32) (x2 : Int32) (Q : Rg → Ar → Prop) : Prop := ∀ σ2 : Rg, σ2 = upd σ 17 (0 : Int32) → (∀ σ7 : Rg, σ7 = upd σ2 18 (0 : Int32) → (wp_X2_put σ7 μ x1 (fun σ12 μ12 => wp_X2_put σ12 μ12 x2 (fun σ17 μ17 => Q σ17 μ17))))
set_option maxHeartbeats 4000000 in
set_option maxRecDepth 100000 in
theorem ct_X2_start (l : Launch) (D : va_G) (cy : ClassId) (Ad : Nat → Nat) (hap : apt 18 Ad) {σ : Rg} {μ : Ar} {x1 : Int32} {x2 : Int32} {Q : Rg → Ar → Prop} (h : wp_X2_start σ μ x1 x2 Q) : Ct l yX2_start cX2_start 3 (none : Option FieldType) rmX2_start D [(cy, .int)] (fun H => va_P D vwCl (wS Ad cy σ μ) H) [.ref (Ad 16), .int x1, .int x2] (AS 18 Ad) (PWv (wS Ad cy) D Q) := by
  refine Ct.of (by decide) (Nat.le_of_ble_eq_true rfl) ?_
  intro p e s m below meth c ls C hP hl
  have hl : lv_has ls 3 [(0, .ref (Ad 16)), (1, .int x1), (2, .int x2)] := hl
  have hS : va_S (AS 18 Ad) s.heap s.heap [] := va_S.rf
  have hx := C.1
  have hb := C.2.1
  refine lv_aload_n hx hb dX2_start_0 rfl (lv_at hl 0 rfl) ?_
  refine lv_iconst (v := 0) hx hb dX2_start_1 (by decide) ?_
  refine pS_draft_used C hap (fun _ h => h) hP hS (C.2.2.2.2.2.2.1 _ wq_291) dX2_start_2 (fun H locs hP hS => ?_)
  obtain ⟨σ2, e2⟩ : ∃ z : Rg, z = upd σ 17 (0 : Int32) := ⟨_, rfl⟩
  have hP : va_P D vwCl (wS Ad cy σ2 μ) H := by rw [e2]; exact hP
  have h := h σ2 e2
  refine lv_aload_n hx hb dX2_start_5 rfl (lv_at hl 0 rfl) ?_
  refine lv_iconst (v := 0) hx hb dX2_start_6 (by decide) ?_
  refine pS_draft_sum C hap (fun _ h => h) hP hS (C.2.2.2.2.2.2.1 _ wq_294) dX2_start_7 (fun H locs hP hS => ?_)
  obtain ⟨σ7, e7⟩ : ∃ z : Rg, z = upd σ2 18 (0 : Int32) := ⟨_, rfl⟩
  have hP : va_P D vwCl (wS Ad cy σ7 μ) H := by rw [e7]; exact hP
  have h := h σ7 e7
  refine lv_aload_n hx hb dX2_start_10 rfl (lv_at hl 0 rfl) ?_
  refine lv_iload_n hx hb dX2_start_11 rfl (lv_at hl 1 rfl) ?_
  refine kWv (rnV C (ct_X2_put l D cy Ad hap h) yv_X2_put wq_612 ⟨rfl, rfl⟩ ⟨Nat.le_of_ble_eq_true rfl, Nat.le_of_ble_eq_true rfl⟩ ⟨Nat.zero_le _, Nat.zero_le _⟩ (vS_draft C hP) hP hl.1 rfl rfl (Nat.le_of_ble_eq_true rfl) dX2_start_12) hS (fun _ h => h) (fun σ12 μ12 H locs h hP hk hS => ?_)
  refine lv_aload_n hx hb dX2_start_15 rfl (lv_at hl 0 rfl) ?_
  refine lv_iload_n hx hb dX2_start_16 rfl (lv_at hl 2 rfl) ?_
  refine kWv (rnV C (ct_X2_put l D cy Ad hap h) yv_X2_put wq_612 ⟨rfl, rfl⟩ ⟨Nat.le_of_ble_eq_true rfl, Nat.le_of_ble_eq_true rfl⟩ ⟨Nat.zero_le _, Nat.zero_le _⟩ (vS_draft C hP) hP hl.1 rfl rfl (Nat.le_of_ble_eq_true rfl) dX2_start_17) hS (fun _ h => h) (fun σ17 μ17 H locs h hP hk hS => ?_)
  exact endV C hS ⟨_, _, rfl, h, hP⟩ dX2_start_20
abbrev rmX2_putBytes : Room := { frames := 1, cells := 0, slots := 0, locals := 21 }
def wb_X2_putBytes_4 (Q : Rg → Ar → Prop) (k4 : Rg → Ar → Int32 → Int32 → Prop) (σ : Rg) (μ : Ar) (v1 : Int32) (v3 : Int32) : Prop := ((v3 < 0 → Q σ μ) ∧ (¬ v3 < 0 → wp_X2_put σ μ ((v1 >>> (((8 : Int32) * v3) &&& 31)) &&& (255 : Int32)) (fun σ19 μ19 => ∀ y22 : Int32, y22 = v3 + (-1 : Int32) → (k4 σ19 μ19 v1 y22))))
set_option maxHeartbeats 4000000 in
set_option maxRecDepth 100000 in
theorem wk_X2_putBytes_4 {p : Program} {l : Launch} {e : Env} {s : State} {m : MethodId} {args : Array Value} {below : List Frame} {meth : Method} {c : Code} {D : va_G} {cy : ClassId} {Ad : Nat → Nat} (C : Cx p s m args meth c RX2 cX2_putBytes 4 (none : Option FieldType) D [(cy, .int)]) (hap : apt 18 Ad) {Q : Rg → Ar → Prop} {k4 : Rg → Ar → Int32 → Int32 → Prop} (hk4 : ∀ {σ : Rg} {μ : Ar} {v1 : Int32} {v3 : Int32} {H : Heap} {locs : List Loc} {ls : Array Slot}, k4 σ μ v1 v3 → va_P D vwCl (wS Ad cy σ μ) H → va_S (AS 18 Ad) s.heap H locs → lv_has ls 4 [(0, .ref (Ad 16)), (1, .int v1), (3, .int v3)] → W p l e rmX2_putBytes s m args below meth c H locs 0 0 (MQ below (Qcg (PWv (wS Ad cy) D Q) (AS 18 Ad)) args s 0 0 (AS 18 Ad)) (F0 m 4 ls [])) {σ : Rg} {μ : Ar} {v1 : Int32} {v3 : Int32} {H : Heap} {locs : List Loc} {ls : Array Slot} (h : wb_X2_putBytes_4 Q k4 σ μ v1 v3) (hP : va_P D vwCl (wS Ad cy σ μ) H) (hS : va_S (AS 18 Ad) s.heap H locs) (hl : lv_has ls 4 [(0, .ref (Ad 16)), (1, .int v1), (3, .int v3)]) : W p l e rmX2_putBytes s m args below meth c H locs 0 0 (MQ below (Qcg (PWv (wS Ad cy) D Q) (AS 18 Ad)) args s 0 0 (AS 18 Ad)) (F0 m 4 ls []) := by
  have hx := C.1
  have hb := C.2.1
  refine lv_iload_n hx hb dX2_putBytes_4 rfl (lv_at hl 2 rfl) ?_
  refine lv_if_lt (tgt := 28) hx hb dX2_putBytes_5 (by decide) (fun hc => ?_) (fun hc => ?_)
  · have h := h.1 hc
    exact endV C hS ⟨_, _, rfl, h, hP⟩ dX2_putBytes_28
  · have h := h.2 hc
    refine lv_aload_n hx hb dX2_putBytes_8 rfl (lv_at hl 0 rfl) ?_
    refine lv_iload_n hx hb dX2_putBytes_9 rfl (lv_at hl 1 rfl) ?_
    refine lv_bipush (v := 8) hx hb dX2_putBytes_10 (by decide) ?_
    refine lv_iload_n hx hb dX2_putBytes_12 rfl (lv_at hl 2 rfl) ?_
    refine lv_imul hx hb dX2_putBytes_13 ?_
    refine lv_ishr hx hb dX2_putBytes_14 ?_
    refine lv_sipush (v := 255) hx hb dX2_putBytes_15 (by decide) ?_
    refine lv_iand hx hb dX2_putBytes_18 ?_
    refine kWv (rnV C (ct_X2_put l D cy Ad hap h) yv_X2_put wq_612 ⟨rfl, rfl⟩ ⟨Nat.le_of_ble_eq_true rfl, Nat.le_of_ble_eq_true rfl⟩ ⟨Nat.zero_le _, Nat.zero_le _⟩ (vS_draft C hP) hP hl.1 rfl rfl (Nat.le_of_ble_eq_true rfl) dX2_putBytes_19) hS (fun _ h => h) (fun σ19 μ19 H locs h hP hk hS => ?_)
    obtain ⟨y22, e22⟩ : ∃ y : Int32, y = v3 + (-1 : Int32) := ⟨_, rfl⟩
    have h := h y22 e22
    refine lv_iinc (v := y22) (lv' := [(3, .int y22), (0, .ref (Ad 16)), (1, .int v1)]) hx hb dX2_putBytes_22 hl (k := 2) rfl (by rw [e22]; rfl) (by decide) rfl (fun ls hl => ?_)
    refine lv_goto (tgt := 4) hx hb dX2_putBytes_25 (by decide) ?_
    exact hk4 h hP hS (lv_sub hl [1, 2, 0] rfl)
def wl_X2_putBytes_4 (Q : Rg → Ar → Prop) (n : Nat) : Rg → Ar → Int32 → Int32 → Prop := Nat.rec (motive := fun _ => Rg → Ar → Int32 → Int32 → Prop) (fun _ _ _ _ => False) (fun _ k => wb_X2_putBytes_4 Q k) n
set_option maxHeartbeats 4000000 in
theorem wkl_X2_putBytes_4 {p : Program} {l : Launch} {e : Env} {s : State} {m : MethodId} {args : Array Value} {below : List Frame} {meth : Method} {c : Code} {D : va_G} {cy : ClassId} {Ad : Nat → Nat} (C : Cx p s m args meth c RX2 cX2_putBytes 4 (none : Option FieldType) D [(cy, .int)]) (hap : apt 18 Ad) {Q : Rg → Ar → Prop}  : ∀ (n : Nat) {σ : Rg} {μ : Ar} {v1 : Int32} {v3 : Int32} {H : Heap} {locs : List Loc} {ls : Array Slot} (h : wl_X2_putBytes_4 Q  n σ μ v1 v3) (hP : va_P D vwCl (wS Ad cy σ μ) H) (hS : va_S (AS 18 Ad) s.heap H locs) (hl : lv_has ls 4 [(0, .ref (Ad 16)), (1, .int v1), (3, .int v3)]), W p l e rmX2_putBytes s m args below meth c H locs 0 0 (MQ below (Qcg (PWv (wS Ad cy) D Q) (AS 18 Ad)) args s 0 0 (AS 18 Ad)) (F0 m 4 ls []) := by
  intro n
  induction n with
  | zero => intro σ μ v1 v3 H locs ls h; exact h.elim
  | succ n ih =>
    intro σ μ v1 v3 H locs ls h hP hS hl
    exact wk_X2_putBytes_4 C hap (fun h hP hS hl => ih h hP hS hl) h hP hS hl
def wp_X2_putBytes (σ : Rg) (μ : Ar) (x1 : Int32) (x2 : Int32) (Q : Rg → Ar → Prop) : Prop := ∀ y3 : Int32, y3 = (x2 - (1 : Int32)) → (∃ n, wl_X2_putBytes_4 Q n σ μ x1 y3)
set_option maxHeartbeats 4000000 in
set_option maxRecDepth 100000 in
theorem ct_X2_putBytes (l : Launch) (D : va_G) (cy : ClassId) (Ad : Nat → Nat) (hap : apt 18 Ad) {σ : Rg} {μ : Ar} {x1 : Int32} {x2 : Int32} {Q : Rg → Ar → Prop} (h : wp_X2_putBytes σ μ x1 x2 Q) : Ct l yX2_putBytes cX2_putBytes 4 (none : Option FieldType) rmX2_putBytes D [(cy, .int)] (fun H => va_P D vwCl (wS Ad cy σ μ) H) [.ref (Ad 16), .int x1, .int x2] (AS 18 Ad) (PWv (wS Ad cy) D Q) := by
  refine Ct.of (by decide) (Nat.le_of_ble_eq_true rfl) ?_
  intro p e s m below meth c ls C hP hl
  have hl : lv_has ls 4 [(0, .ref (Ad 16)), (1, .int x1), (2, .int x2)] := hl
  have hS : va_S (AS 18 Ad) s.heap s.heap [] := va_S.rf
  have hx := C.1
  have hb := C.2.1
  refine lv_iload_n hx hb dX2_putBytes_0 rfl (lv_at hl 2 rfl) ?_
  refine lv_iconst (v := 1) hx hb dX2_putBytes_1 (by decide) ?_
  refine lv_isub hx hb dX2_putBytes_2 ?_
  refine lv_topi (fun y3 e3 => ?_)
  have h := h y3 e3
  refine lv_istore_n (lv' := [(3, .int y3), (0, .ref (Ad 16)), (1, .int x1), (2, .int x2)]) hx hb dX2_putBytes_3 rfl hl (by decide) rfl (fun ls hl => ?_)
  obtain ⟨n, h⟩ := h
  exact wkl_X2_putBytes_4 C hap n h hP hS (lv_sub hl [1, 2, 0] rfl)
abbrev rmX2_fillSetting : Room := { frames := 2, cells := 0, slots := 0, locals := 44 }
def wp_X2_fillSetting (σ : Rg) (μ : Ar) (x1 : Int32) (x2 : Int32) (x3 : Int32) (x4 : Int32) (Q : Rg → Ar → Prop) : Prop := wp_X2_start σ μ x1 (x2 + x4) (fun σ6 μ6 => wp_X2_putBytes σ6 μ6 x3 x4 (fun σ13 μ13 => wp_X5_checkOf (σ13 18) (fun r21 => wp_X2_put σ13 μ13 r21 (fun σ24 μ24 => Q σ24 μ24))))
set_option maxHeartbeats 4000000 in
set_option maxRecDepth 100000 in
theorem ct_X2_fillSetting (l : Launch) (D : va_G) (cy : ClassId) (Ad : Nat → Nat) (hap : apt 18 Ad) {σ : Rg} {μ : Ar} {x1 : Int32} {x2 : Int32} {x3 : Int32} {x4 : Int32} {Q : Rg → Ar → Prop} (h : wp_X2_fillSetting σ μ x1 x2 x3 x4 Q) : Ct l yX2_fillSetting cX2_fillSetting 5 (none : Option FieldType) rmX2_fillSetting D [(cy, .int)] (fun H => va_P D vwCl (wS Ad cy σ μ) H) [.ref (Ad 16), .int x1, .int x2, .int x3, .int x4] (AS 18 Ad) (PWv (wS Ad cy) D Q) := by
  refine Ct.of (by decide) (Nat.le_of_ble_eq_true rfl) ?_
  intro p e s m below meth c ls C hP hl
  have hl : lv_has ls 5 [(0, .ref (Ad 16)), (1, .int x1), (2, .int x2), (3, .int x3), (4, .int x4)] := hl
  have hS : va_S (AS 18 Ad) s.heap s.heap [] := va_S.rf
  have hx := C.1
  have hb := C.2.1
  refine lv_aload_n hx hb dX2_fillSetting_0 rfl (lv_at hl 0 rfl) ?_
  refine lv_iload_n hx hb dX2_fillSetting_1 rfl (lv_at hl 1 rfl) ?_
  refine lv_iload_n hx hb dX2_fillSetting_2 rfl (lv_at hl 2 rfl) ?_
  refine lv_iload hx hb dX2_fillSetting_3 (lv_at hl 4 rfl) ?_
  refine lv_iadd hx hb dX2_fillSetting_5 ?_
  refine kWv (rnV C (ct_X2_start l D cy Ad hap h) yv_X2_start wq_608 ⟨rfl, rfl⟩ ⟨Nat.le_of_ble_eq_true rfl, Nat.le_of_ble_eq_true rfl⟩ ⟨Nat.zero_le _, Nat.zero_le _⟩ (vS_draft C hP) hP hl.1 rfl rfl (Nat.le_of_ble_eq_true rfl) dX2_fillSetting_6) hS (fun _ h => h) (fun σ6 μ6 H locs h hP hk hS => ?_)
  refine lv_aload_n hx hb dX2_fillSetting_9 rfl (lv_at hl 0 rfl) ?_
  refine lv_iload_n hx hb dX2_fillSetting_10 rfl (lv_at hl 3 rfl) ?_
  refine lv_iload hx hb dX2_fillSetting_11 (lv_at hl 4 rfl) ?_
  refine kWv (rnV C (ct_X2_putBytes l D cy Ad hap h) yv_X2_putBytes wq_616 ⟨rfl, rfl⟩ ⟨Nat.le_of_ble_eq_true rfl, Nat.le_of_ble_eq_true rfl⟩ ⟨Nat.zero_le _, Nat.zero_le _⟩ (vS_draft C hP) hP hl.1 rfl rfl (Nat.le_of_ble_eq_true rfl) dX2_fillSetting_13) hS (fun _ h => h) (fun σ13 μ13 H locs h hP hk hS => ?_)
  refine lv_aload_n hx hb dX2_fillSetting_16 rfl (lv_at hl 0 rfl) ?_
  refine lv_aload_n hx hb dX2_fillSetting_17 rfl (lv_at hl 0 rfl) ?_
  refine gS_draft_sum C hP (C.2.2.2.2.2.2.1 _ wq_294) dX2_fillSetting_18 ?_
  refine kNi (rnSN (C.none) (ct_X5_checkOf l D h) ys_X5_checkOf wn_620 ⟨rfl, rfl⟩ ⟨Nat.le_of_ble_eq_true rfl, Nat.le_of_ble_eq_true rfl⟩ ⟨Nat.zero_le _, Nat.zero_le _⟩ trivial hl.1 rfl rfl (Nat.le_of_ble_eq_true rfl) dX2_fillSetting_21) hS (fun _ h => h.elim) (fun r21 H locs h hk hS => ?_)
  have hP := keepN hP hk
  refine kWv (rnV C (ct_X2_put l D cy Ad hap h) yv_X2_put wq_612 ⟨rfl, rfl⟩ ⟨Nat.le_of_ble_eq_true rfl, Nat.le_of_ble_eq_true rfl⟩ ⟨Nat.zero_le _, Nat.zero_le _⟩ (vS_draft C hP) hP hl.1 rfl rfl (Nat.le_of_ble_eq_true rfl) dX2_fillSetting_24) hS (fun _ h => h) (fun σ24 μ24 H locs h hP hk hS => ?_)
  exact endV C hS ⟨_, _, rfl, h, hP⟩ dX2_fillSetting_27
abbrev rmX2_fillCounter : Room := { frames := 2, cells := 0, slots := 0, locals := 44 }
def wp_X2_fillCounter (σ : Rg) (μ : Ar) (x1 : Int32) (x2 : Int32) (Q : Rg → Ar → Prop) : Prop := wp_X2_start σ μ x1 (43 : Int32) (fun σ4 μ4 => wp_X2_putBytes σ4 μ4 x2 (3 : Int32) (fun σ10 μ10 => wp_X5_checkOf (σ10 18) (fun r18 => wp_X2_put σ10 μ10 r18 (fun σ21 μ21 => Q σ21 μ21))))
set_option maxHeartbeats 4000000 in
set_option maxRecDepth 100000 in
theorem ct_X2_fillCounter (l : Launch) (D : va_G) (cy : ClassId) (Ad : Nat → Nat) (hap : apt 18 Ad) {σ : Rg} {μ : Ar} {x1 : Int32} {x2 : Int32} {Q : Rg → Ar → Prop} (h : wp_X2_fillCounter σ μ x1 x2 Q) : Ct l yX2_fillCounter cX2_fillCounter 3 (none : Option FieldType) rmX2_fillCounter D [(cy, .int)] (fun H => va_P D vwCl (wS Ad cy σ μ) H) [.ref (Ad 16), .int x1, .int x2] (AS 18 Ad) (PWv (wS Ad cy) D Q) := by
  refine Ct.of (by decide) (Nat.le_of_ble_eq_true rfl) ?_
  intro p e s m below meth c ls C hP hl
  have hl : lv_has ls 3 [(0, .ref (Ad 16)), (1, .int x1), (2, .int x2)] := hl
  have hS : va_S (AS 18 Ad) s.heap s.heap [] := va_S.rf
  have hx := C.1
  have hb := C.2.1
  refine lv_aload_n hx hb dX2_fillCounter_0 rfl (lv_at hl 0 rfl) ?_
  refine lv_iload_n hx hb dX2_fillCounter_1 rfl (lv_at hl 1 rfl) ?_
  refine lv_bipush (v := 43) hx hb dX2_fillCounter_2 (by decide) ?_
  refine kWv (rnV C (ct_X2_start l D cy Ad hap h) yv_X2_start wq_608 ⟨rfl, rfl⟩ ⟨Nat.le_of_ble_eq_true rfl, Nat.le_of_ble_eq_true rfl⟩ ⟨Nat.zero_le _, Nat.zero_le _⟩ (vS_draft C hP) hP hl.1 rfl rfl (Nat.le_of_ble_eq_true rfl) dX2_fillCounter_4) hS (fun _ h => h) (fun σ4 μ4 H locs h hP hk hS => ?_)
  refine lv_aload_n hx hb dX2_fillCounter_7 rfl (lv_at hl 0 rfl) ?_
  refine lv_iload_n hx hb dX2_fillCounter_8 rfl (lv_at hl 2 rfl) ?_
  refine lv_iconst (v := 3) hx hb dX2_fillCounter_9 (by decide) ?_
  refine kWv (rnV C (ct_X2_putBytes l D cy Ad hap h) yv_X2_putBytes wq_616 ⟨rfl, rfl⟩ ⟨Nat.le_of_ble_eq_true rfl, Nat.le_of_ble_eq_true rfl⟩ ⟨Nat.zero_le _, Nat.zero_le _⟩ (vS_draft C hP) hP hl.1 rfl rfl (Nat.le_of_ble_eq_true rfl) dX2_fillCounter_10) hS (fun _ h => h) (fun σ10 μ10 H locs h hP hk hS => ?_)
  refine lv_aload_n hx hb dX2_fillCounter_13 rfl (lv_at hl 0 rfl) ?_
  refine lv_aload_n hx hb dX2_fillCounter_14 rfl (lv_at hl 0 rfl) ?_
  refine gS_draft_sum C hP (C.2.2.2.2.2.2.1 _ wq_294) dX2_fillCounter_15 ?_
  refine kNi (rnSN (C.none) (ct_X5_checkOf l D h) ys_X5_checkOf wn_620 ⟨rfl, rfl⟩ ⟨Nat.le_of_ble_eq_true rfl, Nat.le_of_ble_eq_true rfl⟩ ⟨Nat.zero_le _, Nat.zero_le _⟩ trivial hl.1 rfl rfl (Nat.le_of_ble_eq_true rfl) dX2_fillCounter_18) hS (fun _ h => h.elim) (fun r18 H locs h hk hS => ?_)
  have hP := keepN hP hk
  refine kWv (rnV C (ct_X2_put l D cy Ad hap h) yv_X2_put wq_612 ⟨rfl, rfl⟩ ⟨Nat.le_of_ble_eq_true rfl, Nat.le_of_ble_eq_true rfl⟩ ⟨Nat.zero_le _, Nat.zero_le _⟩ (vS_draft C hP) hP hl.1 rfl rfl (Nat.le_of_ble_eq_true rfl) dX2_fillCounter_21) hS (fun _ h => h) (fun σ21 μ21 H locs h hP hk hS => ?_)
  exact endV C hS ⟨_, _, rfl, h, hP⟩ dX2_fillCounter_24
abbrev rmX2_fillCommit : Room := { frames := 2, cells := 0, slots := 0, locals := 43 }
def wp_X2_fillCommit (σ : Rg) (μ : Ar) (x1 : Int32) (Q : Rg → Ar → Prop) : Prop := wp_X2_start σ μ (63 : Int32) (65 : Int32) (fun σ5 μ5 => wp_X2_put σ5 μ5 x1 (fun σ10 μ10 => wp_X5_checkOf (σ10 18) (fun r18 => wp_X2_put σ10 μ10 r18 (fun σ21 μ21 => Q σ21 μ21))))
set_option maxHeartbeats 4000000 in
set_option maxRecDepth 100000 in
theorem ct_X2_fillCommit (l : Launch) (D : va_G) (cy : ClassId) (Ad : Nat → Nat) (hap : apt 18 Ad) {σ : Rg} {μ : Ar} {x1 : Int32} {Q : Rg → Ar → Prop} (h : wp_X2_fillCommit σ μ x1 Q) : Ct l yX2_fillCommit cX2_fillCommit 2 (none : Option FieldType) rmX2_fillCommit D [(cy, .int)] (fun H => va_P D vwCl (wS Ad cy σ μ) H) [.ref (Ad 16), .int x1] (AS 18 Ad) (PWv (wS Ad cy) D Q) := by
  refine Ct.of (by decide) (Nat.le_of_ble_eq_true rfl) ?_
  intro p e s m below meth c ls C hP hl
  have hl : lv_has ls 2 [(0, .ref (Ad 16)), (1, .int x1)] := hl
  have hS : va_S (AS 18 Ad) s.heap s.heap [] := va_S.rf
  have hx := C.1
  have hb := C.2.1
  refine lv_aload_n hx hb dX2_fillCommit_0 rfl (lv_at hl 0 rfl) ?_
  refine lv_bipush (v := 63) hx hb dX2_fillCommit_1 (by decide) ?_
  refine lv_bipush (v := 65) hx hb dX2_fillCommit_3 (by decide) ?_
  refine kWv (rnV C (ct_X2_start l D cy Ad hap h) yv_X2_start wq_608 ⟨rfl, rfl⟩ ⟨Nat.le_of_ble_eq_true rfl, Nat.le_of_ble_eq_true rfl⟩ ⟨Nat.zero_le _, Nat.zero_le _⟩ (vS_draft C hP) hP hl.1 rfl rfl (Nat.le_of_ble_eq_true rfl) dX2_fillCommit_5) hS (fun _ h => h) (fun σ5 μ5 H locs h hP hk hS => ?_)
  refine lv_aload_n hx hb dX2_fillCommit_8 rfl (lv_at hl 0 rfl) ?_
  refine lv_iload_n hx hb dX2_fillCommit_9 rfl (lv_at hl 1 rfl) ?_
  refine kWv (rnV C (ct_X2_put l D cy Ad hap h) yv_X2_put wq_612 ⟨rfl, rfl⟩ ⟨Nat.le_of_ble_eq_true rfl, Nat.le_of_ble_eq_true rfl⟩ ⟨Nat.zero_le _, Nat.zero_le _⟩ (vS_draft C hP) hP hl.1 rfl rfl (Nat.le_of_ble_eq_true rfl) dX2_fillCommit_10) hS (fun _ h => h) (fun σ10 μ10 H locs h hP hk hS => ?_)
  refine lv_aload_n hx hb dX2_fillCommit_13 rfl (lv_at hl 0 rfl) ?_
  refine lv_aload_n hx hb dX2_fillCommit_14 rfl (lv_at hl 0 rfl) ?_
  refine gS_draft_sum C hP (C.2.2.2.2.2.2.1 _ wq_294) dX2_fillCommit_15 ?_
  refine kNi (rnSN (C.none) (ct_X5_checkOf l D h) ys_X5_checkOf wn_620 ⟨rfl, rfl⟩ ⟨Nat.le_of_ble_eq_true rfl, Nat.le_of_ble_eq_true rfl⟩ ⟨Nat.zero_le _, Nat.zero_le _⟩ trivial hl.1 rfl rfl (Nat.le_of_ble_eq_true rfl) dX2_fillCommit_18) hS (fun _ h => h.elim) (fun r18 H locs h hk hS => ?_)
  have hP := keepN hP hk
  refine kWv (rnV C (ct_X2_put l D cy Ad hap h) yv_X2_put wq_612 ⟨rfl, rfl⟩ ⟨Nat.le_of_ble_eq_true rfl, Nat.le_of_ble_eq_true rfl⟩ ⟨Nat.zero_le _, Nat.zero_le _⟩ (vS_draft C hP) hP hl.1 rfl rfl (Nat.le_of_ble_eq_true rfl) dX2_fillCommit_21) hS (fun _ h => h) (fun σ21 μ21 H locs h hP hk hS => ?_)
  exact endV C hS ⟨_, _, rfl, h, hP⟩ dX2_fillCommit_24
