abbrev rmX6_isOn : Room := { frames := 0, cells := 0, slots := 0, locals := 0 }
def wb_X6_isOn_15 (Q : Int32 → Rg → Ar → Prop) (σ : Rg) (μ : Ar) (t0 : Int32) : Prop := (bz t0) ∧ (Q t0 σ μ)
set_option maxHeartbeats 4000000 in
set_option maxRecDepth 100000 in
theorem wk_X6_isOn_15 {p : Program} {l : Launch} {e : Env} {s : State} {m : MethodId} {args : Array Value} {below : List Frame} {meth : Method} {c : Code} {D : va_G} {cy : ClassId} {Ad : Nat → Nat} (C : Cx p s m args meth c RX6 cX6_isOn 1 (some FieldType.boolean) D [(cy, .int)]) (hap : apt 8 Ad) {Q : Int32 → Rg → Ar → Prop} {σ : Rg} {μ : Ar} {t0 : Int32} {H : Heap} {locs : List Loc} {ls : Array Slot} (h : wb_X6_isOn_15 Q σ μ t0) (hP : va_P D vwCl (wM Ad cy σ μ) H) (hS : va_S (AS 8 Ad) s.heap H locs) (hl : lv_has ls 1 []) : W p l e rmX6_isOn s m args below meth c H locs 0 0 (MQ below (Qcg (PWi (wM Ad cy) D Q) (AS 8 Ad)) args s 0 0 (AS 8 Ad)) (F0 m 15 ls [.int t0]) := by
  have hx := C.1
  have hb := C.2.1
  obtain ⟨hc, h⟩ := h
  exact endZ C hS hc ⟨_, _, _, rfl, h, hP⟩ dX6_isOn_15
def wp_X6_isOn (σ : Rg) (μ : Ar) (Q : Int32 → Rg → Ar → Prop) : Prop := ((¬ (μ 0 2) = (1 : Int32) → wb_X6_isOn_15 Q σ μ (0 : Int32)) ∧ ((μ 0 2) = (1 : Int32) → wb_X6_isOn_15 Q σ μ (1 : Int32)))
set_option maxHeartbeats 4000000 in
set_option maxRecDepth 100000 in
theorem ct_X6_isOn (l : Launch) (D : va_G) (cy : ClassId) (Ad : Nat → Nat) (hap : apt 8 Ad) {σ : Rg} {μ : Ar}  {Q : Int32 → Rg → Ar → Prop} (h : wp_X6_isOn σ μ  Q) : Ct l yX6_isOn cX6_isOn 1 (some FieldType.boolean) rmX6_isOn D [(cy, .int)] (fun H => va_P D vwCl (wM Ad cy σ μ) H) [.ref (Ad 0)] (AS 8 Ad) (PWi (wM Ad cy) D Q) := by
  refine Ct.of (by decide) (Nat.le_of_ble_eq_true rfl) ?_
  intro p e s m below meth c ls C hP hl
  have hl : lv_has ls 1 [(0, .ref (Ad 0))] := hl
  have hS : va_S (AS 8 Ad) s.heap s.heap [] := va_S.rf
  have hx := C.1
  have hb := C.2.1
  refine lv_aload_n hx hb dX6_isOn_0 rfl (lv_at hl 0 rfl) ?_
  refine gM_model_x C hP (C.2.2.2.2.2.2.1 _ wq_924) dX6_isOn_1 ?_
  refine lv_iconst (v := 2) hx hb dX6_isOn_4 (by decide) ?_
  refine lcM_0 C hP tc_2 vi_2_810 dX6_isOn_5 ?_
  refine lv_iconst (v := 1) hx hb dX6_isOn_6 (by decide) ?_
  refine lv_icmp_ne (tgt := 14) hx hb dX6_isOn_7 (by decide) (fun hc => ?_) (fun hc => ?_)
  · have h := h.1 hc
    refine lv_iconst (v := 0) hx hb dX6_isOn_14 (by decide) ?_
    exact wk_X6_isOn_15 C hap h hP hS (lv_sub hl [] rfl)
  · have h := h.2 hc
    refine lv_iconst (v := 1) hx hb dX6_isOn_10 (by decide) ?_
    refine lv_goto (tgt := 15) hx hb dX6_isOn_11 (by decide) ?_
    exact wk_X6_isOn_15 C hap h hP hS (lv_sub hl [] rfl)
abbrev rmX6_isSector : Room := { frames := 1, cells := 0, slots := 0, locals := 22 }
def wp_X6_isSector (σ : Rg) (μ : Ar) (x1 : Int32) (Q : Int32 → Rg → Ar → Prop) : Prop := wp_X6_within x1 (0 : Int32) ((μ 0 0) - (1 : Int32)) (fun r10 => (bz r10) ∧ (Q r10 σ μ))
set_option maxHeartbeats 4000000 in
set_option maxRecDepth 100000 in
theorem ct_X6_isSector (l : Launch) (D : va_G) (cy : ClassId) (Ad : Nat → Nat) (hap : apt 8 Ad) {σ : Rg} {μ : Ar} {x1 : Int32} {Q : Int32 → Rg → Ar → Prop} (h : wp_X6_isSector σ μ x1 Q) : Ct l yX6_isSector cX6_isSector 2 (some FieldType.boolean) rmX6_isSector D [(cy, .int)] (fun H => va_P D vwCl (wM Ad cy σ μ) H) [.ref (Ad 0), .int x1] (AS 8 Ad) (PWi (wM Ad cy) D Q) := by
  refine Ct.of (by decide) (Nat.le_of_ble_eq_true rfl) ?_
  intro p e s m below meth c ls C hP hl
  have hl : lv_has ls 2 [(0, .ref (Ad 0)), (1, .int x1)] := hl
  have hS : va_S (AS 8 Ad) s.heap s.heap [] := va_S.rf
  have hx := C.1
  have hb := C.2.1
  refine lv_iload_n hx hb dX6_isSector_0 rfl (lv_at hl 1 rfl) ?_
  refine lv_iconst (v := 0) hx hb dX6_isSector_1 (by decide) ?_
  refine lv_aload_n hx hb dX6_isSector_2 rfl (lv_at hl 0 rfl) ?_
  refine gM_model_x C hP (C.2.2.2.2.2.2.1 _ wq_924) dX6_isSector_3 ?_
  refine lv_iconst (v := 0) hx hb dX6_isSector_6 (by decide) ?_
  refine lcM_0 C hP tc_0 vi_0_810 dX6_isSector_7 ?_
  refine lv_iconst (v := 1) hx hb dX6_isSector_8 (by decide) ?_
  refine lv_isub hx hb dX6_isSector_9 ?_
  refine kNi (rnS (C.none) (ct_X6_within l D h) ys_X6_within wq_974 ⟨rfl, rfl⟩ ⟨Nat.le_of_ble_eq_true rfl, Nat.le_of_ble_eq_true rfl⟩ ⟨Nat.zero_le _, Nat.zero_le _⟩ trivial hl.1 rfl rfl (Nat.le_of_ble_eq_true rfl) dX6_isSector_10) hS (fun _ h => h.elim) (fun r10 H locs h hk hS => ?_)
  have hP := keepN hP hk
  obtain ⟨hc, h⟩ := h
  exact endZ C hS hc ⟨_, _, _, rfl, h, hP⟩ dX6_isSector_13
abbrev rmX6_byteAt : Room := { frames := 0, cells := 0, slots := 0, locals := 0 }
def wp_X6_byteAt (σ : Rg) (μ : Ar) (x1 : Int32) (x2 : Int32) (Q : Int32 → Rg → Ar → Prop) : Prop := (vp_in (((42 : Int32) + ((128 : Int32) * x1)) + x2) 810) ∧ (Q (μ 0 ((((42 : Int32) + ((128 : Int32) * x1)) + x2)).toNatClampNeg) σ μ)
set_option maxHeartbeats 4000000 in
set_option maxRecDepth 100000 in
theorem ct_X6_byteAt (l : Launch) (D : va_G) (cy : ClassId) (Ad : Nat → Nat) (hap : apt 8 Ad) {σ : Rg} {μ : Ar} {x1 : Int32} {x2 : Int32} {Q : Int32 → Rg → Ar → Prop} (h : wp_X6_byteAt σ μ x1 x2 Q) : Ct l yX6_byteAt cX6_byteAt 3 (some FieldType.int) rmX6_byteAt D [(cy, .int)] (fun H => va_P D vwCl (wM Ad cy σ μ) H) [.ref (Ad 0), .int x1, .int x2] (AS 8 Ad) (PWi (wM Ad cy) D Q) := by
  refine Ct.of (by decide) (Nat.le_of_ble_eq_true rfl) ?_
  intro p e s m below meth c ls C hP hl
  have hl : lv_has ls 3 [(0, .ref (Ad 0)), (1, .int x1), (2, .int x2)] := hl
  have hS : va_S (AS 8 Ad) s.heap s.heap [] := va_S.rf
  have hx := C.1
  have hb := C.2.1
  refine lv_aload_n hx hb dX6_byteAt_0 rfl (lv_at hl 0 rfl) ?_
  refine gM_model_x C hP (C.2.2.2.2.2.2.1 _ wq_924) dX6_byteAt_1 ?_
  refine lv_bipush (v := 42) hx hb dX6_byteAt_4 (by decide) ?_
  refine lv_sipush (v := 128) hx hb dX6_byteAt_6 (by decide) ?_
  refine lv_iload_n hx hb dX6_byteAt_9 rfl (lv_at hl 1 rfl) ?_
  refine lv_imul hx hb dX6_byteAt_10 ?_
  refine lv_iadd hx hb dX6_byteAt_11 ?_
  refine lv_iload_n hx hb dX6_byteAt_12 rfl (lv_at hl 2 rfl) ?_
  refine lv_iadd hx hb dX6_byteAt_13 ?_
  obtain ⟨hc, h⟩ := h
  refine lM_0 C hP hc dX6_byteAt_14 ?_
  exact endI C hS ⟨_, _, _, rfl, h, hP⟩ dX6_byteAt_15
abbrev rmX6_makes : Room := { frames := 0, cells := 0, slots := 0, locals := 0 }
def wb_X6_makes_39 (Q : Rg → Ar → Prop) (k39 : Rg → Ar → Int32 → Prop) (σ : Rg) (μ : Ar) (v3 : Int32) : Prop := (((810 : Int32) ≤ v3 → Q σ μ) ∧ (¬ (810 : Int32) ≤ v3 → (vp_in v3 810) ∧ (∀ μ54 : Ar, μ54 = updA μ 0 (upd (μ 0) (v3).toNatClampNeg (255 : Int32)) → (∀ y55 : Int32, y55 = v3 + (1 : Int32) → (k39 σ μ54 y55)))))
set_option maxHeartbeats 4000000 in
set_option maxRecDepth 100000 in
theorem wk_X6_makes_39 {p : Program} {l : Launch} {e : Env} {s : State} {m : MethodId} {args : Array Value} {below : List Frame} {meth : Method} {c : Code} {D : va_G} {cy : ClassId} {Ad : Nat → Nat} (C : Cx p s m args meth c RX6 cX6_makes 4 (none : Option FieldType) D [(cy, .int)]) (hap : apt 8 Ad) {Q : Rg → Ar → Prop} {k39 : Rg → Ar → Int32 → Prop} (hk39 : ∀ {σ : Rg} {μ : Ar} {v3 : Int32} {H : Heap} {locs : List Loc} {ls : Array Slot}, k39 σ μ v3 → va_P D vwCl (wM Ad cy σ μ) H → va_S (AS 8 Ad) s.heap H locs → lv_has ls 4 [(0, .ref (Ad 0)), (3, .int v3)] → W p l e rmX6_makes s m args below meth c H locs 0 0 (MQ below (Qcg (PWv (wM Ad cy) D Q) (AS 8 Ad)) args s 0 0 (AS 8 Ad)) (F0 m 39 ls [])) {σ : Rg} {μ : Ar} {v3 : Int32} {H : Heap} {locs : List Loc} {ls : Array Slot} (h : wb_X6_makes_39 Q k39 σ μ v3) (hP : va_P D vwCl (wM Ad cy σ μ) H) (hS : va_S (AS 8 Ad) s.heap H locs) (hl : lv_has ls 4 [(0, .ref (Ad 0)), (3, .int v3)]) : W p l e rmX6_makes s m args below meth c H locs 0 0 (MQ below (Qcg (PWv (wM Ad cy) D Q) (AS 8 Ad)) args s 0 0 (AS 8 Ad)) (F0 m 39 ls []) := by
  have hx := C.1
  have hb := C.2.1
  refine lv_iload_n hx hb dX6_makes_39 rfl (lv_at hl 1 rfl) ?_
  refine lv_sipush (v := 810) hx hb dX6_makes_40 (by decide) ?_
  refine lv_icmp_ge (tgt := 61) hx hb dX6_makes_43 (by decide) (fun hc => ?_) (fun hc => ?_)
  · have h := h.1 hc
    exact endV C hS ⟨_, _, rfl, h, hP⟩ dX6_makes_61
  · have h := h.2 hc
    refine lv_aload_n hx hb dX6_makes_46 rfl (lv_at hl 0 rfl) ?_
    refine gM_model_x C hP (C.2.2.2.2.2.2.1 _ wq_924) dX6_makes_47 ?_
    refine lv_iload_n hx hb dX6_makes_50 rfl (lv_at hl 1 rfl) ?_
    refine lv_sipush (v := 255) hx hb dX6_makes_51 (by decide) ?_
    obtain ⟨hc, h⟩ := h
    refine sM_0 C hap (fun _ h => h) hP hS hc dX6_makes_54 (fun H locs hP hS => ?_)
    obtain ⟨μ54, e54⟩ : ∃ z : Ar, z = updA μ 0 (upd (μ 0) (v3).toNatClampNeg (255 : Int32)) := ⟨_, rfl⟩
    have hP : va_P D vwCl (wM Ad cy σ μ54) H := by rw [e54]; exact hP
    have h := h μ54 e54
    obtain ⟨y55, e55⟩ : ∃ y : Int32, y = v3 + (1 : Int32) := ⟨_, rfl⟩
    have h := h y55 e55
    refine lv_iinc (v := y55) (lv' := [(3, .int y55), (0, .ref (Ad 0))]) hx hb dX6_makes_55 hl (k := 1) rfl (by rw [e55]; rfl) (by decide) rfl (fun ls hl => ?_)
    refine lv_goto (tgt := 39) hx hb dX6_makes_58 (by decide) ?_
    exact hk39 h hP hS (lv_sub hl [1, 0] rfl)
def wl_X6_makes_39 (Q : Rg → Ar → Prop) (n : Nat) : Rg → Ar → Int32 → Prop := Nat.rec (motive := fun _ => Rg → Ar → Int32 → Prop) (fun _ _ _ => False) (fun _ k => wb_X6_makes_39 Q k) n
set_option maxHeartbeats 4000000 in
theorem wkl_X6_makes_39 {p : Program} {l : Launch} {e : Env} {s : State} {m : MethodId} {args : Array Value} {below : List Frame} {meth : Method} {c : Code} {D : va_G} {cy : ClassId} {Ad : Nat → Nat} (C : Cx p s m args meth c RX6 cX6_makes 4 (none : Option FieldType) D [(cy, .int)]) (hap : apt 8 Ad) {Q : Rg → Ar → Prop}  : ∀ (n : Nat) {σ : Rg} {μ : Ar} {v3 : Int32} {H : Heap} {locs : List Loc} {ls : Array Slot} (h : wl_X6_makes_39 Q  n σ μ v3) (hP : va_P D vwCl (wM Ad cy σ μ) H) (hS : va_S (AS 8 Ad) s.heap H locs) (hl : lv_has ls 4 [(0, .ref (Ad 0)), (3, .int v3)]), W p l e rmX6_makes s m args below meth c H locs 0 0 (MQ below (Qcg (PWv (wM Ad cy) D Q) (AS 8 Ad)) args s 0 0 (AS 8 Ad)) (F0 m 39 ls []) := by
  intro n
  induction n with
  | zero => intro σ μ v3 H locs ls h; exact h.elim
  | succ n ih =>
    intro σ μ v3 H locs ls h hP hS hl
    exact wk_X6_makes_39 C hap (fun h hP hS hl => ih h hP hS hl) h hP hS hl
def wb_X6_makes_2 (Q : Rg → Ar → Prop) (k2 : Rg → Ar → Int32 → Int32 → Int32 → Prop) (σ : Rg) (μ : Ar) (v1 : Int32) (v2 : Int32) (v3 : Int32) : Prop := (((810 : Int32) ≤ v3 → ∀ μ28 : Ar, μ28 = updA μ 0 (upd (μ 0) 0 v1) → (∀ μ35 : Ar, μ35 = updA μ28 0 (upd (μ28 0) 1 v2) → (∃ n, wl_X6_makes_39 Q n σ μ35 (42 : Int32)))) ∧ (¬ (810 : Int32) ≤ v3 → (vp_in v3 810) ∧ (∀ μ15 : Ar, μ15 = updA μ 0 (upd (μ 0) (v3).toNatClampNeg (0 : Int32)) → (∀ y16 : Int32, y16 = v3 + (1 : Int32) → (k2 σ μ15 v1 v2 y16)))))
set_option maxHeartbeats 4000000 in
set_option maxRecDepth 100000 in
theorem wk_X6_makes_2 {p : Program} {l : Launch} {e : Env} {s : State} {m : MethodId} {args : Array Value} {below : List Frame} {meth : Method} {c : Code} {D : va_G} {cy : ClassId} {Ad : Nat → Nat} (C : Cx p s m args meth c RX6 cX6_makes 4 (none : Option FieldType) D [(cy, .int)]) (hap : apt 8 Ad) {Q : Rg → Ar → Prop} {k2 : Rg → Ar → Int32 → Int32 → Int32 → Prop} (hk2 : ∀ {σ : Rg} {μ : Ar} {v1 : Int32} {v2 : Int32} {v3 : Int32} {H : Heap} {locs : List Loc} {ls : Array Slot}, k2 σ μ v1 v2 v3 → va_P D vwCl (wM Ad cy σ μ) H → va_S (AS 8 Ad) s.heap H locs → lv_has ls 4 [(0, .ref (Ad 0)), (1, .int v1), (2, .int v2), (3, .int v3)] → W p l e rmX6_makes s m args below meth c H locs 0 0 (MQ below (Qcg (PWv (wM Ad cy) D Q) (AS 8 Ad)) args s 0 0 (AS 8 Ad)) (F0 m 2 ls [])) {σ : Rg} {μ : Ar} {v1 : Int32} {v2 : Int32} {v3 : Int32} {H : Heap} {locs : List Loc} {ls : Array Slot} (h : wb_X6_makes_2 Q k2 σ μ v1 v2 v3) (hP : va_P D vwCl (wM Ad cy σ μ) H) (hS : va_S (AS 8 Ad) s.heap H locs) (hl : lv_has ls 4 [(0, .ref (Ad 0)), (1, .int v1), (2, .int v2), (3, .int v3)]) : W p l e rmX6_makes s m args below meth c H locs 0 0 (MQ below (Qcg (PWv (wM Ad cy) D Q) (AS 8 Ad)) args s 0 0 (AS 8 Ad)) (F0 m 2 ls []) := by
  have hx := C.1
  have hb := C.2.1
  refine lv_iload_n hx hb dX6_makes_2 rfl (lv_at hl 3 rfl) ?_
  refine lv_sipush (v := 810) hx hb dX6_makes_3 (by decide) ?_
  refine lv_icmp_ge (tgt := 22) hx hb dX6_makes_6 (by decide) (fun hc => ?_) (fun hc => ?_)
  · have h := h.1 hc
    refine lv_aload_n hx hb dX6_makes_22 rfl (lv_at hl 0 rfl) ?_
    refine gM_model_x C hP (C.2.2.2.2.2.2.1 _ wq_924) dX6_makes_23 ?_
    refine lv_iconst (v := 0) hx hb dX6_makes_26 (by decide) ?_
    refine lv_iload_n hx hb dX6_makes_27 rfl (lv_at hl 1 rfl) ?_
    refine scM_0 C hap (fun _ h => h) hP hS tc_0 vi_0_810 dX6_makes_28 (fun H locs hP hS => ?_)
    obtain ⟨μ28, e28⟩ : ∃ z : Ar, z = updA μ 0 (upd (μ 0) 0 v1) := ⟨_, rfl⟩
    have hP : va_P D vwCl (wM Ad cy σ μ28) H := by rw [e28]; exact hP
    have h := h μ28 e28
    refine lv_aload_n hx hb dX6_makes_29 rfl (lv_at hl 0 rfl) ?_
    refine gM_model_x C hP (C.2.2.2.2.2.2.1 _ wq_924) dX6_makes_30 ?_
    refine lv_iconst (v := 1) hx hb dX6_makes_33 (by decide) ?_
    refine lv_iload_n hx hb dX6_makes_34 rfl (lv_at hl 2 rfl) ?_
    refine scM_0 C hap (fun _ h => h) hP hS tc_1 vi_1_810 dX6_makes_35 (fun H locs hP hS => ?_)
    obtain ⟨μ35, e35⟩ : ∃ z : Ar, z = updA μ28 0 (upd (μ28 0) 1 v2) := ⟨_, rfl⟩
    have hP : va_P D vwCl (wM Ad cy σ μ35) H := by rw [e35]; exact hP
    have h := h μ35 e35
    refine lv_bipush (v := 42) hx hb dX6_makes_36 (by decide) ?_
    refine lv_istore_n (lv' := [(3, .int (42 : Int32)), (0, .ref (Ad 0)), (1, .int v1), (2, .int v2)]) hx hb dX6_makes_38 rfl hl (by decide) rfl (fun ls hl => ?_)
    obtain ⟨n, h⟩ := h
    exact wkl_X6_makes_39 C hap n h hP hS (lv_sub hl [1, 0] rfl)
  · have h := h.2 hc
    refine lv_aload_n hx hb dX6_makes_9 rfl (lv_at hl 0 rfl) ?_
    refine gM_model_x C hP (C.2.2.2.2.2.2.1 _ wq_924) dX6_makes_10 ?_
    refine lv_iload_n hx hb dX6_makes_13 rfl (lv_at hl 3 rfl) ?_
    refine lv_iconst (v := 0) hx hb dX6_makes_14 (by decide) ?_
    obtain ⟨hc, h⟩ := h
    refine sM_0 C hap (fun _ h => h) hP hS hc dX6_makes_15 (fun H locs hP hS => ?_)
    obtain ⟨μ15, e15⟩ : ∃ z : Ar, z = updA μ 0 (upd (μ 0) (v3).toNatClampNeg (0 : Int32)) := ⟨_, rfl⟩
    have hP : va_P D vwCl (wM Ad cy σ μ15) H := by rw [e15]; exact hP
    have h := h μ15 e15
    obtain ⟨y16, e16⟩ : ∃ y : Int32, y = v3 + (1 : Int32) := ⟨_, rfl⟩
    have h := h y16 e16
    refine lv_iinc (v := y16) (lv' := [(3, .int y16), (0, .ref (Ad 0)), (1, .int v1), (2, .int v2)]) hx hb dX6_makes_16 hl (k := 3) rfl (by rw [e16]; rfl) (by decide) rfl (fun ls hl => ?_)
    refine lv_goto (tgt := 2) hx hb dX6_makes_19 (by decide) ?_
    exact hk2 h hP hS (lv_sub hl [1, 2, 3, 0] rfl)
def wl_X6_makes_2 (Q : Rg → Ar → Prop) (n : Nat) : Rg → Ar → Int32 → Int32 → Int32 → Prop := Nat.rec (motive := fun _ => Rg → Ar → Int32 → Int32 → Int32 → Prop) (fun _ _ _ _ _ => False) (fun _ k => wb_X6_makes_2 Q k) n
set_option maxHeartbeats 4000000 in
theorem wkl_X6_makes_2 {p : Program} {l : Launch} {e : Env} {s : State} {m : MethodId} {args : Array Value} {below : List Frame} {meth : Method} {c : Code} {D : va_G} {cy : ClassId} {Ad : Nat → Nat} (C : Cx p s m args meth c RX6 cX6_makes 4 (none : Option FieldType) D [(cy, .int)]) (hap : apt 8 Ad) {Q : Rg → Ar → Prop}  : ∀ (n : Nat) {σ : Rg} {μ : Ar} {v1 : Int32} {v2 : Int32} {v3 : Int32} {H : Heap} {locs : List Loc} {ls : Array Slot} (h : wl_X6_makes_2 Q  n σ μ v1 v2 v3) (hP : va_P D vwCl (wM Ad cy σ μ) H) (hS : va_S (AS 8 Ad) s.heap H locs) (hl : lv_has ls 4 [(0, .ref (Ad 0)), (1, .int v1), (2, .int v2), (3, .int v3)]), W p l e rmX6_makes s m args below meth c H locs 0 0 (MQ below (Qcg (PWv (wM Ad cy) D Q) (AS 8 Ad)) args s 0 0 (AS 8 Ad)) (F0 m 2 ls []) := by
  intro n
  induction n with
  | zero => intro σ μ v1 v2 v3 H locs ls h; exact h.elim
  | succ n ih =>
    intro σ μ v1 v2 v3 H locs ls h hP hS hl
    exact wk_X6_makes_2 C hap (fun h hP hS hl => ih h hP hS hl) h hP hS hl
def wp_X6_makes (σ : Rg) (μ : Ar) (x1 : Int32) (x2 : Int32) (Q : Rg → Ar → Prop) : Prop := ∃ n, wl_X6_makes_2 Q n σ μ x1 x2 (0 : Int32)
set_option maxHeartbeats 4000000 in
set_option maxRecDepth 100000 in
theorem ct_X6_makes (l : Launch) (D : va_G) (cy : ClassId) (Ad : Nat → Nat) (hap : apt 8 Ad) {σ : Rg} {μ : Ar} {x1 : Int32} {x2 : Int32} {Q : Rg → Ar → Prop} (h : wp_X6_makes σ μ x1 x2 Q) : Ct l yX6_makes cX6_makes 4 (none : Option FieldType) rmX6_makes D [(cy, .int)] (fun H => va_P D vwCl (wM Ad cy σ μ) H) [.ref (Ad 0), .int x1, .int x2] (AS 8 Ad) (PWv (wM Ad cy) D Q) := by
  refine Ct.of (by decide) (Nat.le_of_ble_eq_true rfl) ?_
  intro p e s m below meth c ls C hP hl
  have hl : lv_has ls 4 [(0, .ref (Ad 0)), (1, .int x1), (2, .int x2)] := hl
  have hS : va_S (AS 8 Ad) s.heap s.heap [] := va_S.rf
  have hx := C.1
  have hb := C.2.1
  refine lv_iconst (v := 0) hx hb dX6_makes_0 (by decide) ?_
  refine lv_istore_n (lv' := [(3, .int (0 : Int32)), (0, .ref (Ad 0)), (1, .int x1), (2, .int x2)]) hx hb dX6_makes_1 rfl hl (by decide) rfl (fun ls hl => ?_)
  obtain ⟨n, h⟩ := h
  exact wkl_X6_makes_2 C hap n h hP hS (lv_sub hl [1, 2, 3, 0] rfl)
abbrev rmX6_chip : Room := { frames := 1, cells := 0, slots := 0, locals := 23 }
def wb_X6_chip_27 (Q : Int32 → Rg → Ar → Prop) (σ : Rg) (μ : Ar) : Prop := Q (0 : Int32) σ μ
set_option maxHeartbeats 4000000 in
set_option maxRecDepth 100000 in
theorem wk_X6_chip_27 {p : Program} {l : Launch} {e : Env} {s : State} {m : MethodId} {args : Array Value} {below : List Frame} {meth : Method} {c : Code} {D : va_G} {cy : ClassId} {Ad : Nat → Nat} (C : Cx p s m args meth c RX6 cX6_chip 3 (some FieldType.boolean) D [(cy, .int)]) (hap : apt 8 Ad) {Q : Int32 → Rg → Ar → Prop} {σ : Rg} {μ : Ar}  {H : Heap} {locs : List Loc} {ls : Array Slot} (h : wb_X6_chip_27 Q σ μ) (hP : va_P D vwCl (wM Ad cy σ μ) H) (hS : va_S (AS 8 Ad) s.heap H locs) (hl : lv_has ls 3 []) : W p l e rmX6_chip s m args below meth c H locs 0 0 (MQ below (Qcg (PWi (wM Ad cy) D Q) (AS 8 Ad)) args s 0 0 (AS 8 Ad)) (F0 m 27 ls []) := by
  have hx := C.1
  have hb := C.2.1
  refine lv_iconst (v := 0) hx hb dX6_chip_27 (by decide) ?_
  exact endZ C hS bz0 ⟨_, _, _, rfl, h, hP⟩ dX6_chip_28
def wp_X6_chip (σ : Rg) (μ : Ar) (x1 : Int32) (x2 : Int32) (Q : Int32 → Rg → Ar → Prop) : Prop := ∀ σ2 : Rg, σ2 = upd σ 0 (0 : Int32) → (wp_X6_within x1 (2 : Int32) (6 : Int32) (fun r9 => ((r9 = 0 → wb_X6_chip_27 Q σ2 μ) ∧ (¬ r9 = 0 → wp_X6_within x2 (32 : Int32) (128 : Int32) (fun r21 => ((¬ r21 = 0 → wp_X6_makes σ2 μ x1 x2 (fun σ32 μ32 => Q (1 : Int32) σ32 μ32)) ∧ (r21 = 0 → wb_X6_chip_27 Q σ2 μ)))))))
set_option maxHeartbeats 4000000 in
set_option maxRecDepth 100000 in
theorem ct_X6_chip (l : Launch) (D : va_G) (cy : ClassId) (Ad : Nat → Nat) (hap : apt 8 Ad) {σ : Rg} {μ : Ar} {x1 : Int32} {x2 : Int32} {Q : Int32 → Rg → Ar → Prop} (h : wp_X6_chip σ μ x1 x2 Q) : Ct l yX6_chip cX6_chip 3 (some FieldType.boolean) rmX6_chip D [(cy, .int)] (fun H => va_P D vwCl (wM Ad cy σ μ) H) [.ref (Ad 0), .int x1, .int x2] (AS 8 Ad) (PWi (wM Ad cy) D Q) := by
  refine Ct.of (by decide) (Nat.le_of_ble_eq_true rfl) ?_
  intro p e s m below meth c ls C hP hl
  have hl : lv_has ls 3 [(0, .ref (Ad 0)), (1, .int x1), (2, .int x2)] := hl
  have hS : va_S (AS 8 Ad) s.heap s.heap [] := va_S.rf
  have hx := C.1
  have hb := C.2.1
  refine lv_aload_n hx hb dX6_chip_0 rfl (lv_at hl 0 rfl) ?_
  refine lv_iconst (v := 0) hx hb dX6_chip_1 (by decide) ?_
  refine pM_model_thrown C hap (fun _ h => h) hP hS (C.2.2.2.2.2.2.1 _ wq_926) dX6_chip_2 (fun H locs hP hS => ?_)
  obtain ⟨σ2, e2⟩ : ∃ z : Rg, z = upd σ 0 (0 : Int32) := ⟨_, rfl⟩
  have hP : va_P D vwCl (wM Ad cy σ2 μ) H := by rw [e2]; exact hP
  have h := h σ2 e2
  refine lv_iload_n hx hb dX6_chip_5 rfl (lv_at hl 1 rfl) ?_
  refine lv_iconst (v := 2) hx hb dX6_chip_6 (by decide) ?_
  refine lv_bipush (v := 6) hx hb dX6_chip_7 (by decide) ?_
  refine kNi (rnS (C.none) (ct_X6_within l D h) ys_X6_within wq_974 ⟨rfl, rfl⟩ ⟨Nat.le_of_ble_eq_true rfl, Nat.le_of_ble_eq_true rfl⟩ ⟨Nat.zero_le _, Nat.zero_le _⟩ trivial hl.1 rfl rfl (Nat.le_of_ble_eq_true rfl) dX6_chip_9) hS (fun _ h => h.elim) (fun r9 H locs h hk hS => ?_)
  have hP := keepN hP hk
  refine lv_if_eq (tgt := 27) hx hb dX6_chip_12 (by decide) (fun hc => ?_) (fun hc => ?_)
  · have h := h.1 hc
    exact wk_X6_chip_27 C hap h hP hS (lv_sub hl [] rfl)
  · have h := h.2 hc
    refine lv_iload_n hx hb dX6_chip_15 rfl (lv_at hl 2 rfl) ?_
    refine lv_bipush (v := 32) hx hb dX6_chip_16 (by decide) ?_
    refine lv_sipush (v := 128) hx hb dX6_chip_18 (by decide) ?_
    refine kNi (rnS (C.none) (ct_X6_within l D h) ys_X6_within wq_974 ⟨rfl, rfl⟩ ⟨Nat.le_of_ble_eq_true rfl, Nat.le_of_ble_eq_true rfl⟩ ⟨Nat.zero_le _, Nat.zero_le _⟩ trivial hl.1 rfl rfl (Nat.le_of_ble_eq_true rfl) dX6_chip_21) hS (fun _ h => h.elim) (fun r21 H locs h hk hS => ?_)
    have hP := keepN hP hk
    refine lv_if_ne (tgt := 29) hx hb dX6_chip_24 (by decide) (fun hc => ?_) (fun hc => ?_)
    · have h := h.1 hc
      refine lv_aload_n hx hb dX6_chip_29 rfl (lv_at hl 0 rfl) ?_
      refine lv_iload_n hx hb dX6_chip_30 rfl (lv_at hl 1 rfl) ?_
      refine lv_iload_n hx hb dX6_chip_31 rfl (lv_at hl 2 rfl) ?_
      refine kWv (rnV C (ct_X6_makes l D cy Ad hap h) yv_X6_makes wq_920 ⟨rfl, rfl⟩ ⟨Nat.le_of_ble_eq_true rfl, Nat.le_of_ble_eq_true rfl⟩ ⟨Nat.zero_le _, Nat.zero_le _⟩ (vM_model C hP) hP hl.1 rfl rfl (Nat.le_of_ble_eq_true rfl) dX6_chip_32) hS (fun _ h => h) (fun σ32 μ32 H locs h hP hk hS => ?_)
      refine lv_iconst (v := 1) hx hb dX6_chip_35 (by decide) ?_
      exact endZ C hS bz1 ⟨_, _, _, rfl, h, hP⟩ dX6_chip_36
    · have h := h.2 hc
      exact wk_X6_chip_27 C hap h hP hS (lv_sub hl [] rfl)
abbrev rmX6_putsAside : Room := { frames := 0, cells := 0, slots := 0, locals := 0 }
def wb_X6_putsAside_2 (Q : Rg → Ar → Prop) (k2 : Rg → Ar → Int32 → Prop) (σ : Rg) (μ : Ar) (v1 : Int32) : Prop := (((810 : Int32) ≤ v1 → Q σ μ) ∧ (¬ (810 : Int32) ≤ v1 → (vp_in v1 810) ∧ ((vp_in v1 810) ∧ (∀ μ20 : Ar, μ20 = updA μ 1 (upd (μ 1) (v1).toNatClampNeg (μ 0 (v1).toNatClampNeg)) → (∀ y21 : Int32, y21 = v1 + (1 : Int32) → (k2 σ μ20 y21))))))
set_option maxHeartbeats 4000000 in
set_option maxRecDepth 100000 in
theorem wk_X6_putsAside_2 {p : Program} {l : Launch} {e : Env} {s : State} {m : MethodId} {args : Array Value} {below : List Frame} {meth : Method} {c : Code} {D : va_G} {cy : ClassId} {Ad : Nat → Nat} (C : Cx p s m args meth c RX6 cX6_putsAside 2 (none : Option FieldType) D [(cy, .int)]) (hap : apt 8 Ad) {Q : Rg → Ar → Prop} {k2 : Rg → Ar → Int32 → Prop} (hk2 : ∀ {σ : Rg} {μ : Ar} {v1 : Int32} {H : Heap} {locs : List Loc} {ls : Array Slot}, k2 σ μ v1 → va_P D vwCl (wM Ad cy σ μ) H → va_S (AS 8 Ad) s.heap H locs → lv_has ls 2 [(0, .ref (Ad 0)), (1, .int v1)] → W p l e rmX6_putsAside s m args below meth c H locs 0 0 (MQ below (Qcg (PWv (wM Ad cy) D Q) (AS 8 Ad)) args s 0 0 (AS 8 Ad)) (F0 m 2 ls [])) {σ : Rg} {μ : Ar} {v1 : Int32} {H : Heap} {locs : List Loc} {ls : Array Slot} (h : wb_X6_putsAside_2 Q k2 σ μ v1) (hP : va_P D vwCl (wM Ad cy σ μ) H) (hS : va_S (AS 8 Ad) s.heap H locs) (hl : lv_has ls 2 [(0, .ref (Ad 0)), (1, .int v1)]) : W p l e rmX6_putsAside s m args below meth c H locs 0 0 (MQ below (Qcg (PWv (wM Ad cy) D Q) (AS 8 Ad)) args s 0 0 (AS 8 Ad)) (F0 m 2 ls []) := by
  have hx := C.1
  have hb := C.2.1
  refine lv_iload_n hx hb dX6_putsAside_2 rfl (lv_at hl 1 rfl) ?_
  refine lv_sipush (v := 810) hx hb dX6_putsAside_3 (by decide) ?_
  refine lv_icmp_ge (tgt := 27) hx hb dX6_putsAside_6 (by decide) (fun hc => ?_) (fun hc => ?_)
  · have h := h.1 hc
    exact endV C hS ⟨_, _, rfl, h, hP⟩ dX6_putsAside_27
  · have h := h.2 hc
    refine lv_aload_n hx hb dX6_putsAside_9 rfl (lv_at hl 0 rfl) ?_
    refine gM_model_kept C hP (C.2.2.2.2.2.2.1 _ wq_925) dX6_putsAside_10 ?_
    refine lv_iload_n hx hb dX6_putsAside_13 rfl (lv_at hl 1 rfl) ?_
    refine lv_aload_n hx hb dX6_putsAside_14 rfl (lv_at hl 0 rfl) ?_
    refine gM_model_x C hP (C.2.2.2.2.2.2.1 _ wq_924) dX6_putsAside_15 ?_
    refine lv_iload_n hx hb dX6_putsAside_18 rfl (lv_at hl 1 rfl) ?_
    obtain ⟨hc, h⟩ := h
    refine lM_0 C hP hc dX6_putsAside_19 ?_
    obtain ⟨hc, h⟩ := h
    refine sM_1 C hap (fun _ h => h) hP hS hc dX6_putsAside_20 (fun H locs hP hS => ?_)
    obtain ⟨μ20, e20⟩ : ∃ z : Ar, z = updA μ 1 (upd (μ 1) (v1).toNatClampNeg (μ 0 (v1).toNatClampNeg)) := ⟨_, rfl⟩
    have hP : va_P D vwCl (wM Ad cy σ μ20) H := by rw [e20]; exact hP
    have h := h μ20 e20
    obtain ⟨y21, e21⟩ : ∃ y : Int32, y = v1 + (1 : Int32) := ⟨_, rfl⟩
    have h := h y21 e21
    refine lv_iinc (v := y21) (lv' := [(1, .int y21), (0, .ref (Ad 0))]) hx hb dX6_putsAside_21 hl (k := 1) rfl (by rw [e21]; rfl) (by decide) rfl (fun ls hl => ?_)
    refine lv_goto (tgt := 2) hx hb dX6_putsAside_24 (by decide) ?_
    exact hk2 h hP hS (lv_sub hl [1, 0] rfl)
def wl_X6_putsAside_2 (Q : Rg → Ar → Prop) (n : Nat) : Rg → Ar → Int32 → Prop := Nat.rec (motive := fun _ => Rg → Ar → Int32 → Prop) (fun _ _ _ => False) (fun _ k => wb_X6_putsAside_2 Q k) n
set_option maxHeartbeats 4000000 in
theorem wkl_X6_putsAside_2 {p : Program} {l : Launch} {e : Env} {s : State} {m : MethodId} {args : Array Value} {below : List Frame} {meth : Method} {c : Code} {D : va_G} {cy : ClassId} {Ad : Nat → Nat} (C : Cx p s m args meth c RX6 cX6_putsAside 2 (none : Option FieldType) D [(cy, .int)]) (hap : apt 8 Ad) {Q : Rg → Ar → Prop}  : ∀ (n : Nat) {σ : Rg} {μ : Ar} {v1 : Int32} {H : Heap} {locs : List Loc} {ls : Array Slot} (h : wl_X6_putsAside_2 Q  n σ μ v1) (hP : va_P D vwCl (wM Ad cy σ μ) H) (hS : va_S (AS 8 Ad) s.heap H locs) (hl : lv_has ls 2 [(0, .ref (Ad 0)), (1, .int v1)]), W p l e rmX6_putsAside s m args below meth c H locs 0 0 (MQ below (Qcg (PWv (wM Ad cy) D Q) (AS 8 Ad)) args s 0 0 (AS 8 Ad)) (F0 m 2 ls []) := by
  intro n
  induction n with
  | zero => intro σ μ v1 H locs ls h; exact h.elim
  | succ n ih =>
    intro σ μ v1 H locs ls h hP hS hl
    exact wk_X6_putsAside_2 C hap (fun h hP hS hl => ih h hP hS hl) h hP hS hl
def wp_X6_putsAside (σ : Rg) (μ : Ar) (Q : Rg → Ar → Prop) : Prop := ∃ n, wl_X6_putsAside_2 Q n σ μ (0 : Int32)
set_option maxHeartbeats 4000000 in
set_option maxRecDepth 100000 in
theorem ct_X6_putsAside (l : Launch) (D : va_G) (cy : ClassId) (Ad : Nat → Nat) (hap : apt 8 Ad) {σ : Rg} {μ : Ar}  {Q : Rg → Ar → Prop} (h : wp_X6_putsAside σ μ  Q) : Ct l yX6_putsAside cX6_putsAside 2 (none : Option FieldType) rmX6_putsAside D [(cy, .int)] (fun H => va_P D vwCl (wM Ad cy σ μ) H) [.ref (Ad 0)] (AS 8 Ad) (PWv (wM Ad cy) D Q) := by
  refine Ct.of (by decide) (Nat.le_of_ble_eq_true rfl) ?_
  intro p e s m below meth c ls C hP hl
  have hl : lv_has ls 2 [(0, .ref (Ad 0))] := hl
  have hS : va_S (AS 8 Ad) s.heap s.heap [] := va_S.rf
  have hx := C.1
  have hb := C.2.1
  refine lv_iconst (v := 0) hx hb dX6_putsAside_0 (by decide) ?_
  refine lv_istore_n (lv' := [(1, .int (0 : Int32)), (0, .ref (Ad 0))]) hx hb dX6_putsAside_1 rfl hl (by decide) rfl (fun ls hl => ?_)
  obtain ⟨n, h⟩ := h
  exact wkl_X6_putsAside_2 C hap n h hP hS (lv_sub hl [1, 0] rfl)
abbrev rmX6_putsBack : Room := { frames := 0, cells := 0, slots := 0, locals := 0 }
def wb_X6_putsBack_2 (Q : Rg → Ar → Prop) (k2 : Rg → Ar → Int32 → Prop) (σ : Rg) (μ : Ar) (v1 : Int32) : Prop := (((810 : Int32) ≤ v1 → Q σ μ) ∧ (¬ (810 : Int32) ≤ v1 → (vp_in v1 810) ∧ ((vp_in v1 810) ∧ (∀ μ20 : Ar, μ20 = updA μ 0 (upd (μ 0) (v1).toNatClampNeg (μ 1 (v1).toNatClampNeg)) → (∀ y21 : Int32, y21 = v1 + (1 : Int32) → (k2 σ μ20 y21))))))
set_option maxHeartbeats 4000000 in
set_option maxRecDepth 100000 in
theorem wk_X6_putsBack_2 {p : Program} {l : Launch} {e : Env} {s : State} {m : MethodId} {args : Array Value} {below : List Frame} {meth : Method} {c : Code} {D : va_G} {cy : ClassId} {Ad : Nat → Nat} (C : Cx p s m args meth c RX6 cX6_putsBack 2 (none : Option FieldType) D [(cy, .int)]) (hap : apt 8 Ad) {Q : Rg → Ar → Prop} {k2 : Rg → Ar → Int32 → Prop} (hk2 : ∀ {σ : Rg} {μ : Ar} {v1 : Int32} {H : Heap} {locs : List Loc} {ls : Array Slot}, k2 σ μ v1 → va_P D vwCl (wM Ad cy σ μ) H → va_S (AS 8 Ad) s.heap H locs → lv_has ls 2 [(0, .ref (Ad 0)), (1, .int v1)] → W p l e rmX6_putsBack s m args below meth c H locs 0 0 (MQ below (Qcg (PWv (wM Ad cy) D Q) (AS 8 Ad)) args s 0 0 (AS 8 Ad)) (F0 m 2 ls [])) {σ : Rg} {μ : Ar} {v1 : Int32} {H : Heap} {locs : List Loc} {ls : Array Slot} (h : wb_X6_putsBack_2 Q k2 σ μ v1) (hP : va_P D vwCl (wM Ad cy σ μ) H) (hS : va_S (AS 8 Ad) s.heap H locs) (hl : lv_has ls 2 [(0, .ref (Ad 0)), (1, .int v1)]) : W p l e rmX6_putsBack s m args below meth c H locs 0 0 (MQ below (Qcg (PWv (wM Ad cy) D Q) (AS 8 Ad)) args s 0 0 (AS 8 Ad)) (F0 m 2 ls []) := by
  have hx := C.1
  have hb := C.2.1
  refine lv_iload_n hx hb dX6_putsBack_2 rfl (lv_at hl 1 rfl) ?_
  refine lv_sipush (v := 810) hx hb dX6_putsBack_3 (by decide) ?_
  refine lv_icmp_ge (tgt := 27) hx hb dX6_putsBack_6 (by decide) (fun hc => ?_) (fun hc => ?_)
  · have h := h.1 hc
    exact endV C hS ⟨_, _, rfl, h, hP⟩ dX6_putsBack_27
  · have h := h.2 hc
    refine lv_aload_n hx hb dX6_putsBack_9 rfl (lv_at hl 0 rfl) ?_
    refine gM_model_x C hP (C.2.2.2.2.2.2.1 _ wq_924) dX6_putsBack_10 ?_
    refine lv_iload_n hx hb dX6_putsBack_13 rfl (lv_at hl 1 rfl) ?_
    refine lv_aload_n hx hb dX6_putsBack_14 rfl (lv_at hl 0 rfl) ?_
    refine gM_model_kept C hP (C.2.2.2.2.2.2.1 _ wq_925) dX6_putsBack_15 ?_
    refine lv_iload_n hx hb dX6_putsBack_18 rfl (lv_at hl 1 rfl) ?_
    obtain ⟨hc, h⟩ := h
    refine lM_1 C hP hc dX6_putsBack_19 ?_
    obtain ⟨hc, h⟩ := h
    refine sM_0 C hap (fun _ h => h) hP hS hc dX6_putsBack_20 (fun H locs hP hS => ?_)
    obtain ⟨μ20, e20⟩ : ∃ z : Ar, z = updA μ 0 (upd (μ 0) (v1).toNatClampNeg (μ 1 (v1).toNatClampNeg)) := ⟨_, rfl⟩
    have hP : va_P D vwCl (wM Ad cy σ μ20) H := by rw [e20]; exact hP
    have h := h μ20 e20
    obtain ⟨y21, e21⟩ : ∃ y : Int32, y = v1 + (1 : Int32) := ⟨_, rfl⟩
    have h := h y21 e21
    refine lv_iinc (v := y21) (lv' := [(1, .int y21), (0, .ref (Ad 0))]) hx hb dX6_putsBack_21 hl (k := 1) rfl (by rw [e21]; rfl) (by decide) rfl (fun ls hl => ?_)
    refine lv_goto (tgt := 2) hx hb dX6_putsBack_24 (by decide) ?_
    exact hk2 h hP hS (lv_sub hl [1, 0] rfl)
def wl_X6_putsBack_2 (Q : Rg → Ar → Prop) (n : Nat) : Rg → Ar → Int32 → Prop := Nat.rec (motive := fun _ => Rg → Ar → Int32 → Prop) (fun _ _ _ => False) (fun _ k => wb_X6_putsBack_2 Q k) n
set_option maxHeartbeats 4000000 in
theorem wkl_X6_putsBack_2 {p : Program} {l : Launch} {e : Env} {s : State} {m : MethodId} {args : Array Value} {below : List Frame} {meth : Method} {c : Code} {D : va_G} {cy : ClassId} {Ad : Nat → Nat} (C : Cx p s m args meth c RX6 cX6_putsBack 2 (none : Option FieldType) D [(cy, .int)]) (hap : apt 8 Ad) {Q : Rg → Ar → Prop}  : ∀ (n : Nat) {σ : Rg} {μ : Ar} {v1 : Int32} {H : Heap} {locs : List Loc} {ls : Array Slot} (h : wl_X6_putsBack_2 Q  n σ μ v1) (hP : va_P D vwCl (wM Ad cy σ μ) H) (hS : va_S (AS 8 Ad) s.heap H locs) (hl : lv_has ls 2 [(0, .ref (Ad 0)), (1, .int v1)]), W p l e rmX6_putsBack s m args below meth c H locs 0 0 (MQ below (Qcg (PWv (wM Ad cy) D Q) (AS 8 Ad)) args s 0 0 (AS 8 Ad)) (F0 m 2 ls []) := by
  intro n
  induction n with
  | zero => intro σ μ v1 H locs ls h; exact h.elim
  | succ n ih =>
    intro σ μ v1 H locs ls h hP hS hl
    exact wk_X6_putsBack_2 C hap (fun h hP hS hl => ih h hP hS hl) h hP hS hl
def wp_X6_putsBack (σ : Rg) (μ : Ar) (Q : Rg → Ar → Prop) : Prop := ∃ n, wl_X6_putsBack_2 Q n σ μ (0 : Int32)
set_option maxHeartbeats 4000000 in
set_option maxRecDepth 100000 in
theorem ct_X6_putsBack (l : Launch) (D : va_G) (cy : ClassId) (Ad : Nat → Nat) (hap : apt 8 Ad) {σ : Rg} {μ : Ar}  {Q : Rg → Ar → Prop} (h : wp_X6_putsBack σ μ  Q) : Ct l yX6_putsBack cX6_putsBack 2 (none : Option FieldType) rmX6_putsBack D [(cy, .int)] (fun H => va_P D vwCl (wM Ad cy σ μ) H) [.ref (Ad 0)] (AS 8 Ad) (PWv (wM Ad cy) D Q) := by
  refine Ct.of (by decide) (Nat.le_of_ble_eq_true rfl) ?_
  intro p e s m below meth c ls C hP hl
  have hl : lv_has ls 2 [(0, .ref (Ad 0))] := hl
  have hS : va_S (AS 8 Ad) s.heap s.heap [] := va_S.rf
  have hx := C.1
  have hb := C.2.1
  refine lv_iconst (v := 0) hx hb dX6_putsBack_0 (by decide) ?_
  refine lv_istore_n (lv' := [(1, .int (0 : Int32)), (0, .ref (Ad 0))]) hx hb dX6_putsBack_1 rfl hl (by decide) rfl (fun ls hl => ?_)
  obtain ⟨n, h⟩ := h
  exact wkl_X6_putsBack_2 C hap n h hP hS (lv_sub hl [1, 0] rfl)
abbrev rmX6_goes : Room := { frames := 0, cells := 0, slots := 0, locals := 0 }
def wp_X6_goes (σ : Rg) (μ : Ar) (Q : Int32 → Rg → Ar → Prop) : Prop := ∀ μ10 : Ar, μ10 = updA μ 0 (upd (μ 0) 8 ((μ 0 8) + (1 : Int32))) → (((¬ (μ10 0 4) = 0 → ∀ μ31 : Ar, μ31 = updA μ10 0 (upd (μ10 0) 4 ((μ10 0 4) - (1 : Int32))) → ((((μ31 0 4) ≤ 0 → ∀ μ53 : Ar, μ53 = updA μ31 0 (upd (μ31 0) 6 ((μ31 0 6) + (1 : Int32))) → (∀ μ60 : Ar, μ60 = updA μ53 0 (upd (μ53 0) 2 (0 : Int32)) → (∀ μ68 : Ar, μ68 = updA μ60 0 (upd (μ60 0) 10 (0 : Int32)) → (∀ σ71 : Rg, σ71 = upd σ 1 (1 : Int32) → (Q (1 : Int32) σ71 μ68))))) ∧ (¬ (μ31 0 4) ≤ 0 → Q (0 : Int32) σ μ31)))) ∧ ((μ10 0 4) = 0 → Q (0 : Int32) σ μ10)))
set_option maxHeartbeats 4000000 in
set_option maxRecDepth 100000 in
theorem ct_X6_goes (l : Launch) (D : va_G) (cy : ClassId) (Ad : Nat → Nat) (hap : apt 8 Ad) {σ : Rg} {μ : Ar}  {Q : Int32 → Rg → Ar → Prop} (h : wp_X6_goes σ μ  Q) : Ct l yX6_goes cX6_goes 1 (some FieldType.boolean) rmX6_goes D [(cy, .int)] (fun H => va_P D vwCl (wM Ad cy σ μ) H) [.ref (Ad 0)] (AS 8 Ad) (PWi (wM Ad cy) D Q) := by
  refine Ct.of (by decide) (Nat.le_of_ble_eq_true rfl) ?_
  intro p e s m below meth c ls C hP hl
  have hl : lv_has ls 1 [(0, .ref (Ad 0))] := hl
  have hS : va_S (AS 8 Ad) s.heap s.heap [] := va_S.rf
  have hx := C.1
  have hb := C.2.1
  refine lv_aload_n hx hb dX6_goes_0 rfl (lv_at hl 0 rfl) ?_
  refine gM_model_x C hP (C.2.2.2.2.2.2.1 _ wq_924) dX6_goes_1 ?_
  refine lv_bipush (v := 8) hx hb dX6_goes_4 (by decide) ?_
  refine lv_dup2_11 hx hb dX6_goes_6 rfl rfl ?_
  refine lcM_0 C hP tc_8 vi_8_810 dX6_goes_7 ?_
  refine lv_iconst (v := 1) hx hb dX6_goes_8 (by decide) ?_
  refine lv_iadd hx hb dX6_goes_9 ?_
  refine scM_0 C hap (fun _ h => h) hP hS tc_8 vi_8_810 dX6_goes_10 (fun H locs hP hS => ?_)
  obtain ⟨μ10, e10⟩ : ∃ z : Ar, z = updA μ 0 (upd (μ 0) 8 ((μ 0 8) + (1 : Int32))) := ⟨_, rfl⟩
  have hP : va_P D vwCl (wM Ad cy σ μ10) H := by rw [e10]; exact hP
  have h := h μ10 e10
  refine lv_aload_n hx hb dX6_goes_11 rfl (lv_at hl 0 rfl) ?_
  refine gM_model_x C hP (C.2.2.2.2.2.2.1 _ wq_924) dX6_goes_12 ?_
  refine lv_iconst (v := 4) hx hb dX6_goes_15 (by decide) ?_
  refine lcM_0 C hP tc_4 vi_4_810 dX6_goes_16 ?_
  refine lv_if_ne (tgt := 22) hx hb dX6_goes_17 (by decide) (fun hc => ?_) (fun hc => ?_)
  · have h := h.1 hc
    refine lv_aload_n hx hb dX6_goes_22 rfl (lv_at hl 0 rfl) ?_
    refine gM_model_x C hP (C.2.2.2.2.2.2.1 _ wq_924) dX6_goes_23 ?_
    refine lv_iconst (v := 4) hx hb dX6_goes_26 (by decide) ?_
    refine lv_dup2_11 hx hb dX6_goes_27 rfl rfl ?_
    refine lcM_0 C hP tc_4 vi_4_810 dX6_goes_28 ?_
    refine lv_iconst (v := 1) hx hb dX6_goes_29 (by decide) ?_
    refine lv_isub hx hb dX6_goes_30 ?_
    refine scM_0 C hap (fun _ h => h) hP hS tc_4 vi_4_810 dX6_goes_31 (fun H locs hP hS => ?_)
    obtain ⟨μ31, e31⟩ : ∃ z : Ar, z = updA μ10 0 (upd (μ10 0) 4 ((μ10 0 4) - (1 : Int32))) := ⟨_, rfl⟩
    have hP : va_P D vwCl (wM Ad cy σ μ31) H := by rw [e31]; exact hP
    have h := h μ31 e31
    refine lv_aload_n hx hb dX6_goes_32 rfl (lv_at hl 0 rfl) ?_
    refine gM_model_x C hP (C.2.2.2.2.2.2.1 _ wq_924) dX6_goes_33 ?_
    refine lv_iconst (v := 4) hx hb dX6_goes_36 (by decide) ?_
    refine lcM_0 C hP tc_4 vi_4_810 dX6_goes_37 ?_
    refine lv_if_le (tgt := 43) hx hb dX6_goes_38 (by decide) (fun hc => ?_) (fun hc => ?_)
    · have h := h.1 hc
      refine lv_aload_n hx hb dX6_goes_43 rfl (lv_at hl 0 rfl) ?_
      refine gM_model_x C hP (C.2.2.2.2.2.2.1 _ wq_924) dX6_goes_44 ?_
      refine lv_bipush (v := 6) hx hb dX6_goes_47 (by decide) ?_
      refine lv_dup2_11 hx hb dX6_goes_49 rfl rfl ?_
      refine lcM_0 C hP tc_6 vi_6_810 dX6_goes_50 ?_
      refine lv_iconst (v := 1) hx hb dX6_goes_51 (by decide) ?_
      refine lv_iadd hx hb dX6_goes_52 ?_
      refine scM_0 C hap (fun _ h => h) hP hS tc_6 vi_6_810 dX6_goes_53 (fun H locs hP hS => ?_)
      obtain ⟨μ53, e53⟩ : ∃ z : Ar, z = updA μ31 0 (upd (μ31 0) 6 ((μ31 0 6) + (1 : Int32))) := ⟨_, rfl⟩
      have hP : va_P D vwCl (wM Ad cy σ μ53) H := by rw [e53]; exact hP
      have h := h μ53 e53
      refine lv_aload_n hx hb dX6_goes_54 rfl (lv_at hl 0 rfl) ?_
      refine gM_model_x C hP (C.2.2.2.2.2.2.1 _ wq_924) dX6_goes_55 ?_
      refine lv_iconst (v := 2) hx hb dX6_goes_58 (by decide) ?_
      refine lv_iconst (v := 0) hx hb dX6_goes_59 (by decide) ?_
      refine scM_0 C hap (fun _ h => h) hP hS tc_2 vi_2_810 dX6_goes_60 (fun H locs hP hS => ?_)
      obtain ⟨μ60, e60⟩ : ∃ z : Ar, z = updA μ53 0 (upd (μ53 0) 2 (0 : Int32)) := ⟨_, rfl⟩
      have hP : va_P D vwCl (wM Ad cy σ μ60) H := by rw [e60]; exact hP
      have h := h μ60 e60
      refine lv_aload_n hx hb dX6_goes_61 rfl (lv_at hl 0 rfl) ?_
      refine gM_model_x C hP (C.2.2.2.2.2.2.1 _ wq_924) dX6_goes_62 ?_
      refine lv_bipush (v := 10) hx hb dX6_goes_65 (by decide) ?_
      refine lv_iconst (v := 0) hx hb dX6_goes_67 (by decide) ?_
      refine scM_0 C hap (fun _ h => h) hP hS tc_10 vi_10_810 dX6_goes_68 (fun H locs hP hS => ?_)
      obtain ⟨μ68, e68⟩ : ∃ z : Ar, z = updA μ60 0 (upd (μ60 0) 10 (0 : Int32)) := ⟨_, rfl⟩
      have hP : va_P D vwCl (wM Ad cy σ μ68) H := by rw [e68]; exact hP
      have h := h μ68 e68
      refine lv_aload_n hx hb dX6_goes_69 rfl (lv_at hl 0 rfl) ?_
      refine lv_iconst (v := 1) hx hb dX6_goes_70 (by decide) ?_
      refine pM_model_isGone C hap (fun _ h => h) hP hS bz1 (C.2.2.2.2.2.2.1 _ wq_927) dX6_goes_71 (fun H locs hP hS => ?_)
      obtain ⟨σ71, e71⟩ : ∃ z : Rg, z = upd σ 1 (1 : Int32) := ⟨_, rfl⟩
      have hP : va_P D vwCl (wM Ad cy σ71 μ68) H := by rw [e71]; exact hP
      have h := h σ71 e71
      refine lv_iconst (v := 1) hx hb dX6_goes_74 (by decide) ?_
      exact endZ C hS bz1 ⟨_, _, _, rfl, h, hP⟩ dX6_goes_75
    · have h := h.2 hc
      refine lv_iconst (v := 0) hx hb dX6_goes_41 (by decide) ?_
      exact endZ C hS bz0 ⟨_, _, _, rfl, h, hP⟩ dX6_goes_42
  · have h := h.2 hc
    refine lv_iconst (v := 0) hx hb dX6_goes_20 (by decide) ?_
    exact endZ C hS bz0 ⟨_, _, _, rfl, h, hP⟩ dX6_goes_21
abbrev rmX6_writes : Room := { frames := 1, cells := 0, slots := 0, locals := 20 }
def wb_X6_writes_44 (Q : Rg → Ar → Prop) (σ : Rg) (μ : Ar) (v1 : Int32) (v2 : Int32) (t0 : Int32) : Prop := (vp_in (((42 : Int32) + ((128 : Int32) * v1)) + v2) 810) ∧ ((vp_in (((42 : Int32) + ((128 : Int32) * v1)) + v2) 810) ∧ (∀ μ65 : Ar, μ65 = updA μ 0 (upd (μ 0) ((((42 : Int32) + ((128 : Int32) * v1)) + v2)).toNatClampNeg ((μ 0 ((((42 : Int32) + ((128 : Int32) * v1)) + v2)).toNatClampNeg) &&& t0)) → (Q σ μ65)))
set_option maxHeartbeats 4000000 in
set_option maxRecDepth 100000 in
theorem wk_X6_writes_44 {p : Program} {l : Launch} {e : Env} {s : State} {m : MethodId} {args : Array Value} {below : List Frame} {meth : Method} {c : Code} {D : va_G} {cy : ClassId} {Ad : Nat → Nat} (C : Cx p s m args meth c RX6 cX6_writes 5 (none : Option FieldType) D [(cy, .int)]) (hap : apt 8 Ad) {Q : Rg → Ar → Prop} {σ : Rg} {μ : Ar} {v1 : Int32} {v2 : Int32} {t0 : Int32} {H : Heap} {locs : List Loc} {ls : Array Slot} (h : wb_X6_writes_44 Q σ μ v1 v2 t0) (hP : va_P D vwCl (wM Ad cy σ μ) H) (hS : va_S (AS 8 Ad) s.heap H locs) (hl : lv_has ls 5 [(0, .ref (Ad 0)), (1, .int v1), (2, .int v2)]) : W p l e rmX6_writes s m args below meth c H locs 0 0 (MQ below (Qcg (PWv (wM Ad cy) D Q) (AS 8 Ad)) args s 0 0 (AS 8 Ad)) (F0 m 44 ls [.int t0]) := by
  have hx := C.1
  have hb := C.2.1
  refine lv_istore (lv' := [(4, .int t0), (0, .ref (Ad 0)), (1, .int v1), (2, .int v2)]) hx hb dX6_writes_44 hl (by decide) rfl (fun ls hl => ?_)
  refine lv_aload_n hx hb dX6_writes_46 rfl (lv_at hl 1 rfl) ?_
  refine gM_model_x C hP (C.2.2.2.2.2.2.1 _ wq_924) dX6_writes_47 ?_
  refine lv_bipush (v := 42) hx hb dX6_writes_50 (by decide) ?_
  refine lv_sipush (v := 128) hx hb dX6_writes_52 (by decide) ?_
  refine lv_iload_n hx hb dX6_writes_55 rfl (lv_at hl 2 rfl) ?_
  refine lv_imul hx hb dX6_writes_56 ?_
  refine lv_iadd hx hb dX6_writes_57 ?_
  refine lv_iload_n hx hb dX6_writes_58 rfl (lv_at hl 3 rfl) ?_
  refine lv_iadd hx hb dX6_writes_59 ?_
  refine lv_dup2_11 hx hb dX6_writes_60 rfl rfl ?_
  obtain ⟨hc, h⟩ := h
  refine lM_0 C hP hc dX6_writes_61 ?_
  refine lv_iload hx hb dX6_writes_62 (lv_at hl 0 rfl) ?_
  refine lv_iand hx hb dX6_writes_64 ?_
  obtain ⟨hc, h⟩ := h
  refine sM_0 C hap (fun _ h => h) hP hS hc dX6_writes_65 (fun H locs hP hS => ?_)
  obtain ⟨μ65, e65⟩ : ∃ z : Ar, z = updA μ 0 (upd (μ 0) ((((42 : Int32) + ((128 : Int32) * v1)) + v2)).toNatClampNeg ((μ 0 ((((42 : Int32) + ((128 : Int32) * v1)) + v2)).toNatClampNeg) &&& t0)) := ⟨_, rfl⟩
  have hP : va_P D vwCl (wM Ad cy σ μ65) H := by rw [e65]; exact hP
  have h := h μ65 e65
  exact endV C hS ⟨_, _, rfl, h, hP⟩ dX6_writes_66
def wp_X6_writes (σ : Rg) (μ : Ar) (x1 : Int32) (x2 : Int32) (x3 : Int32) (Q : Rg → Ar → Prop) : Prop := (((σ 1) = 0 → ∀ μ18 : Ar, μ18 = updA μ 0 (upd (μ 0) 9 ((μ 0 9) + (1 : Int32))) → (wp_X6_goes σ μ18  (fun r20 σ20 μ20 => ((r20 = 0 → wb_X6_writes_44 Q σ20 μ20 x1 x2 x3) ∧ (¬ r20 = 0 → wb_X6_writes_44 Q σ20 μ20 x1 x2 (x3 ||| ((255 : Int32) &&& ((μ20 0 5) ^^^ (-1 : Int32))))))))) ∧ (¬ (σ 1) = 0 → Q σ μ))
set_option maxHeartbeats 4000000 in
set_option maxRecDepth 100000 in
theorem ct_X6_writes (l : Launch) (D : va_G) (cy : ClassId) (Ad : Nat → Nat) (hap : apt 8 Ad) {σ : Rg} {μ : Ar} {x1 : Int32} {x2 : Int32} {x3 : Int32} {Q : Rg → Ar → Prop} (h : wp_X6_writes σ μ x1 x2 x3 Q) : Ct l yX6_writes cX6_writes 5 (none : Option FieldType) rmX6_writes D [(cy, .int)] (fun H => va_P D vwCl (wM Ad cy σ μ) H) [.ref (Ad 0), .int x1, .int x2, .int x3] (AS 8 Ad) (PWv (wM Ad cy) D Q) := by
  refine Ct.of (by decide) (Nat.le_of_ble_eq_true rfl) ?_
  intro p e s m below meth c ls C hP hl
  have hl : lv_has ls 5 [(0, .ref (Ad 0)), (1, .int x1), (2, .int x2), (3, .int x3)] := hl
  have hS : va_S (AS 8 Ad) s.heap s.heap [] := va_S.rf
  have hx := C.1
  have hb := C.2.1
  refine lv_aload_n hx hb dX6_writes_0 rfl (lv_at hl 0 rfl) ?_
  refine gM_model_isGone C hP (C.2.2.2.2.2.2.1 _ wq_927) dX6_writes_1 ?_
  refine lv_if_eq (tgt := 8) hx hb dX6_writes_4 (by decide) (fun hc => ?_) (fun hc => ?_)
  · have h := h.1 hc
    refine lv_aload_n hx hb dX6_writes_8 rfl (lv_at hl 0 rfl) ?_
    refine gM_model_x C hP (C.2.2.2.2.2.2.1 _ wq_924) dX6_writes_9 ?_
    refine lv_bipush (v := 9) hx hb dX6_writes_12 (by decide) ?_
    refine lv_dup2_11 hx hb dX6_writes_14 rfl rfl ?_
    refine lcM_0 C hP tc_9 vi_9_810 dX6_writes_15 ?_
    refine lv_iconst (v := 1) hx hb dX6_writes_16 (by decide) ?_
    refine lv_iadd hx hb dX6_writes_17 ?_
    refine scM_0 C hap (fun _ h => h) hP hS tc_9 vi_9_810 dX6_writes_18 (fun H locs hP hS => ?_)
    obtain ⟨μ18, e18⟩ : ∃ z : Ar, z = updA μ 0 (upd (μ 0) 9 ((μ 0 9) + (1 : Int32))) := ⟨_, rfl⟩
    have hP : va_P D vwCl (wM Ad cy σ μ18) H := by rw [e18]; exact hP
    have h := h μ18 e18
    refine lv_aload_n hx hb dX6_writes_19 rfl (lv_at hl 0 rfl) ?_
    refine kWi (rnV C (ct_X6_goes l D cy Ad hap h) yv_X6_goes wq_1020 ⟨rfl, rfl⟩ ⟨Nat.le_of_ble_eq_true rfl, Nat.le_of_ble_eq_true rfl⟩ ⟨Nat.zero_le _, Nat.zero_le _⟩ (vM_model C hP) hP hl.1 rfl rfl (Nat.le_of_ble_eq_true rfl) dX6_writes_20) hS (fun _ h => h) (fun r20 σ20 μ20 H locs h hP hk hS => ?_)
    refine lv_if_eq (tgt := 43) hx hb dX6_writes_23 (by decide) (fun hc => ?_) (fun hc => ?_)
    · have h := h.1 hc
      refine lv_iload_n hx hb dX6_writes_43 rfl (lv_at hl 3 rfl) ?_
      exact wk_X6_writes_44 C hap h hP hS (lv_sub hl [0, 1, 2] rfl)
    · have h := h.2 hc
      refine lv_iload_n hx hb dX6_writes_26 rfl (lv_at hl 3 rfl) ?_
      refine lv_sipush (v := 255) hx hb dX6_writes_27 (by decide) ?_
      refine lv_aload_n hx hb dX6_writes_30 rfl (lv_at hl 0 rfl) ?_
      refine gM_model_x C hP (C.2.2.2.2.2.2.1 _ wq_924) dX6_writes_31 ?_
      refine lv_iconst (v := 5) hx hb dX6_writes_34 (by decide) ?_
      refine lcM_0 C hP tc_5 vi_5_810 dX6_writes_35 ?_
      refine lv_iconst (v := -1) hx hb dX6_writes_36 (by decide) ?_
      refine lv_ixor hx hb dX6_writes_37 ?_
      refine lv_iand hx hb dX6_writes_38 ?_
      refine lv_ior hx hb dX6_writes_39 ?_
      refine lv_goto (tgt := 44) hx hb dX6_writes_40 (by decide) ?_
      exact wk_X6_writes_44 C hap h hP hS (lv_sub hl [0, 1, 2] rfl)
  · have h := h.2 hc
    exact endV C hS ⟨_, _, rfl, h, hP⟩ dX6_writes_7
abbrev rmX6_erases : Room := { frames := 1, cells := 0, slots := 0, locals := 20 }
def wb_X6_erases_48 (Q : Rg → Ar → Prop) (k48 : Rg → Ar → Int32 → Int32 → Int32 → Prop) (σ : Rg) (μ : Ar) (v1 : Int32) (v2 : Int32) (v3 : Int32) : Prop := ((v2 ≤ v3 → Q σ μ) ∧ (¬ v2 ≤ v3 → (vp_in (((42 : Int32) + ((128 : Int32) * v1)) + v3) 810) ∧ (∀ μ70 : Ar, μ70 = updA μ 0 (upd (μ 0) ((((42 : Int32) + ((128 : Int32) * v1)) + v3)).toNatClampNeg (255 : Int32)) → (∀ y71 : Int32, y71 = v3 + (1 : Int32) → (k48 σ μ70 v1 v2 y71)))))
set_option maxHeartbeats 4000000 in
set_option maxRecDepth 100000 in
theorem wk_X6_erases_48 {p : Program} {l : Launch} {e : Env} {s : State} {m : MethodId} {args : Array Value} {below : List Frame} {meth : Method} {c : Code} {D : va_G} {cy : ClassId} {Ad : Nat → Nat} (C : Cx p s m args meth c RX6 cX6_erases 4 (none : Option FieldType) D [(cy, .int)]) (hap : apt 8 Ad) {Q : Rg → Ar → Prop} {k48 : Rg → Ar → Int32 → Int32 → Int32 → Prop} (hk48 : ∀ {σ : Rg} {μ : Ar} {v1 : Int32} {v2 : Int32} {v3 : Int32} {H : Heap} {locs : List Loc} {ls : Array Slot}, k48 σ μ v1 v2 v3 → va_P D vwCl (wM Ad cy σ μ) H → va_S (AS 8 Ad) s.heap H locs → lv_has ls 4 [(0, .ref (Ad 0)), (1, .int v1), (2, .int v2), (3, .int v3)] → W p l e rmX6_erases s m args below meth c H locs 0 0 (MQ below (Qcg (PWv (wM Ad cy) D Q) (AS 8 Ad)) args s 0 0 (AS 8 Ad)) (F0 m 48 ls [])) {σ : Rg} {μ : Ar} {v1 : Int32} {v2 : Int32} {v3 : Int32} {H : Heap} {locs : List Loc} {ls : Array Slot} (h : wb_X6_erases_48 Q k48 σ μ v1 v2 v3) (hP : va_P D vwCl (wM Ad cy σ μ) H) (hS : va_S (AS 8 Ad) s.heap H locs) (hl : lv_has ls 4 [(0, .ref (Ad 0)), (1, .int v1), (2, .int v2), (3, .int v3)]) : W p l e rmX6_erases s m args below meth c H locs 0 0 (MQ below (Qcg (PWv (wM Ad cy) D Q) (AS 8 Ad)) args s 0 0 (AS 8 Ad)) (F0 m 48 ls []) := by
  have hx := C.1
  have hb := C.2.1
  refine lv_iload_n hx hb dX6_erases_48 rfl (lv_at hl 3 rfl) ?_
  refine lv_iload_n hx hb dX6_erases_49 rfl (lv_at hl 2 rfl) ?_
  refine lv_icmp_ge (tgt := 77) hx hb dX6_erases_50 (by decide) (fun hc => ?_) (fun hc => ?_)
  · have h := h.1 hc
    exact endV C hS ⟨_, _, rfl, h, hP⟩ dX6_erases_77
  · have h := h.2 hc
    refine lv_aload_n hx hb dX6_erases_53 rfl (lv_at hl 0 rfl) ?_
    refine gM_model_x C hP (C.2.2.2.2.2.2.1 _ wq_924) dX6_erases_54 ?_
    refine lv_bipush (v := 42) hx hb dX6_erases_57 (by decide) ?_
    refine lv_sipush (v := 128) hx hb dX6_erases_59 (by decide) ?_
    refine lv_iload_n hx hb dX6_erases_62 rfl (lv_at hl 1 rfl) ?_
    refine lv_imul hx hb dX6_erases_63 ?_
    refine lv_iadd hx hb dX6_erases_64 ?_
    refine lv_iload_n hx hb dX6_erases_65 rfl (lv_at hl 3 rfl) ?_
    refine lv_iadd hx hb dX6_erases_66 ?_
    refine lv_sipush (v := 255) hx hb dX6_erases_67 (by decide) ?_
    obtain ⟨hc, h⟩ := h
    refine sM_0 C hap (fun _ h => h) hP hS hc dX6_erases_70 (fun H locs hP hS => ?_)
    obtain ⟨μ70, e70⟩ : ∃ z : Ar, z = updA μ 0 (upd (μ 0) ((((42 : Int32) + ((128 : Int32) * v1)) + v3)).toNatClampNeg (255 : Int32)) := ⟨_, rfl⟩
    have hP : va_P D vwCl (wM Ad cy σ μ70) H := by rw [e70]; exact hP
    have h := h μ70 e70
    obtain ⟨y71, e71⟩ : ∃ y : Int32, y = v3 + (1 : Int32) := ⟨_, rfl⟩
    have h := h y71 e71
    refine lv_iinc (v := y71) (lv' := [(3, .int y71), (0, .ref (Ad 0)), (1, .int v1), (2, .int v2)]) hx hb dX6_erases_71 hl (k := 3) rfl (by rw [e71]; rfl) (by decide) rfl (fun ls hl => ?_)
    refine lv_goto (tgt := 48) hx hb dX6_erases_74 (by decide) ?_
    exact hk48 h hP hS (lv_sub hl [1, 2, 3, 0] rfl)
def wl_X6_erases_48 (Q : Rg → Ar → Prop) (n : Nat) : Rg → Ar → Int32 → Int32 → Int32 → Prop := Nat.rec (motive := fun _ => Rg → Ar → Int32 → Int32 → Int32 → Prop) (fun _ _ _ _ _ => False) (fun _ k => wb_X6_erases_48 Q k) n
set_option maxHeartbeats 4000000 in
theorem wkl_X6_erases_48 {p : Program} {l : Launch} {e : Env} {s : State} {m : MethodId} {args : Array Value} {below : List Frame} {meth : Method} {c : Code} {D : va_G} {cy : ClassId} {Ad : Nat → Nat} (C : Cx p s m args meth c RX6 cX6_erases 4 (none : Option FieldType) D [(cy, .int)]) (hap : apt 8 Ad) {Q : Rg → Ar → Prop}  : ∀ (n : Nat) {σ : Rg} {μ : Ar} {v1 : Int32} {v2 : Int32} {v3 : Int32} {H : Heap} {locs : List Loc} {ls : Array Slot} (h : wl_X6_erases_48 Q  n σ μ v1 v2 v3) (hP : va_P D vwCl (wM Ad cy σ μ) H) (hS : va_S (AS 8 Ad) s.heap H locs) (hl : lv_has ls 4 [(0, .ref (Ad 0)), (1, .int v1), (2, .int v2), (3, .int v3)]), W p l e rmX6_erases s m args below meth c H locs 0 0 (MQ below (Qcg (PWv (wM Ad cy) D Q) (AS 8 Ad)) args s 0 0 (AS 8 Ad)) (F0 m 48 ls []) := by
  intro n
  induction n with
  | zero => intro σ μ v1 v2 v3 H locs ls h; exact h.elim
  | succ n ih =>
    intro σ μ v1 v2 v3 H locs ls h hP hS hl
    exact wk_X6_erases_48 C hap (fun h hP hS hl => ih h hP hS hl) h hP hS hl
def wb_X6_erases_45 (Q : Rg → Ar → Prop) (σ : Rg) (μ : Ar) (v1 : Int32) (t0 : Int32) : Prop := ∃ n, wl_X6_erases_48 Q n σ μ v1 t0 (0 : Int32)
set_option maxHeartbeats 4000000 in
set_option maxRecDepth 100000 in
theorem wk_X6_erases_45 {p : Program} {l : Launch} {e : Env} {s : State} {m : MethodId} {args : Array Value} {below : List Frame} {meth : Method} {c : Code} {D : va_G} {cy : ClassId} {Ad : Nat → Nat} (C : Cx p s m args meth c RX6 cX6_erases 4 (none : Option FieldType) D [(cy, .int)]) (hap : apt 8 Ad) {Q : Rg → Ar → Prop} {σ : Rg} {μ : Ar} {v1 : Int32} {t0 : Int32} {H : Heap} {locs : List Loc} {ls : Array Slot} (h : wb_X6_erases_45 Q σ μ v1 t0) (hP : va_P D vwCl (wM Ad cy σ μ) H) (hS : va_S (AS 8 Ad) s.heap H locs) (hl : lv_has ls 4 [(0, .ref (Ad 0)), (1, .int v1)]) : W p l e rmX6_erases s m args below meth c H locs 0 0 (MQ below (Qcg (PWv (wM Ad cy) D Q) (AS 8 Ad)) args s 0 0 (AS 8 Ad)) (F0 m 45 ls [.int t0]) := by
  have hx := C.1
  have hb := C.2.1
  refine lv_istore_n (lv' := [(2, .int t0), (0, .ref (Ad 0)), (1, .int v1)]) hx hb dX6_erases_45 rfl hl (by decide) rfl (fun ls hl => ?_)
  refine lv_iconst (v := 0) hx hb dX6_erases_46 (by decide) ?_
  refine lv_istore_n (lv' := [(3, .int (0 : Int32)), (2, .int t0), (0, .ref (Ad 0)), (1, .int v1)]) hx hb dX6_erases_47 rfl hl (by decide) rfl (fun ls hl => ?_)
  obtain ⟨n, h⟩ := h
  exact wkl_X6_erases_48 C hap n h hP hS (lv_sub hl [2, 3, 1, 0] rfl)
def wp_X6_erases (σ : Rg) (μ : Ar) (x1 : Int32) (Q : Rg → Ar → Prop) : Prop := (((σ 1) = 0 → (vp_in ((36 : Int32) + x1) 810) ∧ ((vp_in ((36 : Int32) + x1) 810) ∧ (∀ μ20 : Ar, μ20 = updA μ 0 (upd (μ 0) (((36 : Int32) + x1)).toNatClampNeg ((μ 0 (((36 : Int32) + x1)).toNatClampNeg) + (1 : Int32))) → (wp_X6_goes σ μ20  (fun r22 σ22 μ22 => ((r22 = 0 → wb_X6_erases_45 Q σ22 μ22 x1 (μ22 0 1)) ∧ (¬ r22 = 0 → wb_X6_erases_45 Q σ22 μ22 x1 ((μ22 0 1) / (2 : Int32))))))))) ∧ (¬ (σ 1) = 0 → Q σ μ))
set_option maxHeartbeats 4000000 in
set_option maxRecDepth 100000 in
theorem ct_X6_erases (l : Launch) (D : va_G) (cy : ClassId) (Ad : Nat → Nat) (hap : apt 8 Ad) {σ : Rg} {μ : Ar} {x1 : Int32} {Q : Rg → Ar → Prop} (h : wp_X6_erases σ μ x1 Q) : Ct l yX6_erases cX6_erases 4 (none : Option FieldType) rmX6_erases D [(cy, .int)] (fun H => va_P D vwCl (wM Ad cy σ μ) H) [.ref (Ad 0), .int x1] (AS 8 Ad) (PWv (wM Ad cy) D Q) := by
  refine Ct.of (by decide) (Nat.le_of_ble_eq_true rfl) ?_
  intro p e s m below meth c ls C hP hl
  have hl : lv_has ls 4 [(0, .ref (Ad 0)), (1, .int x1)] := hl
  have hS : va_S (AS 8 Ad) s.heap s.heap [] := va_S.rf
  have hx := C.1
  have hb := C.2.1
  refine lv_aload_n hx hb dX6_erases_0 rfl (lv_at hl 0 rfl) ?_
  refine gM_model_isGone C hP (C.2.2.2.2.2.2.1 _ wq_927) dX6_erases_1 ?_
  refine lv_if_eq (tgt := 8) hx hb dX6_erases_4 (by decide) (fun hc => ?_) (fun hc => ?_)
  · have h := h.1 hc
    refine lv_aload_n hx hb dX6_erases_8 rfl (lv_at hl 0 rfl) ?_
    refine gM_model_x C hP (C.2.2.2.2.2.2.1 _ wq_924) dX6_erases_9 ?_
    refine lv_bipush (v := 36) hx hb dX6_erases_12 (by decide) ?_
    refine lv_iload_n hx hb dX6_erases_14 rfl (lv_at hl 1 rfl) ?_
    refine lv_iadd hx hb dX6_erases_15 ?_
    refine lv_dup2_11 hx hb dX6_erases_16 rfl rfl ?_
    obtain ⟨hc, h⟩ := h
    refine lM_0 C hP hc dX6_erases_17 ?_
    refine lv_iconst (v := 1) hx hb dX6_erases_18 (by decide) ?_
    refine lv_iadd hx hb dX6_erases_19 ?_
    obtain ⟨hc, h⟩ := h
    refine sM_0 C hap (fun _ h => h) hP hS hc dX6_erases_20 (fun H locs hP hS => ?_)
    obtain ⟨μ20, e20⟩ : ∃ z : Ar, z = updA μ 0 (upd (μ 0) (((36 : Int32) + x1)).toNatClampNeg ((μ 0 (((36 : Int32) + x1)).toNatClampNeg) + (1 : Int32))) := ⟨_, rfl⟩
    have hP : va_P D vwCl (wM Ad cy σ μ20) H := by rw [e20]; exact hP
    have h := h μ20 e20
    refine lv_aload_n hx hb dX6_erases_21 rfl (lv_at hl 0 rfl) ?_
    refine kWi (rnV C (ct_X6_goes l D cy Ad hap h) yv_X6_goes wq_1020 ⟨rfl, rfl⟩ ⟨Nat.le_of_ble_eq_true rfl, Nat.le_of_ble_eq_true rfl⟩ ⟨Nat.zero_le _, Nat.zero_le _⟩ (vM_model C hP) hP hl.1 rfl rfl (Nat.le_of_ble_eq_true rfl) dX6_erases_22) hS (fun _ h => h) (fun r22 σ22 μ22 H locs h hP hk hS => ?_)
    refine lv_if_eq (tgt := 39) hx hb dX6_erases_25 (by decide) (fun hc => ?_) (fun hc => ?_)
    · have h := h.1 hc
      refine lv_aload_n hx hb dX6_erases_39 rfl (lv_at hl 0 rfl) ?_
      refine gM_model_x C hP (C.2.2.2.2.2.2.1 _ wq_924) dX6_erases_40 ?_
      refine lv_iconst (v := 1) hx hb dX6_erases_43 (by decide) ?_
      refine lcM_0 C hP tc_1 vi_1_810 dX6_erases_44 ?_
      exact wk_X6_erases_45 C hap h hP hS (lv_sub hl [0, 1] rfl)
    · have h := h.2 hc
      refine lv_aload_n hx hb dX6_erases_28 rfl (lv_at hl 0 rfl) ?_
      refine gM_model_x C hP (C.2.2.2.2.2.2.1 _ wq_924) dX6_erases_29 ?_
      refine lv_iconst (v := 1) hx hb dX6_erases_32 (by decide) ?_
      refine lcM_0 C hP tc_1 vi_1_810 dX6_erases_33 ?_
      refine lv_iconst (v := 2) hx hb dX6_erases_34 (by decide) ?_
      refine lv_idiv hx hb dX6_erases_35 (by decide) ?_
      refine lv_goto (tgt := 45) hx hb dX6_erases_36 (by decide) ?_
      exact wk_X6_erases_45 C hap h hP hS (lv_sub hl [0, 1] rfl)
  · have h := h.2 hc
    exact endV C hS ⟨_, _, rfl, h, hP⟩ dX6_erases_7
abbrev rmX6_begins : Room := { frames := 0, cells := 0, slots := 0, locals := 0 }
def wp_X6_begins (σ : Rg) (μ : Ar) (Q : Rg → Ar → Prop) : Prop := ∀ σ2 : Rg, σ2 = upd σ 1 (0 : Int32) → (∀ μ12 : Ar, μ12 = updA μ 0 (upd (μ 0) 8 (0 : Int32)) → (Q σ2 μ12))
set_option maxHeartbeats 4000000 in
set_option maxRecDepth 100000 in
theorem ct_X6_begins (l : Launch) (D : va_G) (cy : ClassId) (Ad : Nat → Nat) (hap : apt 8 Ad) {σ : Rg} {μ : Ar}  {Q : Rg → Ar → Prop} (h : wp_X6_begins σ μ  Q) : Ct l yX6_begins cX6_begins 1 (none : Option FieldType) rmX6_begins D [(cy, .int)] (fun H => va_P D vwCl (wM Ad cy σ μ) H) [.ref (Ad 0)] (AS 8 Ad) (PWv (wM Ad cy) D Q) := by
  refine Ct.of (by decide) (Nat.le_of_ble_eq_true rfl) ?_
  intro p e s m below meth c ls C hP hl
  have hl : lv_has ls 1 [(0, .ref (Ad 0))] := hl
  have hS : va_S (AS 8 Ad) s.heap s.heap [] := va_S.rf
  have hx := C.1
  have hb := C.2.1
  refine lv_aload_n hx hb dX6_begins_0 rfl (lv_at hl 0 rfl) ?_
  refine lv_iconst (v := 0) hx hb dX6_begins_1 (by decide) ?_
  refine pM_model_isGone C hap (fun _ h => h) hP hS bz0 (C.2.2.2.2.2.2.1 _ wq_927) dX6_begins_2 (fun H locs hP hS => ?_)
  obtain ⟨σ2, e2⟩ : ∃ z : Rg, z = upd σ 1 (0 : Int32) := ⟨_, rfl⟩
  have hP : va_P D vwCl (wM Ad cy σ2 μ) H := by rw [e2]; exact hP
  have h := h σ2 e2
  refine lv_aload_n hx hb dX6_begins_5 rfl (lv_at hl 0 rfl) ?_
  refine gM_model_x C hP (C.2.2.2.2.2.2.1 _ wq_924) dX6_begins_6 ?_
  refine lv_bipush (v := 8) hx hb dX6_begins_9 (by decide) ?_
  refine lv_iconst (v := 0) hx hb dX6_begins_11 (by decide) ?_
  refine scM_0 C hap (fun _ h => h) hP hS tc_8 vi_8_810 dX6_begins_12 (fun H locs hP hS => ?_)
  obtain ⟨μ12, e12⟩ : ∃ z : Ar, z = updA μ 0 (upd (μ 0) 8 (0 : Int32)) := ⟨_, rfl⟩
  have hP : va_P D vwCl (wM Ad cy σ2 μ12) H := by rw [e12]; exact hP
  have h := h μ12 e12
  exact endV C hS ⟨_, _, rfl, h, hP⟩ dX6_begins_13
abbrev rmX6_told : Room := { frames := 0, cells := 0, slots := 0, locals := 0 }
def wb_X6_told_19 (Q : Int32 → Rg → Ar → Prop) (σ : Rg) (μ : Ar) (t0 : Int32) : Prop := Q t0 σ μ
set_option maxHeartbeats 4000000 in
set_option maxRecDepth 100000 in
theorem wk_X6_told_19 {p : Program} {l : Launch} {e : Env} {s : State} {m : MethodId} {args : Array Value} {below : List Frame} {meth : Method} {c : Code} {D : va_G} {cy : ClassId} {Ad : Nat → Nat} (C : Cx p s m args meth c RX6 cX6_told 1 (some FieldType.int) D [(cy, .int)]) (hap : apt 8 Ad) {Q : Int32 → Rg → Ar → Prop} {σ : Rg} {μ : Ar} {t0 : Int32} {H : Heap} {locs : List Loc} {ls : Array Slot} (h : wb_X6_told_19 Q σ μ t0) (hP : va_P D vwCl (wM Ad cy σ μ) H) (hS : va_S (AS 8 Ad) s.heap H locs) (hl : lv_has ls 1 []) : W p l e rmX6_told s m args below meth c H locs 0 0 (MQ below (Qcg (PWi (wM Ad cy) D Q) (AS 8 Ad)) args s 0 0 (AS 8 Ad)) (F0 m 19 ls [.int t0]) := by
  have hx := C.1
  have hb := C.2.1
  exact endI C hS ⟨_, _, _, rfl, h, hP⟩ dX6_told_19
def wp_X6_told (σ : Rg) (μ : Ar) (Q : Int32 → Rg → Ar → Prop) : Prop := (((σ 1) = 0 → wb_X6_told_19 Q σ μ (μ 0 8)) ∧ (¬ (σ 1) = 0 → wb_X6_told_19 Q σ μ (-3 : Int32)))
set_option maxHeartbeats 4000000 in
set_option maxRecDepth 100000 in
theorem ct_X6_told (l : Launch) (D : va_G) (cy : ClassId) (Ad : Nat → Nat) (hap : apt 8 Ad) {σ : Rg} {μ : Ar}  {Q : Int32 → Rg → Ar → Prop} (h : wp_X6_told σ μ  Q) : Ct l yX6_told cX6_told 1 (some FieldType.int) rmX6_told D [(cy, .int)] (fun H => va_P D vwCl (wM Ad cy σ μ) H) [.ref (Ad 0)] (AS 8 Ad) (PWi (wM Ad cy) D Q) := by
  refine Ct.of (by decide) (Nat.le_of_ble_eq_true rfl) ?_
  intro p e s m below meth c ls C hP hl
  have hl : lv_has ls 1 [(0, .ref (Ad 0))] := hl
  have hS : va_S (AS 8 Ad) s.heap s.heap [] := va_S.rf
  have hx := C.1
  have hb := C.2.1
  refine lv_aload_n hx hb dX6_told_0 rfl (lv_at hl 0 rfl) ?_
  refine gM_model_isGone C hP (C.2.2.2.2.2.2.1 _ wq_927) dX6_told_1 ?_
  refine lv_if_eq (tgt := 12) hx hb dX6_told_4 (by decide) (fun hc => ?_) (fun hc => ?_)
  · have h := h.1 hc
    refine lv_aload_n hx hb dX6_told_12 rfl (lv_at hl 0 rfl) ?_
    refine gM_model_x C hP (C.2.2.2.2.2.2.1 _ wq_924) dX6_told_13 ?_
    refine lv_bipush (v := 8) hx hb dX6_told_16 (by decide) ?_
    refine lcM_0 C hP tc_8 vi_8_810 dX6_told_18 ?_
    exact wk_X6_told_19 C hap h hP hS (lv_sub hl [] rfl)
  · have h := h.2 hc
    refine lv_bipush (v := -3) hx hb dX6_told_7 (by decide) ?_
    refine lv_goto (tgt := 19) hx hb dX6_told_9 (by decide) ?_
    exact wk_X6_told_19 C hap h hP hS (lv_sub hl [] rfl)
abbrev rmX6_isBlank : Room := { frames := 1, cells := 0, slots := 0, locals := 22 }
def wb_X6_isBlank_2 (Q : Int32 → Rg → Ar → Prop) (k2 : Rg → Ar → Int32 → Int32 → Prop) (σ : Rg) (μ : Ar) (v1 : Int32) (v3 : Int32) : Prop := (((μ 0 1) ≤ v3 → Q (1 : Int32) σ μ) ∧ (¬ (μ 0 1) ≤ v3 → wp_X6_byteAt σ μ v1 v3 (fun r15 σ15 μ15 => ((r15 = (255 : Int32) → ∀ y26 : Int32, y26 = v3 + (1 : Int32) → (k2 σ15 μ15 v1 y26)) ∧ (¬ r15 = (255 : Int32) → Q (0 : Int32) σ15 μ15)))))
set_option maxHeartbeats 4000000 in
set_option maxRecDepth 100000 in
theorem wk_X6_isBlank_2 {p : Program} {l : Launch} {e : Env} {s : State} {m : MethodId} {args : Array Value} {below : List Frame} {meth : Method} {c : Code} {D : va_G} {cy : ClassId} {Ad : Nat → Nat} (C : Cx p s m args meth c RX6 cX6_isBlank 4 (some FieldType.boolean) D [(cy, .int)]) (hap : apt 8 Ad) {Q : Int32 → Rg → Ar → Prop} {k2 : Rg → Ar → Int32 → Int32 → Prop} (hk2 : ∀ {σ : Rg} {μ : Ar} {v1 : Int32} {v3 : Int32} {H : Heap} {locs : List Loc} {ls : Array Slot}, k2 σ μ v1 v3 → va_P D vwCl (wM Ad cy σ μ) H → va_S (AS 8 Ad) s.heap H locs → lv_has ls 4 [(0, .ref (Ad 0)), (1, .int v1), (3, .int v3)] → W p l e rmX6_isBlank s m args below meth c H locs 0 0 (MQ below (Qcg (PWi (wM Ad cy) D Q) (AS 8 Ad)) args s 0 0 (AS 8 Ad)) (F0 m 2 ls [])) {σ : Rg} {μ : Ar} {v1 : Int32} {v3 : Int32} {H : Heap} {locs : List Loc} {ls : Array Slot} (h : wb_X6_isBlank_2 Q k2 σ μ v1 v3) (hP : va_P D vwCl (wM Ad cy σ μ) H) (hS : va_S (AS 8 Ad) s.heap H locs) (hl : lv_has ls 4 [(0, .ref (Ad 0)), (1, .int v1), (3, .int v3)]) : W p l e rmX6_isBlank s m args below meth c H locs 0 0 (MQ below (Qcg (PWi (wM Ad cy) D Q) (AS 8 Ad)) args s 0 0 (AS 8 Ad)) (F0 m 2 ls []) := by
  have hx := C.1
  have hb := C.2.1
  refine lv_iload_n hx hb dX6_isBlank_2 rfl (lv_at hl 2 rfl) ?_
  refine lv_aload_n hx hb dX6_isBlank_3 rfl (lv_at hl 0 rfl) ?_
  refine gM_model_x C hP (C.2.2.2.2.2.2.1 _ wq_924) dX6_isBlank_4 ?_
  refine lv_iconst (v := 1) hx hb dX6_isBlank_7 (by decide) ?_
  refine lcM_0 C hP tc_1 vi_1_810 dX6_isBlank_8 ?_
  refine lv_icmp_ge (tgt := 32) hx hb dX6_isBlank_9 (by decide) (fun hc => ?_) (fun hc => ?_)
  · have h := h.1 hc
    refine lv_iconst (v := 1) hx hb dX6_isBlank_32 (by decide) ?_
    exact endZ C hS bz1 ⟨_, _, _, rfl, h, hP⟩ dX6_isBlank_33
  · have h := h.2 hc
    refine lv_aload_n hx hb dX6_isBlank_12 rfl (lv_at hl 0 rfl) ?_
    refine lv_iload_n hx hb dX6_isBlank_13 rfl (lv_at hl 1 rfl) ?_
    refine lv_iload_n hx hb dX6_isBlank_14 rfl (lv_at hl 2 rfl) ?_
    refine kWi (rnV C (ct_X6_byteAt l D cy Ad hap h) yv_X6_byteAt wq_997 ⟨rfl, rfl⟩ ⟨Nat.le_of_ble_eq_true rfl, Nat.le_of_ble_eq_true rfl⟩ ⟨Nat.zero_le _, Nat.zero_le _⟩ (vM_model C hP) hP hl.1 rfl rfl (Nat.le_of_ble_eq_true rfl) dX6_isBlank_15) hS (fun _ h => h) (fun r15 σ15 μ15 H locs h hP hk hS => ?_)
    refine lv_sipush (v := 255) hx hb dX6_isBlank_18 (by decide) ?_
    refine lv_icmp_eq (tgt := 26) hx hb dX6_isBlank_21 (by decide) (fun hc => ?_) (fun hc => ?_)
    · have h := h.1 hc
      obtain ⟨y26, e26⟩ : ∃ y : Int32, y = v3 + (1 : Int32) := ⟨_, rfl⟩
      have h := h y26 e26
      refine lv_iinc (v := y26) (lv' := [(3, .int y26), (0, .ref (Ad 0)), (1, .int v1)]) hx hb dX6_isBlank_26 hl (k := 2) rfl (by rw [e26]; rfl) (by decide) rfl (fun ls hl => ?_)
      refine lv_goto (tgt := 2) hx hb dX6_isBlank_29 (by decide) ?_
      exact hk2 h hP hS (lv_sub hl [1, 2, 0] rfl)
    · have h := h.2 hc
      refine lv_iconst (v := 0) hx hb dX6_isBlank_24 (by decide) ?_
      exact endZ C hS bz0 ⟨_, _, _, rfl, h, hP⟩ dX6_isBlank_25
def wl_X6_isBlank_2 (Q : Int32 → Rg → Ar → Prop) (n : Nat) : Rg → Ar → Int32 → Int32 → Prop := Nat.rec (motive := fun _ => Rg → Ar → Int32 → Int32 → Prop) (fun _ _ _ _ => False) (fun _ k => wb_X6_isBlank_2 Q k) n
set_option maxHeartbeats 4000000 in
theorem wkl_X6_isBlank_2 {p : Program} {l : Launch} {e : Env} {s : State} {m : MethodId} {args : Array Value} {below : List Frame} {meth : Method} {c : Code} {D : va_G} {cy : ClassId} {Ad : Nat → Nat} (C : Cx p s m args meth c RX6 cX6_isBlank 4 (some FieldType.boolean) D [(cy, .int)]) (hap : apt 8 Ad) {Q : Int32 → Rg → Ar → Prop}  : ∀ (n : Nat) {σ : Rg} {μ : Ar} {v1 : Int32} {v3 : Int32} {H : Heap} {locs : List Loc} {ls : Array Slot} (h : wl_X6_isBlank_2 Q  n σ μ v1 v3) (hP : va_P D vwCl (wM Ad cy σ μ) H) (hS : va_S (AS 8 Ad) s.heap H locs) (hl : lv_has ls 4 [(0, .ref (Ad 0)), (1, .int v1), (3, .int v3)]), W p l e rmX6_isBlank s m args below meth c H locs 0 0 (MQ below (Qcg (PWi (wM Ad cy) D Q) (AS 8 Ad)) args s 0 0 (AS 8 Ad)) (F0 m 2 ls []) := by
  intro n
  induction n with
  | zero => intro σ μ v1 v3 H locs ls h; exact h.elim
  | succ n ih =>
    intro σ μ v1 v3 H locs ls h hP hS hl
    exact wk_X6_isBlank_2 C hap (fun h hP hS hl => ih h hP hS hl) h hP hS hl
def wp_X6_isBlank (σ : Rg) (μ : Ar) (x1 : Int32) (x2 : Int32) (Q : Int32 → Rg → Ar → Prop) : Prop := ∃ n, wl_X6_isBlank_2 Q n σ μ x1 x2
set_option maxHeartbeats 4000000 in
set_option maxRecDepth 100000 in
theorem ct_X6_isBlank (l : Launch) (D : va_G) (cy : ClassId) (Ad : Nat → Nat) (hap : apt 8 Ad) {σ : Rg} {μ : Ar} {x1 : Int32} {x2 : Int32} {Q : Int32 → Rg → Ar → Prop} (h : wp_X6_isBlank σ μ x1 x2 Q) : Ct l yX6_isBlank cX6_isBlank 4 (some FieldType.boolean) rmX6_isBlank D [(cy, .int)] (fun H => va_P D vwCl (wM Ad cy σ μ) H) [.ref (Ad 0), .int x1, .int x2] (AS 8 Ad) (PWi (wM Ad cy) D Q) := by
  refine Ct.of (by decide) (Nat.le_of_ble_eq_true rfl) ?_
  intro p e s m below meth c ls C hP hl
  have hl : lv_has ls 4 [(0, .ref (Ad 0)), (1, .int x1), (2, .int x2)] := hl
  have hS : va_S (AS 8 Ad) s.heap s.heap [] := va_S.rf
  have hx := C.1
  have hb := C.2.1
  refine lv_iload_n hx hb dX6_isBlank_0 rfl (lv_at hl 2 rfl) ?_
  refine lv_istore_n (lv' := [(3, .int x2), (0, .ref (Ad 0)), (1, .int x1), (2, .int x2)]) hx hb dX6_isBlank_1 rfl hl (by decide) rfl (fun ls hl => ?_)
  obtain ⟨n, h⟩ := h
  exact wkl_X6_isBlank_2 C hap n h hP hS (lv_sub hl [1, 2, 0] rfl)
abbrev rmX6_sumOf : Room := { frames := 1, cells := 0, slots := 0, locals := 22 }
def wb_X6_sumOf_6 (Q : Int32 → Rg → Ar → Prop) (k6 : Rg → Ar → Int32 → Int32 → Int32 → Int32 → Int32 → Prop) (σ : Rg) (μ : Ar) (v1 : Int32) (v2 : Int32) (v3 : Int32) (v4 : Int32) (v5 : Int32) : Prop := (((v2 + v3) ≤ v5 → Q v4 σ μ) ∧ (¬ (v2 + v3) ≤ v5 → wp_X6_byteAt σ μ v1 v5 (fun r20 σ20 μ20 => ∀ y24 : Int32, y24 = (v4 + r20) → (∀ y26 : Int32, y26 = v5 + (1 : Int32) → (k6 σ20 μ20 v1 v2 v3 y24 y26)))))
set_option maxHeartbeats 4000000 in
set_option maxRecDepth 100000 in
theorem wk_X6_sumOf_6 {p : Program} {l : Launch} {e : Env} {s : State} {m : MethodId} {args : Array Value} {below : List Frame} {meth : Method} {c : Code} {D : va_G} {cy : ClassId} {Ad : Nat → Nat} (C : Cx p s m args meth c RX6 cX6_sumOf 6 (some FieldType.int) D [(cy, .int)]) (hap : apt 8 Ad) {Q : Int32 → Rg → Ar → Prop} {k6 : Rg → Ar → Int32 → Int32 → Int32 → Int32 → Int32 → Prop} (hk6 : ∀ {σ : Rg} {μ : Ar} {v1 : Int32} {v2 : Int32} {v3 : Int32} {v4 : Int32} {v5 : Int32} {H : Heap} {locs : List Loc} {ls : Array Slot}, k6 σ μ v1 v2 v3 v4 v5 → va_P D vwCl (wM Ad cy σ μ) H → va_S (AS 8 Ad) s.heap H locs → lv_has ls 6 [(0, .ref (Ad 0)), (1, .int v1), (2, .int v2), (3, .int v3), (4, .int v4), (5, .int v5)] → W p l e rmX6_sumOf s m args below meth c H locs 0 0 (MQ below (Qcg (PWi (wM Ad cy) D Q) (AS 8 Ad)) args s 0 0 (AS 8 Ad)) (F0 m 6 ls [])) {σ : Rg} {μ : Ar} {v1 : Int32} {v2 : Int32} {v3 : Int32} {v4 : Int32} {v5 : Int32} {H : Heap} {locs : List Loc} {ls : Array Slot} (h : wb_X6_sumOf_6 Q k6 σ μ v1 v2 v3 v4 v5) (hP : va_P D vwCl (wM Ad cy σ μ) H) (hS : va_S (AS 8 Ad) s.heap H locs) (hl : lv_has ls 6 [(0, .ref (Ad 0)), (1, .int v1), (2, .int v2), (3, .int v3), (4, .int v4), (5, .int v5)]) : W p l e rmX6_sumOf s m args below meth c H locs 0 0 (MQ below (Qcg (PWi (wM Ad cy) D Q) (AS 8 Ad)) args s 0 0 (AS 8 Ad)) (F0 m 6 ls []) := by
  have hx := C.1
  have hb := C.2.1
  refine lv_iload hx hb dX6_sumOf_6 (lv_at hl 5 rfl) ?_
  refine lv_iload_n hx hb dX6_sumOf_8 rfl (lv_at hl 2 rfl) ?_
  refine lv_iload_n hx hb dX6_sumOf_9 rfl (lv_at hl 3 rfl) ?_
  refine lv_iadd hx hb dX6_sumOf_10 ?_
  refine lv_icmp_ge (tgt := 32) hx hb dX6_sumOf_11 (by decide) (fun hc => ?_) (fun hc => ?_)
  · have h := h.1 hc
    refine lv_iload hx hb dX6_sumOf_32 (lv_at hl 4 rfl) ?_
    exact endI C hS ⟨_, _, _, rfl, h, hP⟩ dX6_sumOf_34
  · have h := h.2 hc
    refine lv_iload hx hb dX6_sumOf_14 (lv_at hl 4 rfl) ?_
    refine lv_aload_n hx hb dX6_sumOf_16 rfl (lv_at hl 0 rfl) ?_
    refine lv_iload_n hx hb dX6_sumOf_17 rfl (lv_at hl 1 rfl) ?_
    refine lv_iload hx hb dX6_sumOf_18 (lv_at hl 5 rfl) ?_
    refine kWi (rnV C (ct_X6_byteAt l D cy Ad hap h) yv_X6_byteAt wq_997 ⟨rfl, rfl⟩ ⟨Nat.le_of_ble_eq_true rfl, Nat.le_of_ble_eq_true rfl⟩ ⟨Nat.zero_le _, Nat.zero_le _⟩ (vM_model C hP) hP hl.1 rfl rfl (Nat.le_of_ble_eq_true rfl) dX6_sumOf_20) hS (fun _ h => h) (fun r20 σ20 μ20 H locs h hP hk hS => ?_)
    refine lv_iadd hx hb dX6_sumOf_23 ?_
    refine lv_topi (fun y24 e24 => ?_)
    have h := h y24 e24
    refine lv_istore (lv' := [(4, .int y24), (0, .ref (Ad 0)), (1, .int v1), (2, .int v2), (3, .int v3), (5, .int v5)]) hx hb dX6_sumOf_24 hl (by decide) rfl (fun ls hl => ?_)
    obtain ⟨y26, e26⟩ : ∃ y : Int32, y = v5 + (1 : Int32) := ⟨_, rfl⟩
    have h := h y26 e26
    refine lv_iinc (v := y26) (lv' := [(5, .int y26), (4, .int y24), (0, .ref (Ad 0)), (1, .int v1), (2, .int v2), (3, .int v3)]) hx hb dX6_sumOf_26 hl (k := 5) rfl (by rw [e26]; rfl) (by decide) rfl (fun ls hl => ?_)
    refine lv_goto (tgt := 6) hx hb dX6_sumOf_29 (by decide) ?_
    exact hk6 h hP hS (lv_sub hl [2, 3, 4, 5, 1, 0] rfl)
def wl_X6_sumOf_6 (Q : Int32 → Rg → Ar → Prop) (n : Nat) : Rg → Ar → Int32 → Int32 → Int32 → Int32 → Int32 → Prop := Nat.rec (motive := fun _ => Rg → Ar → Int32 → Int32 → Int32 → Int32 → Int32 → Prop) (fun _ _ _ _ _ _ _ => False) (fun _ k => wb_X6_sumOf_6 Q k) n
set_option maxHeartbeats 4000000 in
theorem wkl_X6_sumOf_6 {p : Program} {l : Launch} {e : Env} {s : State} {m : MethodId} {args : Array Value} {below : List Frame} {meth : Method} {c : Code} {D : va_G} {cy : ClassId} {Ad : Nat → Nat} (C : Cx p s m args meth c RX6 cX6_sumOf 6 (some FieldType.int) D [(cy, .int)]) (hap : apt 8 Ad) {Q : Int32 → Rg → Ar → Prop}  : ∀ (n : Nat) {σ : Rg} {μ : Ar} {v1 : Int32} {v2 : Int32} {v3 : Int32} {v4 : Int32} {v5 : Int32} {H : Heap} {locs : List Loc} {ls : Array Slot} (h : wl_X6_sumOf_6 Q  n σ μ v1 v2 v3 v4 v5) (hP : va_P D vwCl (wM Ad cy σ μ) H) (hS : va_S (AS 8 Ad) s.heap H locs) (hl : lv_has ls 6 [(0, .ref (Ad 0)), (1, .int v1), (2, .int v2), (3, .int v3), (4, .int v4), (5, .int v5)]), W p l e rmX6_sumOf s m args below meth c H locs 0 0 (MQ below (Qcg (PWi (wM Ad cy) D Q) (AS 8 Ad)) args s 0 0 (AS 8 Ad)) (F0 m 6 ls []) := by
  intro n
  induction n with
  | zero => intro σ μ v1 v2 v3 v4 v5 H locs ls h; exact h.elim
  | succ n ih =>
    intro σ μ v1 v2 v3 v4 v5 H locs ls h hP hS hl
    exact wk_X6_sumOf_6 C hap (fun h hP hS hl => ih h hP hS hl) h hP hS hl
def wp_X6_sumOf (σ : Rg) (μ : Ar) (x1 : Int32) (x2 : Int32) (x3 : Int32) (Q : Int32 → Rg → Ar → Prop) : Prop := ∃ n, wl_X6_sumOf_6 Q n σ μ x1 x2 x3 (0 : Int32) x2
set_option maxHeartbeats 4000000 in
set_option maxRecDepth 100000 in
theorem ct_X6_sumOf (l : Launch) (D : va_G) (cy : ClassId) (Ad : Nat → Nat) (hap : apt 8 Ad) {σ : Rg} {μ : Ar} {x1 : Int32} {x2 : Int32} {x3 : Int32} {Q : Int32 → Rg → Ar → Prop} (h : wp_X6_sumOf σ μ x1 x2 x3 Q) : Ct l yX6_sumOf cX6_sumOf 6 (some FieldType.int) rmX6_sumOf D [(cy, .int)] (fun H => va_P D vwCl (wM Ad cy σ μ) H) [.ref (Ad 0), .int x1, .int x2, .int x3] (AS 8 Ad) (PWi (wM Ad cy) D Q) := by
  refine Ct.of (by decide) (Nat.le_of_ble_eq_true rfl) ?_
  intro p e s m below meth c ls C hP hl
  have hl : lv_has ls 6 [(0, .ref (Ad 0)), (1, .int x1), (2, .int x2), (3, .int x3)] := hl
  have hS : va_S (AS 8 Ad) s.heap s.heap [] := va_S.rf
  have hx := C.1
  have hb := C.2.1
  refine lv_iconst (v := 0) hx hb dX6_sumOf_0 (by decide) ?_
  refine lv_istore (lv' := [(4, .int (0 : Int32)), (0, .ref (Ad 0)), (1, .int x1), (2, .int x2), (3, .int x3)]) hx hb dX6_sumOf_1 hl (by decide) rfl (fun ls hl => ?_)
  refine lv_iload_n hx hb dX6_sumOf_3 rfl (lv_at hl 3 rfl) ?_
  refine lv_istore (lv' := [(5, .int x2), (4, .int (0 : Int32)), (0, .ref (Ad 0)), (1, .int x1), (2, .int x2), (3, .int x3)]) hx hb dX6_sumOf_4 hl (by decide) rfl (fun ls hl => ?_)
  obtain ⟨n, h⟩ := h
  exact wkl_X6_sumOf_6 C hap n h hP hS (lv_sub hl [2, 3, 4, 5, 1, 0] rfl)
abbrev rmX6_sortAt : Room := { frames := 1, cells := 0, slots := 0, locals := 22 }
def wb_X6_sortAt_95 (Q : Int32 → Rg → Ar → Prop) (σ : Rg) (μ : Ar) (t0 : Int32) : Prop := Q t0 σ μ
set_option maxHeartbeats 4000000 in
set_option maxRecDepth 100000 in
theorem wk_X6_sortAt_95 {p : Program} {l : Launch} {e : Env} {s : State} {m : MethodId} {args : Array Value} {below : List Frame} {meth : Method} {c : Code} {D : va_G} {cy : ClassId} {Ad : Nat → Nat} (C : Cx p s m args meth c RX6 cX6_sortAt 5 (some FieldType.int) D [(cy, .int)]) (hap : apt 8 Ad) {Q : Int32 → Rg → Ar → Prop} {σ : Rg} {μ : Ar} {t0 : Int32} {H : Heap} {locs : List Loc} {ls : Array Slot} (h : wb_X6_sortAt_95 Q σ μ t0) (hP : va_P D vwCl (wM Ad cy σ μ) H) (hS : va_S (AS 8 Ad) s.heap H locs) (hl : lv_has ls 5 []) : W p l e rmX6_sortAt s m args below meth c H locs 0 0 (MQ below (Qcg (PWi (wM Ad cy) D Q) (AS 8 Ad)) args s 0 0 (AS 8 Ad)) (F0 m 95 ls [.int t0]) := by
  have hx := C.1
  have hb := C.2.1
  exact endI C hS ⟨_, _, _, rfl, h, hP⟩ dX6_sortAt_95
def wb_X6_sortAt_94 (Q : Int32 → Rg → Ar → Prop) (σ : Rg) (μ : Ar) : Prop := wb_X6_sortAt_95 Q σ μ (-1 : Int32)
set_option maxHeartbeats 4000000 in
set_option maxRecDepth 100000 in
theorem wk_X6_sortAt_94 {p : Program} {l : Launch} {e : Env} {s : State} {m : MethodId} {args : Array Value} {below : List Frame} {meth : Method} {c : Code} {D : va_G} {cy : ClassId} {Ad : Nat → Nat} (C : Cx p s m args meth c RX6 cX6_sortAt 5 (some FieldType.int) D [(cy, .int)]) (hap : apt 8 Ad) {Q : Int32 → Rg → Ar → Prop} {σ : Rg} {μ : Ar}  {H : Heap} {locs : List Loc} {ls : Array Slot} (h : wb_X6_sortAt_94 Q σ μ) (hP : va_P D vwCl (wM Ad cy σ μ) H) (hS : va_S (AS 8 Ad) s.heap H locs) (hl : lv_has ls 5 []) : W p l e rmX6_sortAt s m args below meth c H locs 0 0 (MQ below (Qcg (PWi (wM Ad cy) D Q) (AS 8 Ad)) args s 0 0 (AS 8 Ad)) (F0 m 94 ls []) := by
  have hx := C.1
  have hb := C.2.1
  refine lv_iconst (v := -1) hx hb dX6_sortAt_94 (by decide) ?_
  exact wk_X6_sortAt_95 C hap h hP hS (lv_sub hl [] rfl)
def wb_X6_sortAt_77 (Q : Int32 → Rg → Ar → Prop) (σ : Rg) (μ : Ar) (v3 : Int32) (v4 : Int32) : Prop := ((¬ v3 = (63 : Int32) → wb_X6_sortAt_94 Q σ μ) ∧ (v3 = (63 : Int32) → ((¬ v4 = (65 : Int32) → wb_X6_sortAt_94 Q σ μ) ∧ (v4 = (65 : Int32) → wb_X6_sortAt_95 Q σ μ (3 : Int32)))))
set_option maxHeartbeats 4000000 in
set_option maxRecDepth 100000 in
theorem wk_X6_sortAt_77 {p : Program} {l : Launch} {e : Env} {s : State} {m : MethodId} {args : Array Value} {below : List Frame} {meth : Method} {c : Code} {D : va_G} {cy : ClassId} {Ad : Nat → Nat} (C : Cx p s m args meth c RX6 cX6_sortAt 5 (some FieldType.int) D [(cy, .int)]) (hap : apt 8 Ad) {Q : Int32 → Rg → Ar → Prop} {σ : Rg} {μ : Ar} {v3 : Int32} {v4 : Int32} {H : Heap} {locs : List Loc} {ls : Array Slot} (h : wb_X6_sortAt_77 Q σ μ v3 v4) (hP : va_P D vwCl (wM Ad cy σ μ) H) (hS : va_S (AS 8 Ad) s.heap H locs) (hl : lv_has ls 5 [(3, .int v3), (4, .int v4)]) : W p l e rmX6_sortAt s m args below meth c H locs 0 0 (MQ below (Qcg (PWi (wM Ad cy) D Q) (AS 8 Ad)) args s 0 0 (AS 8 Ad)) (F0 m 77 ls []) := by
  have hx := C.1
  have hb := C.2.1
  refine lv_iload_n hx hb dX6_sortAt_77 rfl (lv_at hl 0 rfl) ?_
  refine lv_bipush (v := 63) hx hb dX6_sortAt_78 (by decide) ?_
  refine lv_icmp_ne (tgt := 94) hx hb dX6_sortAt_80 (by decide) (fun hc => ?_) (fun hc => ?_)
  · have h := h.1 hc
    exact wk_X6_sortAt_94 C hap h hP hS (lv_sub hl [] rfl)
  · have h := h.2 hc
    refine lv_iload hx hb dX6_sortAt_83 (lv_at hl 1 rfl) ?_
    refine lv_bipush (v := 65) hx hb dX6_sortAt_85 (by decide) ?_
    refine lv_icmp_ne (tgt := 94) hx hb dX6_sortAt_87 (by decide) (fun hc => ?_) (fun hc => ?_)
    · have h := h.1 hc
      exact wk_X6_sortAt_94 C hap h hP hS (lv_sub hl [] rfl)
    · have h := h.2 hc
      refine lv_iconst (v := 3) hx hb dX6_sortAt_90 (by decide) ?_
      refine lv_goto (tgt := 95) hx hb dX6_sortAt_91 (by decide) ?_
      exact wk_X6_sortAt_95 C hap h hP hS (lv_sub hl [] rfl)
def wb_X6_sortAt_57 (Q : Int32 → Rg → Ar → Prop) (σ : Rg) (μ : Ar) (v3 : Int32) (v4 : Int32) : Prop := wp_X6_within v3 (32 : Int32) (47 : Int32) (fun r62 => ((r62 = 0 → wb_X6_sortAt_77 Q σ μ v3 v4) ∧ (¬ r62 = 0 → ((¬ v4 = (43 : Int32) → wb_X6_sortAt_77 Q σ μ v3 v4) ∧ (v4 = (43 : Int32) → Q (1 : Int32) σ μ)))))
set_option maxHeartbeats 4000000 in
set_option maxRecDepth 100000 in
theorem wk_X6_sortAt_57 {p : Program} {l : Launch} {e : Env} {s : State} {m : MethodId} {args : Array Value} {below : List Frame} {meth : Method} {c : Code} {D : va_G} {cy : ClassId} {Ad : Nat → Nat} (C : Cx p s m args meth c RX6 cX6_sortAt 5 (some FieldType.int) D [(cy, .int)]) (hap : apt 8 Ad) {Q : Int32 → Rg → Ar → Prop} {σ : Rg} {μ : Ar} {v3 : Int32} {v4 : Int32} {H : Heap} {locs : List Loc} {ls : Array Slot} (h : wb_X6_sortAt_57 Q σ μ v3 v4) (hP : va_P D vwCl (wM Ad cy σ μ) H) (hS : va_S (AS 8 Ad) s.heap H locs) (hl : lv_has ls 5 [(3, .int v3), (4, .int v4)]) : W p l e rmX6_sortAt s m args below meth c H locs 0 0 (MQ below (Qcg (PWi (wM Ad cy) D Q) (AS 8 Ad)) args s 0 0 (AS 8 Ad)) (F0 m 57 ls []) := by
  have hx := C.1
  have hb := C.2.1
  refine lv_iload_n hx hb dX6_sortAt_57 rfl (lv_at hl 0 rfl) ?_
  refine lv_bipush (v := 32) hx hb dX6_sortAt_58 (by decide) ?_
  refine lv_bipush (v := 47) hx hb dX6_sortAt_60 (by decide) ?_
  refine kNi (rnS (C.none) (ct_X6_within l D h) ys_X6_within wq_974 ⟨rfl, rfl⟩ ⟨Nat.le_of_ble_eq_true rfl, Nat.le_of_ble_eq_true rfl⟩ ⟨Nat.zero_le _, Nat.zero_le _⟩ trivial hl.1 rfl rfl (Nat.le_of_ble_eq_true rfl) dX6_sortAt_62) hS (fun _ h => h.elim) (fun r62 H locs h hk hS => ?_)
  have hP := keepN hP hk
  refine lv_if_eq (tgt := 77) hx hb dX6_sortAt_65 (by decide) (fun hc => ?_) (fun hc => ?_)
  · have h := h.1 hc
    exact wk_X6_sortAt_77 C hap h hP hS (lv_sub hl [0, 1] rfl)
  · have h := h.2 hc
    refine lv_iload hx hb dX6_sortAt_68 (lv_at hl 1 rfl) ?_
    refine lv_bipush (v := 43) hx hb dX6_sortAt_70 (by decide) ?_
    refine lv_icmp_ne (tgt := 77) hx hb dX6_sortAt_72 (by decide) (fun hc => ?_) (fun hc => ?_)
    · have h := h.1 hc
      exact wk_X6_sortAt_77 C hap h hP hS (lv_sub hl [0, 1] rfl)
    · have h := h.2 hc
      refine lv_iconst (v := 1) hx hb dX6_sortAt_75 (by decide) ?_
      exact endI C hS ⟨_, _, _, rfl, h, hP⟩ dX6_sortAt_76
def wb_X6_sortAt_37 (Q : Int32 → Rg → Ar → Prop) (σ : Rg) (μ : Ar) (v3 : Int32) (v4 : Int32) : Prop := (((32 : Int32) ≤ v3 → wb_X6_sortAt_57 Q σ μ v3 v4) ∧ (¬ (32 : Int32) ≤ v3 → wp_X6_within v4 (48 : Int32) (52 : Int32) (fun r49 => ((r49 = 0 → wb_X6_sortAt_57 Q σ μ v3 v4) ∧ (¬ r49 = 0 → Q (2 : Int32) σ μ)))))
set_option maxHeartbeats 4000000 in
set_option maxRecDepth 100000 in
theorem wk_X6_sortAt_37 {p : Program} {l : Launch} {e : Env} {s : State} {m : MethodId} {args : Array Value} {below : List Frame} {meth : Method} {c : Code} {D : va_G} {cy : ClassId} {Ad : Nat → Nat} (C : Cx p s m args meth c RX6 cX6_sortAt 5 (some FieldType.int) D [(cy, .int)]) (hap : apt 8 Ad) {Q : Int32 → Rg → Ar → Prop} {σ : Rg} {μ : Ar} {v3 : Int32} {v4 : Int32} {H : Heap} {locs : List Loc} {ls : Array Slot} (h : wb_X6_sortAt_37 Q σ μ v3 v4) (hP : va_P D vwCl (wM Ad cy σ μ) H) (hS : va_S (AS 8 Ad) s.heap H locs) (hl : lv_has ls 5 [(3, .int v3), (4, .int v4)]) : W p l e rmX6_sortAt s m args below meth c H locs 0 0 (MQ below (Qcg (PWi (wM Ad cy) D Q) (AS 8 Ad)) args s 0 0 (AS 8 Ad)) (F0 m 37 ls []) := by
  have hx := C.1
  have hb := C.2.1
  refine lv_iload_n hx hb dX6_sortAt_37 rfl (lv_at hl 0 rfl) ?_
  refine lv_bipush (v := 32) hx hb dX6_sortAt_38 (by decide) ?_
  refine lv_icmp_ge (tgt := 57) hx hb dX6_sortAt_40 (by decide) (fun hc => ?_) (fun hc => ?_)
  · have h := h.1 hc
    exact wk_X6_sortAt_57 C hap h hP hS (lv_sub hl [0, 1] rfl)
  · have h := h.2 hc
    refine lv_iload hx hb dX6_sortAt_43 (lv_at hl 1 rfl) ?_
    refine lv_bipush (v := 48) hx hb dX6_sortAt_45 (by decide) ?_
    refine lv_bipush (v := 52) hx hb dX6_sortAt_47 (by decide) ?_
    refine kNi (rnS (C.none) (ct_X6_within l D h) ys_X6_within wq_974 ⟨rfl, rfl⟩ ⟨Nat.le_of_ble_eq_true rfl, Nat.le_of_ble_eq_true rfl⟩ ⟨Nat.zero_le _, Nat.zero_le _⟩ trivial hl.1 rfl rfl (Nat.le_of_ble_eq_true rfl) dX6_sortAt_49) hS (fun _ h => h.elim) (fun r49 H locs h hk hS => ?_)
    have hP := keepN hP hk
    refine lv_if_eq (tgt := 57) hx hb dX6_sortAt_52 (by decide) (fun hc => ?_) (fun hc => ?_)
    · have h := h.1 hc
      exact wk_X6_sortAt_57 C hap h hP hS (lv_sub hl [0, 1] rfl)
    · have h := h.2 hc
      refine lv_iconst (v := 2) hx hb dX6_sortAt_55 (by decide) ?_
      exact endI C hS ⟨_, _, _, rfl, h, hP⟩ dX6_sortAt_56
def wp_X6_sortAt (σ : Rg) (μ : Ar) (x1 : Int32) (x2 : Int32) (Q : Int32 → Rg → Ar → Prop) : Prop := wp_X6_byteAt σ μ x1 x2 (fun r3 σ3 μ3 => wp_X6_byteAt σ3 μ3 x1 (x2 + (1 : Int32)) (fun r12 σ12 μ12 => (((32 : Int32) ≤ r3 → wb_X6_sortAt_37 Q σ12 μ12 r3 r12) ∧ (¬ (32 : Int32) ≤ r3 → wp_X6_within r12 (16 : Int32) (20 : Int32) (fun r29 => ((r29 = 0 → wb_X6_sortAt_37 Q σ12 μ12 r3 r12) ∧ (¬ r29 = 0 → Q (0 : Int32) σ12 μ12)))))))
set_option maxHeartbeats 4000000 in
set_option maxRecDepth 100000 in
theorem ct_X6_sortAt (l : Launch) (D : va_G) (cy : ClassId) (Ad : Nat → Nat) (hap : apt 8 Ad) {σ : Rg} {μ : Ar} {x1 : Int32} {x2 : Int32} {Q : Int32 → Rg → Ar → Prop} (h : wp_X6_sortAt σ μ x1 x2 Q) : Ct l yX6_sortAt cX6_sortAt 5 (some FieldType.int) rmX6_sortAt D [(cy, .int)] (fun H => va_P D vwCl (wM Ad cy σ μ) H) [.ref (Ad 0), .int x1, .int x2] (AS 8 Ad) (PWi (wM Ad cy) D Q) := by
  refine Ct.of (by decide) (Nat.le_of_ble_eq_true rfl) ?_
  intro p e s m below meth c ls C hP hl
  have hl : lv_has ls 5 [(0, .ref (Ad 0)), (1, .int x1), (2, .int x2)] := hl
  have hS : va_S (AS 8 Ad) s.heap s.heap [] := va_S.rf
  have hx := C.1
  have hb := C.2.1
  refine lv_aload_n hx hb dX6_sortAt_0 rfl (lv_at hl 0 rfl) ?_
  refine lv_iload_n hx hb dX6_sortAt_1 rfl (lv_at hl 1 rfl) ?_
  refine lv_iload_n hx hb dX6_sortAt_2 rfl (lv_at hl 2 rfl) ?_
  refine kWi (rnV C (ct_X6_byteAt l D cy Ad hap h) yv_X6_byteAt wq_997 ⟨rfl, rfl⟩ ⟨Nat.le_of_ble_eq_true rfl, Nat.le_of_ble_eq_true rfl⟩ ⟨Nat.zero_le _, Nat.zero_le _⟩ (vM_model C hP) hP hl.1 rfl rfl (Nat.le_of_ble_eq_true rfl) dX6_sortAt_3) hS (fun _ h => h) (fun r3 σ3 μ3 H locs h hP hk hS => ?_)
  refine lv_istore_n (lv' := [(3, .int r3), (0, .ref (Ad 0)), (1, .int x1), (2, .int x2)]) hx hb dX6_sortAt_6 rfl hl (by decide) rfl (fun ls hl => ?_)
  refine lv_aload_n hx hb dX6_sortAt_7 rfl (lv_at hl 1 rfl) ?_
  refine lv_iload_n hx hb dX6_sortAt_8 rfl (lv_at hl 2 rfl) ?_
  refine lv_iload_n hx hb dX6_sortAt_9 rfl (lv_at hl 3 rfl) ?_
  refine lv_iconst (v := 1) hx hb dX6_sortAt_10 (by decide) ?_
  refine lv_iadd hx hb dX6_sortAt_11 ?_
  refine kWi (rnV C (ct_X6_byteAt l D cy Ad hap h) yv_X6_byteAt wq_997 ⟨rfl, rfl⟩ ⟨Nat.le_of_ble_eq_true rfl, Nat.le_of_ble_eq_true rfl⟩ ⟨Nat.zero_le _, Nat.zero_le _⟩ (vM_model C hP) hP hl.1 rfl rfl (Nat.le_of_ble_eq_true rfl) dX6_sortAt_12) hS (fun _ h => h) (fun r12 σ12 μ12 H locs h hP hk hS => ?_)
  refine lv_istore (lv' := [(4, .int r12), (3, .int r3), (0, .ref (Ad 0)), (1, .int x1), (2, .int x2)]) hx hb dX6_sortAt_15 hl (by decide) rfl (fun ls hl => ?_)
  refine lv_iload_n hx hb dX6_sortAt_17 rfl (lv_at hl 1 rfl) ?_
  refine lv_bipush (v := 32) hx hb dX6_sortAt_18 (by decide) ?_
  refine lv_icmp_ge (tgt := 37) hx hb dX6_sortAt_20 (by decide) (fun hc => ?_) (fun hc => ?_)
  · have h := h.1 hc
    exact wk_X6_sortAt_37 C hap h hP hS (lv_sub hl [1, 0] rfl)
  · have h := h.2 hc
    refine lv_iload hx hb dX6_sortAt_23 (lv_at hl 0 rfl) ?_
    refine lv_bipush (v := 16) hx hb dX6_sortAt_25 (by decide) ?_
    refine lv_bipush (v := 20) hx hb dX6_sortAt_27 (by decide) ?_
    refine kNi (rnS (C.none) (ct_X6_within l D h) ys_X6_within wq_974 ⟨rfl, rfl⟩ ⟨Nat.le_of_ble_eq_true rfl, Nat.le_of_ble_eq_true rfl⟩ ⟨Nat.zero_le _, Nat.zero_le _⟩ trivial hl.1 rfl rfl (Nat.le_of_ble_eq_true rfl) dX6_sortAt_29) hS (fun _ h => h.elim) (fun r29 H locs h hk hS => ?_)
    have hP := keepN hP hk
    refine lv_if_eq (tgt := 37) hx hb dX6_sortAt_32 (by decide) (fun hc => ?_) (fun hc => ?_)
    · have h := h.1 hc
      exact wk_X6_sortAt_37 C hap h hP hS (lv_sub hl [1, 0] rfl)
    · have h := h.2 hc
      refine lv_iconst (v := 0) hx hb dX6_sortAt_35 (by decide) ?_
      exact endI C hS ⟨_, _, _, rfl, h, hP⟩ dX6_sortAt_36
abbrev rmX6_sizeBy : Room := { frames := 0, cells := 0, slots := 0, locals := 0 }
def wb_X6_sizeBy_25 (Q : Int32 → Rg → Ar → Prop) (σ : Rg) (μ : Ar) (t0 : Int32) : Prop := Q t0 σ μ
set_option maxHeartbeats 4000000 in
set_option maxRecDepth 100000 in
theorem wk_X6_sizeBy_25 {p : Program} {l : Launch} {e : Env} {s : State} {m : MethodId} {args : Array Value} {below : List Frame} {meth : Method} {c : Code} {D : va_G} {cy : ClassId} {Ad : Nat → Nat} (C : Cx p s m args meth c RX6 cX6_sizeBy 3 (some FieldType.int) D [(cy, .int)]) (hap : apt 8 Ad) {Q : Int32 → Rg → Ar → Prop} {σ : Rg} {μ : Ar} {t0 : Int32} {H : Heap} {locs : List Loc} {ls : Array Slot} (h : wb_X6_sizeBy_25 Q σ μ t0) (hP : va_P D vwCl (wM Ad cy σ μ) H) (hS : va_S (AS 8 Ad) s.heap H locs) (hl : lv_has ls 3 []) : W p l e rmX6_sizeBy s m args below meth c H locs 0 0 (MQ below (Qcg (PWi (wM Ad cy) D Q) (AS 8 Ad)) args s 0 0 (AS 8 Ad)) (F0 m 25 ls [.int t0]) := by
  have hx := C.1
  have hb := C.2.1
  exact endI C hS ⟨_, _, _, rfl, h, hP⟩ dX6_sizeBy_25
def wp_X6_sizeBy (σ : Rg) (μ : Ar) (x1 : Int32) (x2 : Int32) (Q : Int32 → Rg → Ar → Prop) : Prop := ((¬ x1 = (1 : Int32) → ((¬ x1 = (3 : Int32) → wb_X6_sizeBy_25 Q σ μ ((3 : Int32) + (x2 - x2 / (16 : Int32) * (16 : Int32)))) ∧ (x1 = (3 : Int32) → wb_X6_sizeBy_25 Q σ μ (4 : Int32)))) ∧ (x1 = (1 : Int32) → wb_X6_sizeBy_25 Q σ μ (14 : Int32)))
set_option maxHeartbeats 4000000 in
set_option maxRecDepth 100000 in
theorem ct_X6_sizeBy (l : Launch) (D : va_G) (cy : ClassId) (Ad : Nat → Nat) (hap : apt 8 Ad) {σ : Rg} {μ : Ar} {x1 : Int32} {x2 : Int32} {Q : Int32 → Rg → Ar → Prop} (h : wp_X6_sizeBy σ μ x1 x2 Q) : Ct l yX6_sizeBy cX6_sizeBy 3 (some FieldType.int) rmX6_sizeBy D [(cy, .int)] (fun H => va_P D vwCl (wM Ad cy σ μ) H) [.ref (Ad 0), .int x1, .int x2] (AS 8 Ad) (PWi (wM Ad cy) D Q) := by
  refine Ct.of (by decide) (Nat.le_of_ble_eq_true rfl) ?_
  intro p e s m below meth c ls C hP hl
  have hl : lv_has ls 3 [(0, .ref (Ad 0)), (1, .int x1), (2, .int x2)] := hl
  have hS : va_S (AS 8 Ad) s.heap s.heap [] := va_S.rf
  have hx := C.1
  have hb := C.2.1
  refine lv_iload_n hx hb dX6_sizeBy_0 rfl (lv_at hl 1 rfl) ?_
  refine lv_iconst (v := 1) hx hb dX6_sizeBy_1 (by decide) ?_
  refine lv_icmp_ne (tgt := 10) hx hb dX6_sizeBy_2 (by decide) (fun hc => ?_) (fun hc => ?_)
  · have h := h.1 hc
    refine lv_iload_n hx hb dX6_sizeBy_10 rfl (lv_at hl 1 rfl) ?_
    refine lv_iconst (v := 3) hx hb dX6_sizeBy_11 (by decide) ?_
    refine lv_icmp_ne (tgt := 19) hx hb dX6_sizeBy_12 (by decide) (fun hc => ?_) (fun hc => ?_)
    · have h := h.1 hc
      refine lv_iconst (v := 3) hx hb dX6_sizeBy_19 (by decide) ?_
      refine lv_iload_n hx hb dX6_sizeBy_20 rfl (lv_at hl 2 rfl) ?_
      refine lv_bipush (v := 16) hx hb dX6_sizeBy_21 (by decide) ?_
      refine lv_irem hx hb dX6_sizeBy_23 (by decide) ?_
      refine lv_iadd hx hb dX6_sizeBy_24 ?_
      exact wk_X6_sizeBy_25 C hap h hP hS (lv_sub hl [] rfl)
    · have h := h.2 hc
      refine lv_iconst (v := 4) hx hb dX6_sizeBy_15 (by decide) ?_
      refine lv_goto (tgt := 25) hx hb dX6_sizeBy_16 (by decide) ?_
      exact wk_X6_sizeBy_25 C hap h hP hS (lv_sub hl [] rfl)
  · have h := h.2 hc
    refine lv_bipush (v := 14) hx hb dX6_sizeBy_5 (by decide) ?_
    refine lv_goto (tgt := 25) hx hb dX6_sizeBy_7 (by decide) ?_
    exact wk_X6_sizeBy_25 C hap h hP hS (lv_sub hl [] rfl)
abbrev rmX6_checked : Room := { frames := 0, cells := 0, slots := 0, locals := 0 }
def wb_X6_checked_22 (Q : Int32 → Rg → Ar → Prop) (σ : Rg) (μ : Ar) (t0 : Int32) : Prop := Q t0 σ μ
set_option maxHeartbeats 4000000 in
set_option maxRecDepth 100000 in
theorem wk_X6_checked_22 {p : Program} {l : Launch} {e : Env} {s : State} {m : MethodId} {args : Array Value} {below : List Frame} {meth : Method} {c : Code} {D : va_G} {cy : ClassId} {Ad : Nat → Nat} (C : Cx p s m args meth c RX6 cX6_checked 2 (some FieldType.int) D [(cy, .int)]) (hap : apt 8 Ad) {Q : Int32 → Rg → Ar → Prop} {σ : Rg} {μ : Ar} {t0 : Int32} {H : Heap} {locs : List Loc} {ls : Array Slot} (h : wb_X6_checked_22 Q σ μ t0) (hP : va_P D vwCl (wM Ad cy σ μ) H) (hS : va_S (AS 8 Ad) s.heap H locs) (hl : lv_has ls 2 []) : W p l e rmX6_checked s m args below meth c H locs 0 0 (MQ below (Qcg (PWi (wM Ad cy) D Q) (AS 8 Ad)) args s 0 0 (AS 8 Ad)) (F0 m 22 ls [.int t0]) := by
  have hx := C.1
  have hb := C.2.1
  exact endI C hS ⟨_, _, _, rfl, h, hP⟩ dX6_checked_22
def wp_X6_checked (σ : Rg) (μ : Ar) (x1 : Int32) (Q : Int32 → Rg → Ar → Prop) : Prop := (vp_in x1 64) ∧ (((¬ (μ 3 (x1).toNatClampNeg) = (1 : Int32) → (vp_in x1 64) ∧ (wb_X6_checked_22 Q σ μ ((μ 4 (x1).toNatClampNeg) - (1 : Int32)))) ∧ ((μ 3 (x1).toNatClampNeg) = (1 : Int32) → wb_X6_checked_22 Q σ μ (5 : Int32))))
set_option maxHeartbeats 4000000 in
set_option maxRecDepth 100000 in
theorem ct_X6_checked (l : Launch) (D : va_G) (cy : ClassId) (Ad : Nat → Nat) (hap : apt 8 Ad) {σ : Rg} {μ : Ar} {x1 : Int32} {Q : Int32 → Rg → Ar → Prop} (h : wp_X6_checked σ μ x1 Q) : Ct l yX6_checked cX6_checked 2 (some FieldType.int) rmX6_checked D [(cy, .int)] (fun H => va_P D vwCl (wM Ad cy σ μ) H) [.ref (Ad 0), .int x1] (AS 8 Ad) (PWi (wM Ad cy) D Q) := by
  refine Ct.of (by decide) (Nat.le_of_ble_eq_true rfl) ?_
  intro p e s m below meth c ls C hP hl
  have hl : lv_has ls 2 [(0, .ref (Ad 0)), (1, .int x1)] := hl
  have hS : va_S (AS 8 Ad) s.heap s.heap [] := va_S.rf
  have hx := C.1
  have hb := C.2.1
  refine lv_aload_n hx hb dX6_checked_0 rfl (lv_at hl 0 rfl) ?_
  refine gM_model_sort C hP (C.2.2.2.2.2.2.1 _ wq_932) dX6_checked_1 ?_
  refine lv_iload_n hx hb dX6_checked_4 rfl (lv_at hl 1 rfl) ?_
  obtain ⟨hc, h⟩ := h
  refine lM_3 C hP hc dX6_checked_5 ?_
  refine lv_iconst (v := 1) hx hb dX6_checked_6 (by decide) ?_
  refine lv_icmp_ne (tgt := 14) hx hb dX6_checked_7 (by decide) (fun hc => ?_) (fun hc => ?_)
  · have h := h.1 hc
    refine lv_aload_n hx hb dX6_checked_14 rfl (lv_at hl 0 rfl) ?_
    refine gM_model_size C hP (C.2.2.2.2.2.2.1 _ wq_933) dX6_checked_15 ?_
    refine lv_iload_n hx hb dX6_checked_18 rfl (lv_at hl 1 rfl) ?_
    obtain ⟨hc, h⟩ := h
    refine lM_4 C hP hc dX6_checked_19 ?_
    refine lv_iconst (v := 1) hx hb dX6_checked_20 (by decide) ?_
    refine lv_isub hx hb dX6_checked_21 ?_
    exact wk_X6_checked_22 C hap h hP hS (lv_sub hl [] rfl)
  · have h := h.2 hc
    refine lv_iconst (v := 5) hx hb dX6_checked_10 (by decide) ?_
    refine lv_goto (tgt := 22) hx hb dX6_checked_11 (by decide) ?_
    exact wk_X6_checked_22 C hap h hP hS (lv_sub hl [] rfl)
abbrev rmX6_commits : Room := { frames := 1, cells := 0, slots := 0, locals := 22 }
def wb_X6_commits_160 (Q : Rg → Ar → Prop) (k2 : Rg → Ar → Int32 → Int32 → Prop) (σ : Rg) (μ : Ar) (v1 : Int32) (v2 : Int32) : Prop := ∀ y160 : Int32, y160 = v2 + (1 : Int32) → (k2 σ μ v1 y160)
set_option maxHeartbeats 4000000 in
set_option maxRecDepth 100000 in
theorem wk_X6_commits_160 {p : Program} {l : Launch} {e : Env} {s : State} {m : MethodId} {args : Array Value} {below : List Frame} {meth : Method} {c : Code} {D : va_G} {cy : ClassId} {Ad : Nat → Nat} (C : Cx p s m args meth c RX6 cX6_commits 6 (none : Option FieldType) D [(cy, .int)]) (hap : apt 8 Ad) {Q : Rg → Ar → Prop} {k2 : Rg → Ar → Int32 → Int32 → Prop} (hk2 : ∀ {σ : Rg} {μ : Ar} {v1 : Int32} {v2 : Int32} {H : Heap} {locs : List Loc} {ls : Array Slot}, k2 σ μ v1 v2 → va_P D vwCl (wM Ad cy σ μ) H → va_S (AS 8 Ad) s.heap H locs → lv_has ls 6 [(0, .ref (Ad 0)), (1, .int v1), (2, .int v2)] → W p l e rmX6_commits s m args below meth c H locs 0 0 (MQ below (Qcg (PWv (wM Ad cy) D Q) (AS 8 Ad)) args s 0 0 (AS 8 Ad)) (F0 m 2 ls [])) {σ : Rg} {μ : Ar} {v1 : Int32} {v2 : Int32} {H : Heap} {locs : List Loc} {ls : Array Slot} (h : wb_X6_commits_160 Q k2 σ μ v1 v2) (hP : va_P D vwCl (wM Ad cy σ μ) H) (hS : va_S (AS 8 Ad) s.heap H locs) (hl : lv_has ls 6 [(0, .ref (Ad 0)), (1, .int v1), (2, .int v2)]) : W p l e rmX6_commits s m args below meth c H locs 0 0 (MQ below (Qcg (PWv (wM Ad cy) D Q) (AS 8 Ad)) args s 0 0 (AS 8 Ad)) (F0 m 160 ls []) := by
  have hx := C.1
  have hb := C.2.1
  obtain ⟨y160, e160⟩ : ∃ y : Int32, y = v2 + (1 : Int32) := ⟨_, rfl⟩
  have h := h y160 e160
  refine lv_iinc (v := y160) (lv' := [(2, .int y160), (0, .ref (Ad 0)), (1, .int v1)]) hx hb dX6_commits_160 hl (k := 2) rfl (by rw [e160]; rfl) (by decide) rfl (fun ls hl => ?_)
  refine lv_goto (tgt := 2) hx hb dX6_commits_163 (by decide) ?_
  exact hk2 h hP hS (lv_sub hl [1, 2, 0] rfl)
def wb_X6_commits_140 (Q : Rg → Ar → Prop) (k2 : Rg → Ar → Int32 → Int32 → Prop) (k140 : Rg → Ar → Int32 → Int32 → Int32 → Prop) (σ : Rg) (μ : Ar) (v1 : Int32) (v2 : Int32) (v5 : Int32) : Prop := ((v2 ≤ v5 → wb_X6_commits_160 Q k2 σ μ v1 v2) ∧ (¬ v2 ≤ v5 → (vp_in v5 64) ∧ (∀ μ153 : Ar, μ153 = updA μ 5 (upd (μ 5) (v5).toNatClampNeg (1 : Int32)) → (∀ y154 : Int32, y154 = v5 + (1 : Int32) → (k140 σ μ153 v1 v2 y154)))))
set_option maxHeartbeats 4000000 in
set_option maxRecDepth 100000 in
theorem wk_X6_commits_140 {p : Program} {l : Launch} {e : Env} {s : State} {m : MethodId} {args : Array Value} {below : List Frame} {meth : Method} {c : Code} {D : va_G} {cy : ClassId} {Ad : Nat → Nat} (C : Cx p s m args meth c RX6 cX6_commits 6 (none : Option FieldType) D [(cy, .int)]) (hap : apt 8 Ad) {Q : Rg → Ar → Prop} {k2 : Rg → Ar → Int32 → Int32 → Prop} {k140 : Rg → Ar → Int32 → Int32 → Int32 → Prop} (hk2 : ∀ {σ : Rg} {μ : Ar} {v1 : Int32} {v2 : Int32} {H : Heap} {locs : List Loc} {ls : Array Slot}, k2 σ μ v1 v2 → va_P D vwCl (wM Ad cy σ μ) H → va_S (AS 8 Ad) s.heap H locs → lv_has ls 6 [(0, .ref (Ad 0)), (1, .int v1), (2, .int v2)] → W p l e rmX6_commits s m args below meth c H locs 0 0 (MQ below (Qcg (PWv (wM Ad cy) D Q) (AS 8 Ad)) args s 0 0 (AS 8 Ad)) (F0 m 2 ls [])) (hk140 : ∀ {σ : Rg} {μ : Ar} {v1 : Int32} {v2 : Int32} {v5 : Int32} {H : Heap} {locs : List Loc} {ls : Array Slot}, k140 σ μ v1 v2 v5 → va_P D vwCl (wM Ad cy σ μ) H → va_S (AS 8 Ad) s.heap H locs → lv_has ls 6 [(0, .ref (Ad 0)), (1, .int v1), (2, .int v2), (5, .int v5)] → W p l e rmX6_commits s m args below meth c H locs 0 0 (MQ below (Qcg (PWv (wM Ad cy) D Q) (AS 8 Ad)) args s 0 0 (AS 8 Ad)) (F0 m 140 ls [])) {σ : Rg} {μ : Ar} {v1 : Int32} {v2 : Int32} {v5 : Int32} {H : Heap} {locs : List Loc} {ls : Array Slot} (h : wb_X6_commits_140 Q k2 k140 σ μ v1 v2 v5) (hP : va_P D vwCl (wM Ad cy σ μ) H) (hS : va_S (AS 8 Ad) s.heap H locs) (hl : lv_has ls 6 [(0, .ref (Ad 0)), (1, .int v1), (2, .int v2), (5, .int v5)]) : W p l e rmX6_commits s m args below meth c H locs 0 0 (MQ below (Qcg (PWv (wM Ad cy) D Q) (AS 8 Ad)) args s 0 0 (AS 8 Ad)) (F0 m 140 ls []) := by
  have hx := C.1
  have hb := C.2.1
  refine lv_iload hx hb dX6_commits_140 (lv_at hl 3 rfl) ?_
  refine lv_iload_n hx hb dX6_commits_142 rfl (lv_at hl 2 rfl) ?_
  refine lv_icmp_ge (tgt := 160) hx hb dX6_commits_143 (by decide) (fun hc => ?_) (fun hc => ?_)
  · have h := h.1 hc
    exact wk_X6_commits_160 C hap hk2 h hP hS (lv_sub hl [0, 1, 2] rfl)
  · have h := h.2 hc
    refine lv_aload_n hx hb dX6_commits_146 rfl (lv_at hl 0 rfl) ?_
    refine gM_model_state C hP (C.2.2.2.2.2.2.1 _ wq_934) dX6_commits_147 ?_
    refine lv_iload hx hb dX6_commits_150 (lv_at hl 3 rfl) ?_
    refine lv_iconst (v := 1) hx hb dX6_commits_152 (by decide) ?_
    obtain ⟨hc, h⟩ := h
    refine sM_5 C hap (fun _ h => h) hP hS hc dX6_commits_153 (fun H locs hP hS => ?_)
    obtain ⟨μ153, e153⟩ : ∃ z : Ar, z = updA μ 5 (upd (μ 5) (v5).toNatClampNeg (1 : Int32)) := ⟨_, rfl⟩
    have hP : va_P D vwCl (wM Ad cy σ μ153) H := by rw [e153]; exact hP
    have h := h μ153 e153
    obtain ⟨y154, e154⟩ : ∃ y : Int32, y = v5 + (1 : Int32) := ⟨_, rfl⟩
    have h := h y154 e154
    refine lv_iinc (v := y154) (lv' := [(5, .int y154), (0, .ref (Ad 0)), (1, .int v1), (2, .int v2)]) hx hb dX6_commits_154 hl (k := 3) rfl (by rw [e154]; rfl) (by decide) rfl (fun ls hl => ?_)
    refine lv_goto (tgt := 140) hx hb dX6_commits_157 (by decide) ?_
    exact hk140 h hP hS (lv_sub hl [1, 2, 3, 0] rfl)
def wl_X6_commits_140 (Q : Rg → Ar → Prop) (k2 : Rg → Ar → Int32 → Int32 → Prop) (n : Nat) : Rg → Ar → Int32 → Int32 → Int32 → Prop := Nat.rec (motive := fun _ => Rg → Ar → Int32 → Int32 → Int32 → Prop) (fun _ _ _ _ _ => False) (fun _ k => wb_X6_commits_140 Q k2 k) n
set_option maxHeartbeats 4000000 in
theorem wkl_X6_commits_140 {p : Program} {l : Launch} {e : Env} {s : State} {m : MethodId} {args : Array Value} {below : List Frame} {meth : Method} {c : Code} {D : va_G} {cy : ClassId} {Ad : Nat → Nat} (C : Cx p s m args meth c RX6 cX6_commits 6 (none : Option FieldType) D [(cy, .int)]) (hap : apt 8 Ad) {Q : Rg → Ar → Prop} {k2 : Rg → Ar → Int32 → Int32 → Prop} (hk2 : ∀ {σ : Rg} {μ : Ar} {v1 : Int32} {v2 : Int32} {H : Heap} {locs : List Loc} {ls : Array Slot}, k2 σ μ v1 v2 → va_P D vwCl (wM Ad cy σ μ) H → va_S (AS 8 Ad) s.heap H locs → lv_has ls 6 [(0, .ref (Ad 0)), (1, .int v1), (2, .int v2)] → W p l e rmX6_commits s m args below meth c H locs 0 0 (MQ below (Qcg (PWv (wM Ad cy) D Q) (AS 8 Ad)) args s 0 0 (AS 8 Ad)) (F0 m 2 ls [])) : ∀ (n : Nat) {σ : Rg} {μ : Ar} {v1 : Int32} {v2 : Int32} {v5 : Int32} {H : Heap} {locs : List Loc} {ls : Array Slot} (h : wl_X6_commits_140 Q k2 n σ μ v1 v2 v5) (hP : va_P D vwCl (wM Ad cy σ μ) H) (hS : va_S (AS 8 Ad) s.heap H locs) (hl : lv_has ls 6 [(0, .ref (Ad 0)), (1, .int v1), (2, .int v2), (5, .int v5)]), W p l e rmX6_commits s m args below meth c H locs 0 0 (MQ below (Qcg (PWv (wM Ad cy) D Q) (AS 8 Ad)) args s 0 0 (AS 8 Ad)) (F0 m 140 ls []) := by
  intro n
  induction n with
  | zero => intro σ μ v1 v2 v5 H locs ls h; exact h.elim
  | succ n ih =>
    intro σ μ v1 v2 v5 H locs ls h hP hS hl
    exact wk_X6_commits_140 C hap hk2 (fun h hP hS hl => ih h hP hS hl) h hP hS hl
def wb_X6_commits_120 (Q : Rg → Ar → Prop) (k2 : Rg → Ar → Int32 → Int32 → Prop) (σ : Rg) (μ : Ar) (v1 : Int32) (v2 : Int32) (v3 : Int32) (v4 : Int32) : Prop := ((¬ v4 = 0 → (vp_in v2 64) ∧ (∀ μ134 : Ar, μ134 = updA μ 5 (upd (μ 5) (v2).toNatClampNeg (0 : Int32)) → (∀ y138 : Int32, y138 = (v2 - v3) → (∃ n, wl_X6_commits_140 Q k2 n σ μ134 v1 v2 y138)))) ∧ (v4 = 0 → wb_X6_commits_160 Q k2 σ μ v1 v2))
set_option maxHeartbeats 4000000 in
set_option maxRecDepth 100000 in
theorem wk_X6_commits_120 {p : Program} {l : Launch} {e : Env} {s : State} {m : MethodId} {args : Array Value} {below : List Frame} {meth : Method} {c : Code} {D : va_G} {cy : ClassId} {Ad : Nat → Nat} (C : Cx p s m args meth c RX6 cX6_commits 6 (none : Option FieldType) D [(cy, .int)]) (hap : apt 8 Ad) {Q : Rg → Ar → Prop} {k2 : Rg → Ar → Int32 → Int32 → Prop} (hk2 : ∀ {σ : Rg} {μ : Ar} {v1 : Int32} {v2 : Int32} {H : Heap} {locs : List Loc} {ls : Array Slot}, k2 σ μ v1 v2 → va_P D vwCl (wM Ad cy σ μ) H → va_S (AS 8 Ad) s.heap H locs → lv_has ls 6 [(0, .ref (Ad 0)), (1, .int v1), (2, .int v2)] → W p l e rmX6_commits s m args below meth c H locs 0 0 (MQ below (Qcg (PWv (wM Ad cy) D Q) (AS 8 Ad)) args s 0 0 (AS 8 Ad)) (F0 m 2 ls [])) {σ : Rg} {μ : Ar} {v1 : Int32} {v2 : Int32} {v3 : Int32} {v4 : Int32} {H : Heap} {locs : List Loc} {ls : Array Slot} (h : wb_X6_commits_120 Q k2 σ μ v1 v2 v3 v4) (hP : va_P D vwCl (wM Ad cy σ μ) H) (hS : va_S (AS 8 Ad) s.heap H locs) (hl : lv_has ls 6 [(0, .ref (Ad 0)), (1, .int v1), (2, .int v2), (3, .int v3), (4, .int v4)]) : W p l e rmX6_commits s m args below meth c H locs 0 0 (MQ below (Qcg (PWv (wM Ad cy) D Q) (AS 8 Ad)) args s 0 0 (AS 8 Ad)) (F0 m 120 ls []) := by
  have hx := C.1
  have hb := C.2.1
  refine lv_iload hx hb dX6_commits_120 (lv_at hl 4 rfl) ?_
  refine lv_if_ne (tgt := 128) hx hb dX6_commits_122 (by decide) (fun hc => ?_) (fun hc => ?_)
  · have h := h.1 hc
    refine lv_aload_n hx hb dX6_commits_128 rfl (lv_at hl 0 rfl) ?_
    refine gM_model_state C hP (C.2.2.2.2.2.2.1 _ wq_934) dX6_commits_129 ?_
    refine lv_iload_n hx hb dX6_commits_132 rfl (lv_at hl 2 rfl) ?_
    refine lv_iconst (v := 0) hx hb dX6_commits_133 (by decide) ?_
    obtain ⟨hc, h⟩ := h
    refine sM_5 C hap (fun _ h => h) hP hS hc dX6_commits_134 (fun H locs hP hS => ?_)
    obtain ⟨μ134, e134⟩ : ∃ z : Ar, z = updA μ 5 (upd (μ 5) (v2).toNatClampNeg (0 : Int32)) := ⟨_, rfl⟩
    have hP : va_P D vwCl (wM Ad cy σ μ134) H := by rw [e134]; exact hP
    have h := h μ134 e134
    refine lv_iload_n hx hb dX6_commits_135 rfl (lv_at hl 2 rfl) ?_
    refine lv_iload_n hx hb dX6_commits_136 rfl (lv_at hl 3 rfl) ?_
    refine lv_isub hx hb dX6_commits_137 ?_
    refine lv_topi (fun y138 e138 => ?_)
    have h := h y138 e138
    refine lv_istore (lv' := [(5, .int y138), (0, .ref (Ad 0)), (1, .int v1), (2, .int v2), (3, .int v3), (4, .int v4)]) hx hb dX6_commits_138 hl (by decide) rfl (fun ls hl => ?_)
    obtain ⟨n, h⟩ := h
    exact wkl_X6_commits_140 C hap hk2 n h hP hS (lv_sub hl [1, 2, 3, 0] rfl)
  · have h := h.2 hc
    refine lv_goto (tgt := 160) hx hb dX6_commits_125 (by decide) ?_
    exact wk_X6_commits_160 C hap hk2 h hP hS (lv_sub hl [0, 1, 2] rfl)
def wb_X6_commits_112 (Q : Rg → Ar → Prop) (k2 : Rg → Ar → Int32 → Int32 → Prop) (k74 : Rg → Ar → Int32 → Int32 → Int32 → Int32 → Int32 → Prop) (σ : Rg) (μ : Ar) (v1 : Int32) (v2 : Int32) (v3 : Int32) (v5 : Int32) (t0 : Int32) : Prop := ∀ y114 : Int32, y114 = v5 + (1 : Int32) → (k74 σ μ v1 v2 v3 t0 y114)
set_option maxHeartbeats 4000000 in
set_option maxRecDepth 100000 in
theorem wk_X6_commits_112 {p : Program} {l : Launch} {e : Env} {s : State} {m : MethodId} {args : Array Value} {below : List Frame} {meth : Method} {c : Code} {D : va_G} {cy : ClassId} {Ad : Nat → Nat} (C : Cx p s m args meth c RX6 cX6_commits 6 (none : Option FieldType) D [(cy, .int)]) (hap : apt 8 Ad) {Q : Rg → Ar → Prop} {k2 : Rg → Ar → Int32 → Int32 → Prop} {k74 : Rg → Ar → Int32 → Int32 → Int32 → Int32 → Int32 → Prop} (hk2 : ∀ {σ : Rg} {μ : Ar} {v1 : Int32} {v2 : Int32} {H : Heap} {locs : List Loc} {ls : Array Slot}, k2 σ μ v1 v2 → va_P D vwCl (wM Ad cy σ μ) H → va_S (AS 8 Ad) s.heap H locs → lv_has ls 6 [(0, .ref (Ad 0)), (1, .int v1), (2, .int v2)] → W p l e rmX6_commits s m args below meth c H locs 0 0 (MQ below (Qcg (PWv (wM Ad cy) D Q) (AS 8 Ad)) args s 0 0 (AS 8 Ad)) (F0 m 2 ls [])) (hk74 : ∀ {σ : Rg} {μ : Ar} {v1 : Int32} {v2 : Int32} {v3 : Int32} {v4 : Int32} {v5 : Int32} {H : Heap} {locs : List Loc} {ls : Array Slot}, k74 σ μ v1 v2 v3 v4 v5 → va_P D vwCl (wM Ad cy σ μ) H → va_S (AS 8 Ad) s.heap H locs → lv_has ls 6 [(0, .ref (Ad 0)), (1, .int v1), (2, .int v2), (3, .int v3), (4, .int v4), (5, .int v5)] → W p l e rmX6_commits s m args below meth c H locs 0 0 (MQ below (Qcg (PWv (wM Ad cy) D Q) (AS 8 Ad)) args s 0 0 (AS 8 Ad)) (F0 m 74 ls [])) {σ : Rg} {μ : Ar} {v1 : Int32} {v2 : Int32} {v3 : Int32} {v5 : Int32} {t0 : Int32} {H : Heap} {locs : List Loc} {ls : Array Slot} (h : wb_X6_commits_112 Q k2 k74 σ μ v1 v2 v3 v5 t0) (hP : va_P D vwCl (wM Ad cy σ μ) H) (hS : va_S (AS 8 Ad) s.heap H locs) (hl : lv_has ls 6 [(0, .ref (Ad 0)), (1, .int v1), (2, .int v2), (3, .int v3), (5, .int v5)]) : W p l e rmX6_commits s m args below meth c H locs 0 0 (MQ below (Qcg (PWv (wM Ad cy) D Q) (AS 8 Ad)) args s 0 0 (AS 8 Ad)) (F0 m 112 ls [.int t0]) := by
  have hx := C.1
  have hb := C.2.1
  refine lv_istore (lv' := [(4, .int t0), (0, .ref (Ad 0)), (1, .int v1), (2, .int v2), (3, .int v3), (5, .int v5)]) hx hb dX6_commits_112 hl (by decide) rfl (fun ls hl => ?_)
  obtain ⟨y114, e114⟩ : ∃ y : Int32, y = v5 + (1 : Int32) := ⟨_, rfl⟩
  have h := h y114 e114
  refine lv_iinc (v := y114) (lv' := [(5, .int y114), (4, .int t0), (0, .ref (Ad 0)), (1, .int v1), (2, .int v2), (3, .int v3)]) hx hb dX6_commits_114 hl (k := 5) rfl (by rw [e114]; rfl) (by decide) rfl (fun ls hl => ?_)
  refine lv_goto (tgt := 74) hx hb dX6_commits_117 (by decide) ?_
  exact hk74 h hP hS (lv_sub hl [2, 3, 4, 5, 1, 0] rfl)
def wb_X6_commits_111 (Q : Rg → Ar → Prop) (k2 : Rg → Ar → Int32 → Int32 → Prop) (k74 : Rg → Ar → Int32 → Int32 → Int32 → Int32 → Int32 → Prop) (σ : Rg) (μ : Ar) (v1 : Int32) (v2 : Int32) (v3 : Int32) (v5 : Int32) : Prop := wb_X6_commits_112 Q k2 k74 σ μ v1 v2 v3 v5 (0 : Int32)
set_option maxHeartbeats 4000000 in
set_option maxRecDepth 100000 in
theorem wk_X6_commits_111 {p : Program} {l : Launch} {e : Env} {s : State} {m : MethodId} {args : Array Value} {below : List Frame} {meth : Method} {c : Code} {D : va_G} {cy : ClassId} {Ad : Nat → Nat} (C : Cx p s m args meth c RX6 cX6_commits 6 (none : Option FieldType) D [(cy, .int)]) (hap : apt 8 Ad) {Q : Rg → Ar → Prop} {k2 : Rg → Ar → Int32 → Int32 → Prop} {k74 : Rg → Ar → Int32 → Int32 → Int32 → Int32 → Int32 → Prop} (hk2 : ∀ {σ : Rg} {μ : Ar} {v1 : Int32} {v2 : Int32} {H : Heap} {locs : List Loc} {ls : Array Slot}, k2 σ μ v1 v2 → va_P D vwCl (wM Ad cy σ μ) H → va_S (AS 8 Ad) s.heap H locs → lv_has ls 6 [(0, .ref (Ad 0)), (1, .int v1), (2, .int v2)] → W p l e rmX6_commits s m args below meth c H locs 0 0 (MQ below (Qcg (PWv (wM Ad cy) D Q) (AS 8 Ad)) args s 0 0 (AS 8 Ad)) (F0 m 2 ls [])) (hk74 : ∀ {σ : Rg} {μ : Ar} {v1 : Int32} {v2 : Int32} {v3 : Int32} {v4 : Int32} {v5 : Int32} {H : Heap} {locs : List Loc} {ls : Array Slot}, k74 σ μ v1 v2 v3 v4 v5 → va_P D vwCl (wM Ad cy σ μ) H → va_S (AS 8 Ad) s.heap H locs → lv_has ls 6 [(0, .ref (Ad 0)), (1, .int v1), (2, .int v2), (3, .int v3), (4, .int v4), (5, .int v5)] → W p l e rmX6_commits s m args below meth c H locs 0 0 (MQ below (Qcg (PWv (wM Ad cy) D Q) (AS 8 Ad)) args s 0 0 (AS 8 Ad)) (F0 m 74 ls [])) {σ : Rg} {μ : Ar} {v1 : Int32} {v2 : Int32} {v3 : Int32} {v5 : Int32} {H : Heap} {locs : List Loc} {ls : Array Slot} (h : wb_X6_commits_111 Q k2 k74 σ μ v1 v2 v3 v5) (hP : va_P D vwCl (wM Ad cy σ μ) H) (hS : va_S (AS 8 Ad) s.heap H locs) (hl : lv_has ls 6 [(0, .ref (Ad 0)), (1, .int v1), (2, .int v2), (3, .int v3), (5, .int v5)]) : W p l e rmX6_commits s m args below meth c H locs 0 0 (MQ below (Qcg (PWv (wM Ad cy) D Q) (AS 8 Ad)) args s 0 0 (AS 8 Ad)) (F0 m 111 ls []) := by
  have hx := C.1
  have hb := C.2.1
  refine lv_iconst (v := 0) hx hb dX6_commits_111 (by decide) ?_
  exact wk_X6_commits_112 C hap hk2 hk74 h hP hS (lv_sub hl [0, 1, 2, 3, 4] rfl)
def wb_X6_commits_74 (Q : Rg → Ar → Prop) (k2 : Rg → Ar → Int32 → Int32 → Prop) (k74 : Rg → Ar → Int32 → Int32 → Int32 → Int32 → Int32 → Prop) (σ : Rg) (μ : Ar) (v1 : Int32) (v2 : Int32) (v3 : Int32) (v4 : Int32) (v5 : Int32) : Prop := ((v2 ≤ v5 → wb_X6_commits_120 Q k2 σ μ v1 v2 v3 v4) ∧ (¬ v2 ≤ v5 → ((v4 = 0 → wb_X6_commits_120 Q k2 σ μ v1 v2 v3 v4) ∧ (¬ v4 = 0 → (vp_in v5 64) ∧ (((¬ (μ 3 (v5).toNatClampNeg) = (2 : Int32) → wb_X6_commits_111 Q k2 k74 σ μ v1 v2 v3 v5) ∧ ((μ 3 (v5).toNatClampNeg) = (2 : Int32) → (vp_in v5 64) ∧ ((((μ 5 (v5).toNatClampNeg) = (2 : Int32) → wb_X6_commits_111 Q k2 k74 σ μ v1 v2 v3 v5) ∧ (¬ (μ 5 (v5).toNatClampNeg) = (2 : Int32) → wb_X6_commits_112 Q k2 k74 σ μ v1 v2 v3 v5 (1 : Int32)))))))))))
set_option maxHeartbeats 4000000 in
set_option maxRecDepth 100000 in
theorem wk_X6_commits_74 {p : Program} {l : Launch} {e : Env} {s : State} {m : MethodId} {args : Array Value} {below : List Frame} {meth : Method} {c : Code} {D : va_G} {cy : ClassId} {Ad : Nat → Nat} (C : Cx p s m args meth c RX6 cX6_commits 6 (none : Option FieldType) D [(cy, .int)]) (hap : apt 8 Ad) {Q : Rg → Ar → Prop} {k2 : Rg → Ar → Int32 → Int32 → Prop} {k74 : Rg → Ar → Int32 → Int32 → Int32 → Int32 → Int32 → Prop} (hk2 : ∀ {σ : Rg} {μ : Ar} {v1 : Int32} {v2 : Int32} {H : Heap} {locs : List Loc} {ls : Array Slot}, k2 σ μ v1 v2 → va_P D vwCl (wM Ad cy σ μ) H → va_S (AS 8 Ad) s.heap H locs → lv_has ls 6 [(0, .ref (Ad 0)), (1, .int v1), (2, .int v2)] → W p l e rmX6_commits s m args below meth c H locs 0 0 (MQ below (Qcg (PWv (wM Ad cy) D Q) (AS 8 Ad)) args s 0 0 (AS 8 Ad)) (F0 m 2 ls [])) (hk74 : ∀ {σ : Rg} {μ : Ar} {v1 : Int32} {v2 : Int32} {v3 : Int32} {v4 : Int32} {v5 : Int32} {H : Heap} {locs : List Loc} {ls : Array Slot}, k74 σ μ v1 v2 v3 v4 v5 → va_P D vwCl (wM Ad cy σ μ) H → va_S (AS 8 Ad) s.heap H locs → lv_has ls 6 [(0, .ref (Ad 0)), (1, .int v1), (2, .int v2), (3, .int v3), (4, .int v4), (5, .int v5)] → W p l e rmX6_commits s m args below meth c H locs 0 0 (MQ below (Qcg (PWv (wM Ad cy) D Q) (AS 8 Ad)) args s 0 0 (AS 8 Ad)) (F0 m 74 ls [])) {σ : Rg} {μ : Ar} {v1 : Int32} {v2 : Int32} {v3 : Int32} {v4 : Int32} {v5 : Int32} {H : Heap} {locs : List Loc} {ls : Array Slot} (h : wb_X6_commits_74 Q k2 k74 σ μ v1 v2 v3 v4 v5) (hP : va_P D vwCl (wM Ad cy σ μ) H) (hS : va_S (AS 8 Ad) s.heap H locs) (hl : lv_has ls 6 [(0, .ref (Ad 0)), (1, .int v1), (2, .int v2), (3, .int v3), (4, .int v4), (5, .int v5)]) : W p l e rmX6_commits s m args below meth c H locs 0 0 (MQ below (Qcg (PWv (wM Ad cy) D Q) (AS 8 Ad)) args s 0 0 (AS 8 Ad)) (F0 m 74 ls []) := by
  have hx := C.1
  have hb := C.2.1
  refine lv_iload hx hb dX6_commits_74 (lv_at hl 5 rfl) ?_
  refine lv_iload_n hx hb dX6_commits_76 rfl (lv_at hl 2 rfl) ?_
  refine lv_icmp_ge (tgt := 120) hx hb dX6_commits_77 (by decide) (fun hc => ?_) (fun hc => ?_)
  · have h := h.1 hc
    exact wk_X6_commits_120 C hap hk2 h hP hS (lv_sub hl [0, 1, 2, 3, 4] rfl)
  · have h := h.2 hc
    refine lv_iload hx hb dX6_commits_80 (lv_at hl 4 rfl) ?_
    refine lv_if_eq (tgt := 120) hx hb dX6_commits_82 (by decide) (fun hc => ?_) (fun hc => ?_)
    · have h := h.1 hc
      exact wk_X6_commits_120 C hap hk2 h hP hS (lv_sub hl [0, 1, 2, 3, 4] rfl)
    · have h := h.2 hc
      refine lv_aload_n hx hb dX6_commits_85 rfl (lv_at hl 0 rfl) ?_
      refine gM_model_sort C hP (C.2.2.2.2.2.2.1 _ wq_932) dX6_commits_86 ?_
      refine lv_iload hx hb dX6_commits_89 (lv_at hl 5 rfl) ?_
      obtain ⟨hc, h⟩ := h
      refine lM_3 C hP hc dX6_commits_91 ?_
      refine lv_iconst (v := 2) hx hb dX6_commits_92 (by decide) ?_
      refine lv_icmp_ne (tgt := 111) hx hb dX6_commits_93 (by decide) (fun hc => ?_) (fun hc => ?_)
      · have h := h.1 hc
        exact wk_X6_commits_111 C hap hk2 hk74 h hP hS (lv_sub hl [0, 1, 2, 3, 5] rfl)
      · have h := h.2 hc
        refine lv_aload_n hx hb dX6_commits_96 rfl (lv_at hl 0 rfl) ?_
        refine gM_model_state C hP (C.2.2.2.2.2.2.1 _ wq_934) dX6_commits_97 ?_
        refine lv_iload hx hb dX6_commits_100 (lv_at hl 5 rfl) ?_
        obtain ⟨hc, h⟩ := h
        refine lM_5 C hP hc dX6_commits_102 ?_
        refine lv_iconst (v := 2) hx hb dX6_commits_103 (by decide) ?_
        refine lv_icmp_eq (tgt := 111) hx hb dX6_commits_104 (by decide) (fun hc => ?_) (fun hc => ?_)
        · have h := h.1 hc
          exact wk_X6_commits_111 C hap hk2 hk74 h hP hS (lv_sub hl [0, 1, 2, 3, 5] rfl)
        · have h := h.2 hc
          refine lv_iconst (v := 1) hx hb dX6_commits_107 (by decide) ?_
          refine lv_goto (tgt := 112) hx hb dX6_commits_108 (by decide) ?_
          exact wk_X6_commits_112 C hap hk2 hk74 h hP hS (lv_sub hl [0, 1, 2, 3, 5] rfl)
def wl_X6_commits_74 (Q : Rg → Ar → Prop) (k2 : Rg → Ar → Int32 → Int32 → Prop) (n : Nat) : Rg → Ar → Int32 → Int32 → Int32 → Int32 → Int32 → Prop := Nat.rec (motive := fun _ => Rg → Ar → Int32 → Int32 → Int32 → Int32 → Int32 → Prop) (fun _ _ _ _ _ _ _ => False) (fun _ k => wb_X6_commits_74 Q k2 k) n
set_option maxHeartbeats 4000000 in
theorem wkl_X6_commits_74 {p : Program} {l : Launch} {e : Env} {s : State} {m : MethodId} {args : Array Value} {below : List Frame} {meth : Method} {c : Code} {D : va_G} {cy : ClassId} {Ad : Nat → Nat} (C : Cx p s m args meth c RX6 cX6_commits 6 (none : Option FieldType) D [(cy, .int)]) (hap : apt 8 Ad) {Q : Rg → Ar → Prop} {k2 : Rg → Ar → Int32 → Int32 → Prop} (hk2 : ∀ {σ : Rg} {μ : Ar} {v1 : Int32} {v2 : Int32} {H : Heap} {locs : List Loc} {ls : Array Slot}, k2 σ μ v1 v2 → va_P D vwCl (wM Ad cy σ μ) H → va_S (AS 8 Ad) s.heap H locs → lv_has ls 6 [(0, .ref (Ad 0)), (1, .int v1), (2, .int v2)] → W p l e rmX6_commits s m args below meth c H locs 0 0 (MQ below (Qcg (PWv (wM Ad cy) D Q) (AS 8 Ad)) args s 0 0 (AS 8 Ad)) (F0 m 2 ls [])) : ∀ (n : Nat) {σ : Rg} {μ : Ar} {v1 : Int32} {v2 : Int32} {v3 : Int32} {v4 : Int32} {v5 : Int32} {H : Heap} {locs : List Loc} {ls : Array Slot} (h : wl_X6_commits_74 Q k2 n σ μ v1 v2 v3 v4 v5) (hP : va_P D vwCl (wM Ad cy σ μ) H) (hS : va_S (AS 8 Ad) s.heap H locs) (hl : lv_has ls 6 [(0, .ref (Ad 0)), (1, .int v1), (2, .int v2), (3, .int v3), (4, .int v4), (5, .int v5)]), W p l e rmX6_commits s m args below meth c H locs 0 0 (MQ below (Qcg (PWv (wM Ad cy) D Q) (AS 8 Ad)) args s 0 0 (AS 8 Ad)) (F0 m 74 ls []) := by
  intro n
  induction n with
  | zero => intro σ μ v1 v2 v3 v4 v5 H locs ls h; exact h.elim
  | succ n ih =>
    intro σ μ v1 v2 v3 v4 v5 H locs ls h hP hS hl
    exact wk_X6_commits_74 C hap hk2 (fun h hP hS hl => ih h hP hS hl) h hP hS hl
def wb_X6_commits_67 (Q : Rg → Ar → Prop) (k2 : Rg → Ar → Int32 → Int32 → Prop) (σ : Rg) (μ : Ar) (v1 : Int32) (v2 : Int32) (v3 : Int32) (t0 : Int32) : Prop := ∀ y72 : Int32, y72 = (v2 - v3) → (∃ n, wl_X6_commits_74 Q k2 n σ μ v1 v2 v3 t0 y72)
set_option maxHeartbeats 4000000 in
set_option maxRecDepth 100000 in
theorem wk_X6_commits_67 {p : Program} {l : Launch} {e : Env} {s : State} {m : MethodId} {args : Array Value} {below : List Frame} {meth : Method} {c : Code} {D : va_G} {cy : ClassId} {Ad : Nat → Nat} (C : Cx p s m args meth c RX6 cX6_commits 6 (none : Option FieldType) D [(cy, .int)]) (hap : apt 8 Ad) {Q : Rg → Ar → Prop} {k2 : Rg → Ar → Int32 → Int32 → Prop} (hk2 : ∀ {σ : Rg} {μ : Ar} {v1 : Int32} {v2 : Int32} {H : Heap} {locs : List Loc} {ls : Array Slot}, k2 σ μ v1 v2 → va_P D vwCl (wM Ad cy σ μ) H → va_S (AS 8 Ad) s.heap H locs → lv_has ls 6 [(0, .ref (Ad 0)), (1, .int v1), (2, .int v2)] → W p l e rmX6_commits s m args below meth c H locs 0 0 (MQ below (Qcg (PWv (wM Ad cy) D Q) (AS 8 Ad)) args s 0 0 (AS 8 Ad)) (F0 m 2 ls [])) {σ : Rg} {μ : Ar} {v1 : Int32} {v2 : Int32} {v3 : Int32} {t0 : Int32} {H : Heap} {locs : List Loc} {ls : Array Slot} (h : wb_X6_commits_67 Q k2 σ μ v1 v2 v3 t0) (hP : va_P D vwCl (wM Ad cy σ μ) H) (hS : va_S (AS 8 Ad) s.heap H locs) (hl : lv_has ls 6 [(0, .ref (Ad 0)), (1, .int v1), (2, .int v2), (3, .int v3)]) : W p l e rmX6_commits s m args below meth c H locs 0 0 (MQ below (Qcg (PWv (wM Ad cy) D Q) (AS 8 Ad)) args s 0 0 (AS 8 Ad)) (F0 m 67 ls [.int t0]) := by
  have hx := C.1
  have hb := C.2.1
  refine lv_istore (lv' := [(4, .int t0), (0, .ref (Ad 0)), (1, .int v1), (2, .int v2), (3, .int v3)]) hx hb dX6_commits_67 hl (by decide) rfl (fun ls hl => ?_)
  refine lv_iload_n hx hb dX6_commits_69 rfl (lv_at hl 3 rfl) ?_
  refine lv_iload_n hx hb dX6_commits_70 rfl (lv_at hl 4 rfl) ?_
  refine lv_isub hx hb dX6_commits_71 ?_
  refine lv_topi (fun y72 e72 => ?_)
  have h := h y72 e72
  refine lv_istore (lv' := [(5, .int y72), (4, .int t0), (0, .ref (Ad 0)), (1, .int v1), (2, .int v2), (3, .int v3)]) hx hb dX6_commits_72 hl (by decide) rfl (fun ls hl => ?_)
  obtain ⟨n, h⟩ := h
  exact wkl_X6_commits_74 C hap hk2 n h hP hS (lv_sub hl [2, 3, 4, 5, 1, 0] rfl)
def wb_X6_commits_66 (Q : Rg → Ar → Prop) (k2 : Rg → Ar → Int32 → Int32 → Prop) (σ : Rg) (μ : Ar) (v1 : Int32) (v2 : Int32) (v3 : Int32) : Prop := wb_X6_commits_67 Q k2 σ μ v1 v2 v3 (0 : Int32)
set_option maxHeartbeats 4000000 in
set_option maxRecDepth 100000 in
theorem wk_X6_commits_66 {p : Program} {l : Launch} {e : Env} {s : State} {m : MethodId} {args : Array Value} {below : List Frame} {meth : Method} {c : Code} {D : va_G} {cy : ClassId} {Ad : Nat → Nat} (C : Cx p s m args meth c RX6 cX6_commits 6 (none : Option FieldType) D [(cy, .int)]) (hap : apt 8 Ad) {Q : Rg → Ar → Prop} {k2 : Rg → Ar → Int32 → Int32 → Prop} (hk2 : ∀ {σ : Rg} {μ : Ar} {v1 : Int32} {v2 : Int32} {H : Heap} {locs : List Loc} {ls : Array Slot}, k2 σ μ v1 v2 → va_P D vwCl (wM Ad cy σ μ) H → va_S (AS 8 Ad) s.heap H locs → lv_has ls 6 [(0, .ref (Ad 0)), (1, .int v1), (2, .int v2)] → W p l e rmX6_commits s m args below meth c H locs 0 0 (MQ below (Qcg (PWv (wM Ad cy) D Q) (AS 8 Ad)) args s 0 0 (AS 8 Ad)) (F0 m 2 ls [])) {σ : Rg} {μ : Ar} {v1 : Int32} {v2 : Int32} {v3 : Int32} {H : Heap} {locs : List Loc} {ls : Array Slot} (h : wb_X6_commits_66 Q k2 σ μ v1 v2 v3) (hP : va_P D vwCl (wM Ad cy σ μ) H) (hS : va_S (AS 8 Ad) s.heap H locs) (hl : lv_has ls 6 [(0, .ref (Ad 0)), (1, .int v1), (2, .int v2), (3, .int v3)]) : W p l e rmX6_commits s m args below meth c H locs 0 0 (MQ below (Qcg (PWv (wM Ad cy) D Q) (AS 8 Ad)) args s 0 0 (AS 8 Ad)) (F0 m 66 ls []) := by
  have hx := C.1
  have hb := C.2.1
  refine lv_iconst (v := 0) hx hb dX6_commits_66 (by decide) ?_
  exact wk_X6_commits_67 C hap hk2 h hP hS (lv_sub hl [0, 1, 2, 3] rfl)
def wb_X6_commits_2 (Q : Rg → Ar → Prop) (k2 : Rg → Ar → Int32 → Int32 → Prop) (σ : Rg) (μ : Ar) (v1 : Int32) (v2 : Int32) : Prop := (((σ 2) ≤ v2 → Q σ μ) ∧ (¬ (σ 2) ≤ v2 → (vp_in v2 64) ∧ (((¬ (μ 3 (v2).toNatClampNeg) = (3 : Int32) → wb_X6_commits_160 Q k2 σ μ v1 v2) ∧ ((μ 3 (v2).toNatClampNeg) = (3 : Int32) → (vp_in v2 64) ∧ (((¬ (μ 5 (v2).toNatClampNeg) = (2 : Int32) → (vp_in v2 64) ∧ (wp_X6_byteAt σ μ v1 ((μ 2 (v2).toNatClampNeg) + (2 : Int32)) (fun r43 σ43 μ43 => wp_X6_within r43 (1 : Int32) (8 : Int32) (fun r51 => ((r51 = 0 → wb_X6_commits_66 Q k2 σ43 μ43 v1 v2 r43) ∧ (¬ r51 = 0 → ((v2 < r43 → wb_X6_commits_66 Q k2 σ43 μ43 v1 v2 r43) ∧ (¬ v2 < r43 → wb_X6_commits_67 Q k2 σ43 μ43 v1 v2 r43 (1 : Int32))))))))) ∧ ((μ 5 (v2).toNatClampNeg) = (2 : Int32) → wb_X6_commits_160 Q k2 σ μ v1 v2))))))))
set_option maxHeartbeats 4000000 in
set_option maxRecDepth 100000 in
theorem wk_X6_commits_2 {p : Program} {l : Launch} {e : Env} {s : State} {m : MethodId} {args : Array Value} {below : List Frame} {meth : Method} {c : Code} {D : va_G} {cy : ClassId} {Ad : Nat → Nat} (C : Cx p s m args meth c RX6 cX6_commits 6 (none : Option FieldType) D [(cy, .int)]) (hap : apt 8 Ad) {Q : Rg → Ar → Prop} {k2 : Rg → Ar → Int32 → Int32 → Prop} (hk2 : ∀ {σ : Rg} {μ : Ar} {v1 : Int32} {v2 : Int32} {H : Heap} {locs : List Loc} {ls : Array Slot}, k2 σ μ v1 v2 → va_P D vwCl (wM Ad cy σ μ) H → va_S (AS 8 Ad) s.heap H locs → lv_has ls 6 [(0, .ref (Ad 0)), (1, .int v1), (2, .int v2)] → W p l e rmX6_commits s m args below meth c H locs 0 0 (MQ below (Qcg (PWv (wM Ad cy) D Q) (AS 8 Ad)) args s 0 0 (AS 8 Ad)) (F0 m 2 ls [])) {σ : Rg} {μ : Ar} {v1 : Int32} {v2 : Int32} {H : Heap} {locs : List Loc} {ls : Array Slot} (h : wb_X6_commits_2 Q k2 σ μ v1 v2) (hP : va_P D vwCl (wM Ad cy σ μ) H) (hS : va_S (AS 8 Ad) s.heap H locs) (hl : lv_has ls 6 [(0, .ref (Ad 0)), (1, .int v1), (2, .int v2)]) : W p l e rmX6_commits s m args below meth c H locs 0 0 (MQ below (Qcg (PWv (wM Ad cy) D Q) (AS 8 Ad)) args s 0 0 (AS 8 Ad)) (F0 m 2 ls []) := by
  have hx := C.1
  have hb := C.2.1
  refine lv_iload_n hx hb dX6_commits_2 rfl (lv_at hl 2 rfl) ?_
  refine lv_aload_n hx hb dX6_commits_3 rfl (lv_at hl 0 rfl) ?_
  refine gM_model_entries C hP (C.2.2.2.2.2.2.1 _ wq_928) dX6_commits_4 ?_
  refine lv_icmp_ge (tgt := 166) hx hb dX6_commits_7 (by decide) (fun hc => ?_) (fun hc => ?_)
  · have h := h.1 hc
    exact endV C hS ⟨_, _, rfl, h, hP⟩ dX6_commits_166
  · have h := h.2 hc
    refine lv_aload_n hx hb dX6_commits_10 rfl (lv_at hl 0 rfl) ?_
    refine gM_model_sort C hP (C.2.2.2.2.2.2.1 _ wq_932) dX6_commits_11 ?_
    refine lv_iload_n hx hb dX6_commits_14 rfl (lv_at hl 2 rfl) ?_
    obtain ⟨hc, h⟩ := h
    refine lM_3 C hP hc dX6_commits_15 ?_
    refine lv_iconst (v := 3) hx hb dX6_commits_16 (by decide) ?_
    refine lv_icmp_ne (tgt := 160) hx hb dX6_commits_17 (by decide) (fun hc => ?_) (fun hc => ?_)
    · have h := h.1 hc
      exact wk_X6_commits_160 C hap hk2 h hP hS (lv_sub hl [0, 1, 2] rfl)
    · have h := h.2 hc
      refine lv_aload_n hx hb dX6_commits_20 rfl (lv_at hl 0 rfl) ?_
      refine gM_model_state C hP (C.2.2.2.2.2.2.1 _ wq_934) dX6_commits_21 ?_
      refine lv_iload_n hx hb dX6_commits_24 rfl (lv_at hl 2 rfl) ?_
      obtain ⟨hc, h⟩ := h
      refine lM_5 C hP hc dX6_commits_25 ?_
      refine lv_iconst (v := 2) hx hb dX6_commits_26 (by decide) ?_
      refine lv_icmp_ne (tgt := 33) hx hb dX6_commits_27 (by decide) (fun hc => ?_) (fun hc => ?_)
      · have h := h.1 hc
        refine lv_aload_n hx hb dX6_commits_33 rfl (lv_at hl 0 rfl) ?_
        refine lv_iload_n hx hb dX6_commits_34 rfl (lv_at hl 1 rfl) ?_
        refine lv_aload_n hx hb dX6_commits_35 rfl (lv_at hl 0 rfl) ?_
        refine gM_model_place C hP (C.2.2.2.2.2.2.1 _ wq_931) dX6_commits_36 ?_
        refine lv_iload_n hx hb dX6_commits_39 rfl (lv_at hl 2 rfl) ?_
        obtain ⟨hc, h⟩ := h
        refine lM_2 C hP hc dX6_commits_40 ?_
        refine lv_iconst (v := 2) hx hb dX6_commits_41 (by decide) ?_
        refine lv_iadd hx hb dX6_commits_42 ?_
        refine kWi (rnV C (ct_X6_byteAt l D cy Ad hap h) yv_X6_byteAt wq_997 ⟨rfl, rfl⟩ ⟨Nat.le_of_ble_eq_true rfl, Nat.le_of_ble_eq_true rfl⟩ ⟨Nat.zero_le _, Nat.zero_le _⟩ (vM_model C hP) hP hl.1 rfl rfl (Nat.le_of_ble_eq_true rfl) dX6_commits_43) hS (fun _ h => h) (fun r43 σ43 μ43 H locs h hP hk hS => ?_)
        refine lv_istore_n (lv' := [(3, .int r43), (0, .ref (Ad 0)), (1, .int v1), (2, .int v2)]) hx hb dX6_commits_46 rfl hl (by decide) rfl (fun ls hl => ?_)
        refine lv_iload_n hx hb dX6_commits_47 rfl (lv_at hl 0 rfl) ?_
        refine lv_iconst (v := 1) hx hb dX6_commits_48 (by decide) ?_
        refine lv_bipush (v := 8) hx hb dX6_commits_49 (by decide) ?_
        refine kNi (rnS (C.none) (ct_X6_within l D h) ys_X6_within wq_974 ⟨rfl, rfl⟩ ⟨Nat.le_of_ble_eq_true rfl, Nat.le_of_ble_eq_true rfl⟩ ⟨Nat.zero_le _, Nat.zero_le _⟩ trivial hl.1 rfl rfl (Nat.le_of_ble_eq_true rfl) dX6_commits_51) hS (fun _ h => h.elim) (fun r51 H locs h hk hS => ?_)
        have hP := keepN hP hk
        refine lv_if_eq (tgt := 66) hx hb dX6_commits_54 (by decide) (fun hc => ?_) (fun hc => ?_)
        · have h := h.1 hc
          exact wk_X6_commits_66 C hap hk2 h hP hS (lv_sub hl [1, 2, 3, 0] rfl)
        · have h := h.2 hc
          refine lv_iload_n hx hb dX6_commits_57 rfl (lv_at hl 0 rfl) ?_
          refine lv_iload_n hx hb dX6_commits_58 rfl (lv_at hl 3 rfl) ?_
          refine lv_icmp_gt (tgt := 66) hx hb dX6_commits_59 (by decide) (fun hc => ?_) (fun hc => ?_)
          · have h := h.1 hc
            exact wk_X6_commits_66 C hap hk2 h hP hS (lv_sub hl [1, 2, 3, 0] rfl)
          · have h := h.2 hc
            refine lv_iconst (v := 1) hx hb dX6_commits_62 (by decide) ?_
            refine lv_goto (tgt := 67) hx hb dX6_commits_63 (by decide) ?_
            exact wk_X6_commits_67 C hap hk2 h hP hS (lv_sub hl [1, 2, 3, 0] rfl)
      · have h := h.2 hc
        refine lv_goto (tgt := 160) hx hb dX6_commits_30 (by decide) ?_
        exact wk_X6_commits_160 C hap hk2 h hP hS (lv_sub hl [0, 1, 2] rfl)
def wl_X6_commits_2 (Q : Rg → Ar → Prop) (n : Nat) : Rg → Ar → Int32 → Int32 → Prop := Nat.rec (motive := fun _ => Rg → Ar → Int32 → Int32 → Prop) (fun _ _ _ _ => False) (fun _ k => wb_X6_commits_2 Q k) n
set_option maxHeartbeats 4000000 in
theorem wkl_X6_commits_2 {p : Program} {l : Launch} {e : Env} {s : State} {m : MethodId} {args : Array Value} {below : List Frame} {meth : Method} {c : Code} {D : va_G} {cy : ClassId} {Ad : Nat → Nat} (C : Cx p s m args meth c RX6 cX6_commits 6 (none : Option FieldType) D [(cy, .int)]) (hap : apt 8 Ad) {Q : Rg → Ar → Prop}  : ∀ (n : Nat) {σ : Rg} {μ : Ar} {v1 : Int32} {v2 : Int32} {H : Heap} {locs : List Loc} {ls : Array Slot} (h : wl_X6_commits_2 Q  n σ μ v1 v2) (hP : va_P D vwCl (wM Ad cy σ μ) H) (hS : va_S (AS 8 Ad) s.heap H locs) (hl : lv_has ls 6 [(0, .ref (Ad 0)), (1, .int v1), (2, .int v2)]), W p l e rmX6_commits s m args below meth c H locs 0 0 (MQ below (Qcg (PWv (wM Ad cy) D Q) (AS 8 Ad)) args s 0 0 (AS 8 Ad)) (F0 m 2 ls []) := by
  intro n
  induction n with
  | zero => intro σ μ v1 v2 H locs ls h; exact h.elim
  | succ n ih =>
    intro σ μ v1 v2 H locs ls h hP hS hl
    exact wk_X6_commits_2 C hap (fun h hP hS hl => ih h hP hS hl) h hP hS hl
def wp_X6_commits (σ : Rg) (μ : Ar) (x1 : Int32) (Q : Rg → Ar → Prop) : Prop := ∃ n, wl_X6_commits_2 Q n σ μ x1 (0 : Int32)
set_option maxHeartbeats 4000000 in
set_option maxRecDepth 100000 in
theorem ct_X6_commits (l : Launch) (D : va_G) (cy : ClassId) (Ad : Nat → Nat) (hap : apt 8 Ad) {σ : Rg} {μ : Ar} {x1 : Int32} {Q : Rg → Ar → Prop} (h : wp_X6_commits σ μ x1 Q) : Ct l yX6_commits cX6_commits 6 (none : Option FieldType) rmX6_commits D [(cy, .int)] (fun H => va_P D vwCl (wM Ad cy σ μ) H) [.ref (Ad 0), .int x1] (AS 8 Ad) (PWv (wM Ad cy) D Q) := by
  refine Ct.of (by decide) (Nat.le_of_ble_eq_true rfl) ?_
  intro p e s m below meth c ls C hP hl
  have hl : lv_has ls 6 [(0, .ref (Ad 0)), (1, .int x1)] := hl
  have hS : va_S (AS 8 Ad) s.heap s.heap [] := va_S.rf
  have hx := C.1
  have hb := C.2.1
  refine lv_iconst (v := 0) hx hb dX6_commits_0 (by decide) ?_
  refine lv_istore_n (lv' := [(2, .int (0 : Int32)), (0, .ref (Ad 0)), (1, .int x1)]) hx hb dX6_commits_1 rfl hl (by decide) rfl (fun ls hl => ?_)
  obtain ⟨n, h⟩ := h
  exact wkl_X6_commits_2 C hap n h hP hS (lv_sub hl [1, 2, 0] rfl)
abbrev rmX6_reads : Room := { frames := 2, cells := 0, slots := 0, locals := 47 }
def wb_X6_reads_334 (Q : Rg → Ar → Prop) (k307 : Rg → Ar → Int32 → Prop) (σ : Rg) (μ : Ar) (v3 : Int32) : Prop := ∀ y334 : Int32, y334 = v3 + (1 : Int32) → (k307 σ μ y334)
set_option maxHeartbeats 4000000 in
set_option maxRecDepth 100000 in
theorem wk_X6_reads_334 {p : Program} {l : Launch} {e : Env} {s : State} {m : MethodId} {args : Array Value} {below : List Frame} {meth : Method} {c : Code} {D : va_G} {cy : ClassId} {Ad : Nat → Nat} (C : Cx p s m args meth c RX6 cX6_reads 6 (none : Option FieldType) D [(cy, .int)]) (hap : apt 8 Ad) {Q : Rg → Ar → Prop} {k307 : Rg → Ar → Int32 → Prop} (hk307 : ∀ {σ : Rg} {μ : Ar} {v3 : Int32} {H : Heap} {locs : List Loc} {ls : Array Slot}, k307 σ μ v3 → va_P D vwCl (wM Ad cy σ μ) H → va_S (AS 8 Ad) s.heap H locs → lv_has ls 6 [(0, .ref (Ad 0)), (3, .int v3)] → W p l e rmX6_reads s m args below meth c H locs 0 0 (MQ below (Qcg (PWv (wM Ad cy) D Q) (AS 8 Ad)) args s 0 0 (AS 8 Ad)) (F0 m 307 ls [])) {σ : Rg} {μ : Ar} {v3 : Int32} {H : Heap} {locs : List Loc} {ls : Array Slot} (h : wb_X6_reads_334 Q k307 σ μ v3) (hP : va_P D vwCl (wM Ad cy σ μ) H) (hS : va_S (AS 8 Ad) s.heap H locs) (hl : lv_has ls 6 [(0, .ref (Ad 0)), (3, .int v3)]) : W p l e rmX6_reads s m args below meth c H locs 0 0 (MQ below (Qcg (PWv (wM Ad cy) D Q) (AS 8 Ad)) args s 0 0 (AS 8 Ad)) (F0 m 334 ls []) := by
  have hx := C.1
  have hb := C.2.1
  obtain ⟨y334, e334⟩ : ∃ y : Int32, y = v3 + (1 : Int32) := ⟨_, rfl⟩
  have h := h y334 e334
  refine lv_iinc (v := y334) (lv' := [(3, .int y334), (0, .ref (Ad 0))]) hx hb dX6_reads_334 hl (k := 1) rfl (by rw [e334]; rfl) (by decide) rfl (fun ls hl => ?_)
  refine lv_goto (tgt := 307) hx hb dX6_reads_337 (by decide) ?_
  exact hk307 h hP hS (lv_sub hl [1, 0] rfl)
def wb_X6_reads_307 (Q : Rg → Ar → Prop) (k307 : Rg → Ar → Int32 → Prop) (σ : Rg) (μ : Ar) (v3 : Int32) : Prop := (((48 : Int32) ≤ v3 → Q σ μ) ∧ (¬ (48 : Int32) ≤ v3 → (vp_in v3 48) ∧ ((((μ 6 (v3).toNatClampNeg) < 0 → wb_X6_reads_334 Q k307 σ μ v3) ∧ (¬ (μ 6 (v3).toNatClampNeg) < 0 → (vp_in v3 48) ∧ ((vp_in (μ 6 (v3).toNatClampNeg) 64) ∧ (∀ μ333 : Ar, μ333 = updA μ 5 (upd (μ 5) ((μ 6 (v3).toNatClampNeg)).toNatClampNeg (0 : Int32)) → (wb_X6_reads_334 Q k307 σ μ333 v3))))))))
set_option maxHeartbeats 4000000 in
set_option maxRecDepth 100000 in
theorem wk_X6_reads_307 {p : Program} {l : Launch} {e : Env} {s : State} {m : MethodId} {args : Array Value} {below : List Frame} {meth : Method} {c : Code} {D : va_G} {cy : ClassId} {Ad : Nat → Nat} (C : Cx p s m args meth c RX6 cX6_reads 6 (none : Option FieldType) D [(cy, .int)]) (hap : apt 8 Ad) {Q : Rg → Ar → Prop} {k307 : Rg → Ar → Int32 → Prop} (hk307 : ∀ {σ : Rg} {μ : Ar} {v3 : Int32} {H : Heap} {locs : List Loc} {ls : Array Slot}, k307 σ μ v3 → va_P D vwCl (wM Ad cy σ μ) H → va_S (AS 8 Ad) s.heap H locs → lv_has ls 6 [(0, .ref (Ad 0)), (3, .int v3)] → W p l e rmX6_reads s m args below meth c H locs 0 0 (MQ below (Qcg (PWv (wM Ad cy) D Q) (AS 8 Ad)) args s 0 0 (AS 8 Ad)) (F0 m 307 ls [])) {σ : Rg} {μ : Ar} {v3 : Int32} {H : Heap} {locs : List Loc} {ls : Array Slot} (h : wb_X6_reads_307 Q k307 σ μ v3) (hP : va_P D vwCl (wM Ad cy σ μ) H) (hS : va_S (AS 8 Ad) s.heap H locs) (hl : lv_has ls 6 [(0, .ref (Ad 0)), (3, .int v3)]) : W p l e rmX6_reads s m args below meth c H locs 0 0 (MQ below (Qcg (PWv (wM Ad cy) D Q) (AS 8 Ad)) args s 0 0 (AS 8 Ad)) (F0 m 307 ls []) := by
  have hx := C.1
  have hb := C.2.1
  refine lv_iload_n hx hb dX6_reads_307 rfl (lv_at hl 1 rfl) ?_
  refine lv_bipush (v := 48) hx hb dX6_reads_308 (by decide) ?_
  refine lv_icmp_ge (tgt := 340) hx hb dX6_reads_310 (by decide) (fun hc => ?_) (fun hc => ?_)
  · have h := h.1 hc
    exact endV C hS ⟨_, _, rfl, h, hP⟩ dX6_reads_340
  · have h := h.2 hc
    refine lv_aload_n hx hb dX6_reads_313 rfl (lv_at hl 0 rfl) ?_
    refine gM_model_newest C hP (C.2.2.2.2.2.2.1 _ wq_935) dX6_reads_314 ?_
    refine lv_iload_n hx hb dX6_reads_317 rfl (lv_at hl 1 rfl) ?_
    obtain ⟨hc, h⟩ := h
    refine lM_6 C hP hc dX6_reads_318 ?_
    refine lv_if_lt (tgt := 334) hx hb dX6_reads_319 (by decide) (fun hc => ?_) (fun hc => ?_)
    · have h := h.1 hc
      exact wk_X6_reads_334 C hap hk307 h hP hS (lv_sub hl [0, 1] rfl)
    · have h := h.2 hc
      refine lv_aload_n hx hb dX6_reads_322 rfl (lv_at hl 0 rfl) ?_
      refine gM_model_state C hP (C.2.2.2.2.2.2.1 _ wq_934) dX6_reads_323 ?_
      refine lv_aload_n hx hb dX6_reads_326 rfl (lv_at hl 0 rfl) ?_
      refine gM_model_newest C hP (C.2.2.2.2.2.2.1 _ wq_935) dX6_reads_327 ?_
      refine lv_iload_n hx hb dX6_reads_330 rfl (lv_at hl 1 rfl) ?_
      obtain ⟨hc, h⟩ := h
      refine lM_6 C hP hc dX6_reads_331 ?_
      refine lv_iconst (v := 0) hx hb dX6_reads_332 (by decide) ?_
      obtain ⟨hc, h⟩ := h
      refine sM_5 C hap (fun _ h => h) hP hS hc dX6_reads_333 (fun H locs hP hS => ?_)
      obtain ⟨μ333, e333⟩ : ∃ z : Ar, z = updA μ 5 (upd (μ 5) ((μ 6 (v3).toNatClampNeg)).toNatClampNeg (0 : Int32)) := ⟨_, rfl⟩
      have hP : va_P D vwCl (wM Ad cy σ μ333) H := by rw [e333]; exact hP
      have h := h μ333 e333
      exact wk_X6_reads_334 C hap hk307 h hP hS (lv_sub hl [0, 1] rfl)
def wl_X6_reads_307 (Q : Rg → Ar → Prop) (n : Nat) : Rg → Ar → Int32 → Prop := Nat.rec (motive := fun _ => Rg → Ar → Int32 → Prop) (fun _ _ _ => False) (fun _ k => wb_X6_reads_307 Q k) n
set_option maxHeartbeats 4000000 in
theorem wkl_X6_reads_307 {p : Program} {l : Launch} {e : Env} {s : State} {m : MethodId} {args : Array Value} {below : List Frame} {meth : Method} {c : Code} {D : va_G} {cy : ClassId} {Ad : Nat → Nat} (C : Cx p s m args meth c RX6 cX6_reads 6 (none : Option FieldType) D [(cy, .int)]) (hap : apt 8 Ad) {Q : Rg → Ar → Prop}  : ∀ (n : Nat) {σ : Rg} {μ : Ar} {v3 : Int32} {H : Heap} {locs : List Loc} {ls : Array Slot} (h : wl_X6_reads_307 Q  n σ μ v3) (hP : va_P D vwCl (wM Ad cy σ μ) H) (hS : va_S (AS 8 Ad) s.heap H locs) (hl : lv_has ls 6 [(0, .ref (Ad 0)), (3, .int v3)]), W p l e rmX6_reads s m args below meth c H locs 0 0 (MQ below (Qcg (PWv (wM Ad cy) D Q) (AS 8 Ad)) args s 0 0 (AS 8 Ad)) (F0 m 307 ls []) := by
  intro n
  induction n with
  | zero => intro σ μ v3 H locs ls h; exact h.elim
  | succ n ih =>
    intro σ μ v3 H locs ls h hP hS hl
    exact wk_X6_reads_307 C hap (fun h hP hS hl => ih h hP hS hl) h hP hS hl
def wb_X6_reads_299 (Q : Rg → Ar → Prop) (k254 : Rg → Ar → Int32 → Int32 → Prop) (σ : Rg) (μ : Ar) (v1 : Int32) (v3 : Int32) : Prop := ∀ y299 : Int32, y299 = v3 + (1 : Int32) → (k254 σ μ v1 y299)
set_option maxHeartbeats 4000000 in
set_option maxRecDepth 100000 in
theorem wk_X6_reads_299 {p : Program} {l : Launch} {e : Env} {s : State} {m : MethodId} {args : Array Value} {below : List Frame} {meth : Method} {c : Code} {D : va_G} {cy : ClassId} {Ad : Nat → Nat} (C : Cx p s m args meth c RX6 cX6_reads 6 (none : Option FieldType) D [(cy, .int)]) (hap : apt 8 Ad) {Q : Rg → Ar → Prop} {k254 : Rg → Ar → Int32 → Int32 → Prop} (hk254 : ∀ {σ : Rg} {μ : Ar} {v1 : Int32} {v3 : Int32} {H : Heap} {locs : List Loc} {ls : Array Slot}, k254 σ μ v1 v3 → va_P D vwCl (wM Ad cy σ μ) H → va_S (AS 8 Ad) s.heap H locs → lv_has ls 6 [(0, .ref (Ad 0)), (1, .int v1), (3, .int v3)] → W p l e rmX6_reads s m args below meth c H locs 0 0 (MQ below (Qcg (PWv (wM Ad cy) D Q) (AS 8 Ad)) args s 0 0 (AS 8 Ad)) (F0 m 254 ls [])) {σ : Rg} {μ : Ar} {v1 : Int32} {v3 : Int32} {H : Heap} {locs : List Loc} {ls : Array Slot} (h : wb_X6_reads_299 Q k254 σ μ v1 v3) (hP : va_P D vwCl (wM Ad cy σ μ) H) (hS : va_S (AS 8 Ad) s.heap H locs) (hl : lv_has ls 6 [(0, .ref (Ad 0)), (1, .int v1), (3, .int v3)]) : W p l e rmX6_reads s m args below meth c H locs 0 0 (MQ below (Qcg (PWv (wM Ad cy) D Q) (AS 8 Ad)) args s 0 0 (AS 8 Ad)) (F0 m 299 ls []) := by
  have hx := C.1
  have hb := C.2.1
  obtain ⟨y299, e299⟩ : ∃ y : Int32, y = v3 + (1 : Int32) := ⟨_, rfl⟩
  have h := h y299 e299
  refine lv_iinc (v := y299) (lv' := [(3, .int y299), (0, .ref (Ad 0)), (1, .int v1)]) hx hb dX6_reads_299 hl (k := 2) rfl (by rw [e299]; rfl) (by decide) rfl (fun ls hl => ?_)
  refine lv_goto (tgt := 254) hx hb dX6_reads_302 (by decide) ?_
  exact hk254 h hP hS (lv_sub hl [1, 2, 0] rfl)
def wb_X6_reads_254 (Q : Rg → Ar → Prop) (k254 : Rg → Ar → Int32 → Int32 → Prop) (σ : Rg) (μ : Ar) (v1 : Int32) (v3 : Int32) : Prop := (((σ 2) ≤ v3 → ∃ n, wl_X6_reads_307 Q n σ μ (0 : Int32)) ∧ (¬ (σ 2) ≤ v3 → (vp_in v3 64) ∧ ((((μ 3 (v3).toNatClampNeg) = (3 : Int32) → wb_X6_reads_299 Q k254 σ μ v1 v3) ∧ (¬ (μ 3 (v3).toNatClampNeg) = (3 : Int32) → (vp_in v3 64) ∧ (((¬ (μ 5 (v3).toNatClampNeg) = (1 : Int32) → wb_X6_reads_299 Q k254 σ μ v1 v3) ∧ ((μ 5 (v3).toNatClampNeg) = (1 : Int32) → (vp_in v3 64) ∧ (wp_X6_byteAt σ μ v1 (μ 2 (v3).toNatClampNeg) (fun r294 σ294 μ294 => (vp_in r294 48) ∧ (∀ μ298 : Ar, μ298 = updA μ294 6 (upd (μ294 6) (r294).toNatClampNeg v3) → (wb_X6_reads_299 Q k254 σ294 μ298 v1 v3))))))))))))
set_option maxHeartbeats 4000000 in
set_option maxRecDepth 100000 in
theorem wk_X6_reads_254 {p : Program} {l : Launch} {e : Env} {s : State} {m : MethodId} {args : Array Value} {below : List Frame} {meth : Method} {c : Code} {D : va_G} {cy : ClassId} {Ad : Nat → Nat} (C : Cx p s m args meth c RX6 cX6_reads 6 (none : Option FieldType) D [(cy, .int)]) (hap : apt 8 Ad) {Q : Rg → Ar → Prop} {k254 : Rg → Ar → Int32 → Int32 → Prop} (hk254 : ∀ {σ : Rg} {μ : Ar} {v1 : Int32} {v3 : Int32} {H : Heap} {locs : List Loc} {ls : Array Slot}, k254 σ μ v1 v3 → va_P D vwCl (wM Ad cy σ μ) H → va_S (AS 8 Ad) s.heap H locs → lv_has ls 6 [(0, .ref (Ad 0)), (1, .int v1), (3, .int v3)] → W p l e rmX6_reads s m args below meth c H locs 0 0 (MQ below (Qcg (PWv (wM Ad cy) D Q) (AS 8 Ad)) args s 0 0 (AS 8 Ad)) (F0 m 254 ls [])) {σ : Rg} {μ : Ar} {v1 : Int32} {v3 : Int32} {H : Heap} {locs : List Loc} {ls : Array Slot} (h : wb_X6_reads_254 Q k254 σ μ v1 v3) (hP : va_P D vwCl (wM Ad cy σ μ) H) (hS : va_S (AS 8 Ad) s.heap H locs) (hl : lv_has ls 6 [(0, .ref (Ad 0)), (1, .int v1), (3, .int v3)]) : W p l e rmX6_reads s m args below meth c H locs 0 0 (MQ below (Qcg (PWv (wM Ad cy) D Q) (AS 8 Ad)) args s 0 0 (AS 8 Ad)) (F0 m 254 ls []) := by
  have hx := C.1
  have hb := C.2.1
  refine lv_iload_n hx hb dX6_reads_254 rfl (lv_at hl 2 rfl) ?_
  refine lv_aload_n hx hb dX6_reads_255 rfl (lv_at hl 0 rfl) ?_
  refine gM_model_entries C hP (C.2.2.2.2.2.2.1 _ wq_928) dX6_reads_256 ?_
  refine lv_icmp_ge (tgt := 305) hx hb dX6_reads_259 (by decide) (fun hc => ?_) (fun hc => ?_)
  · have h := h.1 hc
    refine lv_iconst (v := 0) hx hb dX6_reads_305 (by decide) ?_
    refine lv_istore_n (lv' := [(3, .int (0 : Int32)), (0, .ref (Ad 0)), (1, .int v1)]) hx hb dX6_reads_306 rfl hl (by decide) rfl (fun ls hl => ?_)
    obtain ⟨n, h⟩ := h
    exact wkl_X6_reads_307 C hap n h hP hS (lv_sub hl [1, 0] rfl)
  · have h := h.2 hc
    refine lv_aload_n hx hb dX6_reads_262 rfl (lv_at hl 0 rfl) ?_
    refine gM_model_sort C hP (C.2.2.2.2.2.2.1 _ wq_932) dX6_reads_263 ?_
    refine lv_iload_n hx hb dX6_reads_266 rfl (lv_at hl 2 rfl) ?_
    obtain ⟨hc, h⟩ := h
    refine lM_3 C hP hc dX6_reads_267 ?_
    refine lv_iconst (v := 3) hx hb dX6_reads_268 (by decide) ?_
    refine lv_icmp_eq (tgt := 299) hx hb dX6_reads_269 (by decide) (fun hc => ?_) (fun hc => ?_)
    · have h := h.1 hc
      exact wk_X6_reads_299 C hap hk254 h hP hS (lv_sub hl [0, 1, 2] rfl)
    · have h := h.2 hc
      refine lv_aload_n hx hb dX6_reads_272 rfl (lv_at hl 0 rfl) ?_
      refine gM_model_state C hP (C.2.2.2.2.2.2.1 _ wq_934) dX6_reads_273 ?_
      refine lv_iload_n hx hb dX6_reads_276 rfl (lv_at hl 2 rfl) ?_
      obtain ⟨hc, h⟩ := h
      refine lM_5 C hP hc dX6_reads_277 ?_
      refine lv_iconst (v := 1) hx hb dX6_reads_278 (by decide) ?_
      refine lv_icmp_ne (tgt := 299) hx hb dX6_reads_279 (by decide) (fun hc => ?_) (fun hc => ?_)
      · have h := h.1 hc
        exact wk_X6_reads_299 C hap hk254 h hP hS (lv_sub hl [0, 1, 2] rfl)
      · have h := h.2 hc
        refine lv_aload_n hx hb dX6_reads_282 rfl (lv_at hl 0 rfl) ?_
        refine gM_model_newest C hP (C.2.2.2.2.2.2.1 _ wq_935) dX6_reads_283 ?_
        refine lv_aload_n hx hb dX6_reads_286 rfl (lv_at hl 0 rfl) ?_
        refine lv_iload_n hx hb dX6_reads_287 rfl (lv_at hl 1 rfl) ?_
        refine lv_aload_n hx hb dX6_reads_288 rfl (lv_at hl 0 rfl) ?_
        refine gM_model_place C hP (C.2.2.2.2.2.2.1 _ wq_931) dX6_reads_289 ?_
        refine lv_iload_n hx hb dX6_reads_292 rfl (lv_at hl 2 rfl) ?_
        obtain ⟨hc, h⟩ := h
        refine lM_2 C hP hc dX6_reads_293 ?_
        refine kWi (rnV C (ct_X6_byteAt l D cy Ad hap h) yv_X6_byteAt wq_997 ⟨rfl, rfl⟩ ⟨Nat.le_of_ble_eq_true rfl, Nat.le_of_ble_eq_true rfl⟩ ⟨Nat.zero_le _, Nat.zero_le _⟩ (vM_model C hP) hP hl.1 rfl rfl (Nat.le_of_ble_eq_true rfl) dX6_reads_294) hS (fun _ h => h) (fun r294 σ294 μ294 H locs h hP hk hS => ?_)
        refine lv_iload_n hx hb dX6_reads_297 rfl (lv_at hl 2 rfl) ?_
        obtain ⟨hc, h⟩ := h
        refine sM_6 C hap (fun _ h => h) hP hS hc dX6_reads_298 (fun H locs hP hS => ?_)
        obtain ⟨μ298, e298⟩ : ∃ z : Ar, z = updA μ294 6 (upd (μ294 6) (r294).toNatClampNeg v3) := ⟨_, rfl⟩
        have hP : va_P D vwCl (wM Ad cy σ294 μ298) H := by rw [e298]; exact hP
        have h := h μ298 e298
        exact wk_X6_reads_299 C hap hk254 h hP hS (lv_sub hl [0, 1, 2] rfl)
def wl_X6_reads_254 (Q : Rg → Ar → Prop) (n : Nat) : Rg → Ar → Int32 → Int32 → Prop := Nat.rec (motive := fun _ => Rg → Ar → Int32 → Int32 → Prop) (fun _ _ _ _ => False) (fun _ k => wb_X6_reads_254 Q k) n
set_option maxHeartbeats 4000000 in
theorem wkl_X6_reads_254 {p : Program} {l : Launch} {e : Env} {s : State} {m : MethodId} {args : Array Value} {below : List Frame} {meth : Method} {c : Code} {D : va_G} {cy : ClassId} {Ad : Nat → Nat} (C : Cx p s m args meth c RX6 cX6_reads 6 (none : Option FieldType) D [(cy, .int)]) (hap : apt 8 Ad) {Q : Rg → Ar → Prop}  : ∀ (n : Nat) {σ : Rg} {μ : Ar} {v1 : Int32} {v3 : Int32} {H : Heap} {locs : List Loc} {ls : Array Slot} (h : wl_X6_reads_254 Q  n σ μ v1 v3) (hP : va_P D vwCl (wM Ad cy σ μ) H) (hS : va_S (AS 8 Ad) s.heap H locs) (hl : lv_has ls 6 [(0, .ref (Ad 0)), (1, .int v1), (3, .int v3)]), W p l e rmX6_reads s m args below meth c H locs 0 0 (MQ below (Qcg (PWv (wM Ad cy) D Q) (AS 8 Ad)) args s 0 0 (AS 8 Ad)) (F0 m 254 ls []) := by
  intro n
  induction n with
  | zero => intro σ μ v1 v3 H locs ls h; exact h.elim
  | succ n ih =>
    intro σ μ v1 v3 H locs ls h hP hS hl
    exact wk_X6_reads_254 C hap (fun h hP hS hl => ih h hP hS hl) h hP hS hl
def wb_X6_reads_233 (Q : Rg → Ar → Prop) (k233 : Rg → Ar → Int32 → Int32 → Prop) (σ : Rg) (μ : Ar) (v1 : Int32) (v3 : Int32) : Prop := (((48 : Int32) ≤ v3 → ∃ n, wl_X6_reads_254 Q n σ μ v1 (0 : Int32)) ∧ (¬ (48 : Int32) ≤ v3 → (vp_in v3 48) ∧ (∀ μ245 : Ar, μ245 = updA μ 6 (upd (μ 6) (v3).toNatClampNeg (-1 : Int32)) → (∀ y246 : Int32, y246 = v3 + (1 : Int32) → (k233 σ μ245 v1 y246)))))
set_option maxHeartbeats 4000000 in
set_option maxRecDepth 100000 in
theorem wk_X6_reads_233 {p : Program} {l : Launch} {e : Env} {s : State} {m : MethodId} {args : Array Value} {below : List Frame} {meth : Method} {c : Code} {D : va_G} {cy : ClassId} {Ad : Nat → Nat} (C : Cx p s m args meth c RX6 cX6_reads 6 (none : Option FieldType) D [(cy, .int)]) (hap : apt 8 Ad) {Q : Rg → Ar → Prop} {k233 : Rg → Ar → Int32 → Int32 → Prop} (hk233 : ∀ {σ : Rg} {μ : Ar} {v1 : Int32} {v3 : Int32} {H : Heap} {locs : List Loc} {ls : Array Slot}, k233 σ μ v1 v3 → va_P D vwCl (wM Ad cy σ μ) H → va_S (AS 8 Ad) s.heap H locs → lv_has ls 6 [(0, .ref (Ad 0)), (1, .int v1), (3, .int v3)] → W p l e rmX6_reads s m args below meth c H locs 0 0 (MQ below (Qcg (PWv (wM Ad cy) D Q) (AS 8 Ad)) args s 0 0 (AS 8 Ad)) (F0 m 233 ls [])) {σ : Rg} {μ : Ar} {v1 : Int32} {v3 : Int32} {H : Heap} {locs : List Loc} {ls : Array Slot} (h : wb_X6_reads_233 Q k233 σ μ v1 v3) (hP : va_P D vwCl (wM Ad cy σ μ) H) (hS : va_S (AS 8 Ad) s.heap H locs) (hl : lv_has ls 6 [(0, .ref (Ad 0)), (1, .int v1), (3, .int v3)]) : W p l e rmX6_reads s m args below meth c H locs 0 0 (MQ below (Qcg (PWv (wM Ad cy) D Q) (AS 8 Ad)) args s 0 0 (AS 8 Ad)) (F0 m 233 ls []) := by
  have hx := C.1
  have hb := C.2.1
  refine lv_iload_n hx hb dX6_reads_233 rfl (lv_at hl 2 rfl) ?_
  refine lv_bipush (v := 48) hx hb dX6_reads_234 (by decide) ?_
  refine lv_icmp_ge (tgt := 252) hx hb dX6_reads_236 (by decide) (fun hc => ?_) (fun hc => ?_)
  · have h := h.1 hc
    refine lv_iconst (v := 0) hx hb dX6_reads_252 (by decide) ?_
    refine lv_istore_n (lv' := [(3, .int (0 : Int32)), (0, .ref (Ad 0)), (1, .int v1)]) hx hb dX6_reads_253 rfl hl (by decide) rfl (fun ls hl => ?_)
    obtain ⟨n, h⟩ := h
    exact wkl_X6_reads_254 C hap n h hP hS (lv_sub hl [1, 2, 0] rfl)
  · have h := h.2 hc
    refine lv_aload_n hx hb dX6_reads_239 rfl (lv_at hl 0 rfl) ?_
    refine gM_model_newest C hP (C.2.2.2.2.2.2.1 _ wq_935) dX6_reads_240 ?_
    refine lv_iload_n hx hb dX6_reads_243 rfl (lv_at hl 2 rfl) ?_
    refine lv_iconst (v := -1) hx hb dX6_reads_244 (by decide) ?_
    obtain ⟨hc, h⟩ := h
    refine sM_6 C hap (fun _ h => h) hP hS hc dX6_reads_245 (fun H locs hP hS => ?_)
    obtain ⟨μ245, e245⟩ : ∃ z : Ar, z = updA μ 6 (upd (μ 6) (v3).toNatClampNeg (-1 : Int32)) := ⟨_, rfl⟩
    have hP : va_P D vwCl (wM Ad cy σ μ245) H := by rw [e245]; exact hP
    have h := h μ245 e245
    obtain ⟨y246, e246⟩ : ∃ y : Int32, y = v3 + (1 : Int32) := ⟨_, rfl⟩
    have h := h y246 e246
    refine lv_iinc (v := y246) (lv' := [(3, .int y246), (0, .ref (Ad 0)), (1, .int v1)]) hx hb dX6_reads_246 hl (k := 2) rfl (by rw [e246]; rfl) (by decide) rfl (fun ls hl => ?_)
    refine lv_goto (tgt := 233) hx hb dX6_reads_249 (by decide) ?_
    exact hk233 h hP hS (lv_sub hl [1, 2, 0] rfl)
def wl_X6_reads_233 (Q : Rg → Ar → Prop) (n : Nat) : Rg → Ar → Int32 → Int32 → Prop := Nat.rec (motive := fun _ => Rg → Ar → Int32 → Int32 → Prop) (fun _ _ _ _ => False) (fun _ k => wb_X6_reads_233 Q k) n
set_option maxHeartbeats 4000000 in
theorem wkl_X6_reads_233 {p : Program} {l : Launch} {e : Env} {s : State} {m : MethodId} {args : Array Value} {below : List Frame} {meth : Method} {c : Code} {D : va_G} {cy : ClassId} {Ad : Nat → Nat} (C : Cx p s m args meth c RX6 cX6_reads 6 (none : Option FieldType) D [(cy, .int)]) (hap : apt 8 Ad) {Q : Rg → Ar → Prop}  : ∀ (n : Nat) {σ : Rg} {μ : Ar} {v1 : Int32} {v3 : Int32} {H : Heap} {locs : List Loc} {ls : Array Slot} (h : wl_X6_reads_233 Q  n σ μ v1 v3) (hP : va_P D vwCl (wM Ad cy σ μ) H) (hS : va_S (AS 8 Ad) s.heap H locs) (hl : lv_has ls 6 [(0, .ref (Ad 0)), (1, .int v1), (3, .int v3)]), W p l e rmX6_reads s m args below meth c H locs 0 0 (MQ below (Qcg (PWv (wM Ad cy) D Q) (AS 8 Ad)) args s 0 0 (AS 8 Ad)) (F0 m 233 ls []) := by
  intro n
  induction n with
  | zero => intro σ μ v1 v3 H locs ls h; exact h.elim
  | succ n ih =>
    intro σ μ v1 v3 H locs ls h hP hS hl
    exact wk_X6_reads_233 C hap (fun h hP hS hl => ih h hP hS hl) h hP hS hl
def wb_X6_reads_221 (Q : Rg → Ar → Prop) (σ : Rg) (μ : Ar) (v1 : Int32) (v2 : Int32) : Prop := ∀ σ223 : Rg, σ223 = upd σ 3 v2 → (wp_X6_commits σ223 μ v1 (fun σ228 μ228 => ∃ n, wl_X6_reads_233 Q n σ228 μ228 v1 (0 : Int32)))
set_option maxHeartbeats 4000000 in
set_option maxRecDepth 100000 in
theorem wk_X6_reads_221 {p : Program} {l : Launch} {e : Env} {s : State} {m : MethodId} {args : Array Value} {below : List Frame} {meth : Method} {c : Code} {D : va_G} {cy : ClassId} {Ad : Nat → Nat} (C : Cx p s m args meth c RX6 cX6_reads 6 (none : Option FieldType) D [(cy, .int)]) (hap : apt 8 Ad) {Q : Rg → Ar → Prop} {σ : Rg} {μ : Ar} {v1 : Int32} {v2 : Int32} {H : Heap} {locs : List Loc} {ls : Array Slot} (h : wb_X6_reads_221 Q σ μ v1 v2) (hP : va_P D vwCl (wM Ad cy σ μ) H) (hS : va_S (AS 8 Ad) s.heap H locs) (hl : lv_has ls 6 [(0, .ref (Ad 0)), (1, .int v1), (2, .int v2)]) : W p l e rmX6_reads s m args below meth c H locs 0 0 (MQ below (Qcg (PWv (wM Ad cy) D Q) (AS 8 Ad)) args s 0 0 (AS 8 Ad)) (F0 m 221 ls []) := by
  have hx := C.1
  have hb := C.2.1
  refine lv_aload_n hx hb dX6_reads_221 rfl (lv_at hl 0 rfl) ?_
  refine lv_iload_n hx hb dX6_reads_222 rfl (lv_at hl 2 rfl) ?_
  refine pM_model_free C hap (fun _ h => h) hP hS (C.2.2.2.2.2.2.1 _ wq_929) dX6_reads_223 (fun H locs hP hS => ?_)
  obtain ⟨σ223, e223⟩ : ∃ z : Rg, z = upd σ 3 v2 := ⟨_, rfl⟩
  have hP : va_P D vwCl (wM Ad cy σ223 μ) H := by rw [e223]; exact hP
  have h := h σ223 e223
  refine lv_aload_n hx hb dX6_reads_226 rfl (lv_at hl 0 rfl) ?_
  refine lv_iload_n hx hb dX6_reads_227 rfl (lv_at hl 1 rfl) ?_
  refine kWv (rnV C (ct_X6_commits l D cy Ad hap h) yv_X6_commits wq_1056 ⟨rfl, rfl⟩ ⟨Nat.le_of_ble_eq_true rfl, Nat.le_of_ble_eq_true rfl⟩ ⟨Nat.zero_le _, Nat.zero_le _⟩ (vM_model C hP) hP hl.1 rfl rfl (Nat.le_of_ble_eq_true rfl) dX6_reads_228) hS (fun _ h => h) (fun σ228 μ228 H locs h hP hk hS => ?_)
  refine lv_iconst (v := 0) hx hb dX6_reads_231 (by decide) ?_
  refine lv_istore_n (lv' := [(3, .int (0 : Int32)), (0, .ref (Ad 0)), (1, .int v1), (2, .int v2)]) hx hb dX6_reads_232 rfl hl (by decide) rfl (fun ls hl => ?_)
  obtain ⟨n, h⟩ := h
  exact wkl_X6_reads_233 C hap n h hP hS (lv_sub hl [1, 2, 0] rfl)
def wb_X6_reads_94 (Q : Rg → Ar → Prop) (k12 : Rg → Ar → Int32 → Int32 → Prop) (σ : Rg) (μ : Ar) (v1 : Int32) (v2 : Int32) : Prop := ∀ σ103 : Rg, σ103 = upd σ 4 ((μ 0 1) - v2) → (∀ y112 : Int32, y112 = (μ 0 1) → (k12 σ103 μ v1 y112))
set_option maxHeartbeats 4000000 in
set_option maxRecDepth 100000 in
theorem wk_X6_reads_94 {p : Program} {l : Launch} {e : Env} {s : State} {m : MethodId} {args : Array Value} {below : List Frame} {meth : Method} {c : Code} {D : va_G} {cy : ClassId} {Ad : Nat → Nat} (C : Cx p s m args meth c RX6 cX6_reads 6 (none : Option FieldType) D [(cy, .int)]) (hap : apt 8 Ad) {Q : Rg → Ar → Prop} {k12 : Rg → Ar → Int32 → Int32 → Prop} (hk12 : ∀ {σ : Rg} {μ : Ar} {v1 : Int32} {v2 : Int32} {H : Heap} {locs : List Loc} {ls : Array Slot}, k12 σ μ v1 v2 → va_P D vwCl (wM Ad cy σ μ) H → va_S (AS 8 Ad) s.heap H locs → lv_has ls 6 [(0, .ref (Ad 0)), (1, .int v1), (2, .int v2)] → W p l e rmX6_reads s m args below meth c H locs 0 0 (MQ below (Qcg (PWv (wM Ad cy) D Q) (AS 8 Ad)) args s 0 0 (AS 8 Ad)) (F0 m 12 ls [])) {σ : Rg} {μ : Ar} {v1 : Int32} {v2 : Int32} {H : Heap} {locs : List Loc} {ls : Array Slot} (h : wb_X6_reads_94 Q k12 σ μ v1 v2) (hP : va_P D vwCl (wM Ad cy σ μ) H) (hS : va_S (AS 8 Ad) s.heap H locs) (hl : lv_has ls 6 [(0, .ref (Ad 0)), (1, .int v1), (2, .int v2)]) : W p l e rmX6_reads s m args below meth c H locs 0 0 (MQ below (Qcg (PWv (wM Ad cy) D Q) (AS 8 Ad)) args s 0 0 (AS 8 Ad)) (F0 m 94 ls []) := by
  have hx := C.1
  have hb := C.2.1
  refine lv_aload_n hx hb dX6_reads_94 rfl (lv_at hl 0 rfl) ?_
  refine lv_aload_n hx hb dX6_reads_95 rfl (lv_at hl 0 rfl) ?_
  refine gM_model_x C hP (C.2.2.2.2.2.2.1 _ wq_924) dX6_reads_96 ?_
  refine lv_iconst (v := 1) hx hb dX6_reads_99 (by decide) ?_
  refine lcM_0 C hP tc_1 vi_1_810 dX6_reads_100 ?_
  refine lv_iload_n hx hb dX6_reads_101 rfl (lv_at hl 2 rfl) ?_
  refine lv_isub hx hb dX6_reads_102 ?_
  refine pM_model_lost C hap (fun _ h => h) hP hS (C.2.2.2.2.2.2.1 _ wq_930) dX6_reads_103 (fun H locs hP hS => ?_)
  obtain ⟨σ103, e103⟩ : ∃ z : Rg, z = upd σ 4 ((μ 0 1) - v2) := ⟨_, rfl⟩
  have hP : va_P D vwCl (wM Ad cy σ103 μ) H := by rw [e103]; exact hP
  have h := h σ103 e103
  refine lv_aload_n hx hb dX6_reads_106 rfl (lv_at hl 0 rfl) ?_
  refine gM_model_x C hP (C.2.2.2.2.2.2.1 _ wq_924) dX6_reads_107 ?_
  refine lv_iconst (v := 1) hx hb dX6_reads_110 (by decide) ?_
  refine lcM_0 C hP tc_1 vi_1_810 dX6_reads_111 ?_
  refine lv_topi (fun y112 e112 => ?_)
  have h := h y112 e112
  refine lv_istore_n (lv' := [(2, .int y112), (0, .ref (Ad 0)), (1, .int v1)]) hx hb dX6_reads_112 rfl hl (by decide) rfl (fun ls hl => ?_)
  refine lv_goto (tgt := 12) hx hb dX6_reads_113 (by decide) ?_
  exact hk12 h hP hS (lv_sub hl [1, 2, 0] rfl)
def wb_X6_reads_202 (Q : Rg → Ar → Prop) (k12 : Rg → Ar → Int32 → Int32 → Prop) (σ : Rg) (μ : Ar) (v1 : Int32) (v2 : Int32) (v4 : Int32) (t0 : Int32) (t1 : Int32) : Prop := (vp_in t1 64) ∧ (∀ μ202 : Ar, μ202 = updA μ 5 (upd (μ 5) (t1).toNatClampNeg t0) → (∀ σ210 : Rg, σ210 = upd σ 2 ((σ 2) + (1 : Int32)) → (∀ y217 : Int32, y217 = (v2 + v4) → (k12 σ210 μ202 v1 y217))))
set_option maxHeartbeats 4000000 in
set_option maxRecDepth 100000 in
theorem wk_X6_reads_202 {p : Program} {l : Launch} {e : Env} {s : State} {m : MethodId} {args : Array Value} {below : List Frame} {meth : Method} {c : Code} {D : va_G} {cy : ClassId} {Ad : Nat → Nat} (C : Cx p s m args meth c RX6 cX6_reads 6 (none : Option FieldType) D [(cy, .int)]) (hap : apt 8 Ad) {Q : Rg → Ar → Prop} {k12 : Rg → Ar → Int32 → Int32 → Prop} (hk12 : ∀ {σ : Rg} {μ : Ar} {v1 : Int32} {v2 : Int32} {H : Heap} {locs : List Loc} {ls : Array Slot}, k12 σ μ v1 v2 → va_P D vwCl (wM Ad cy σ μ) H → va_S (AS 8 Ad) s.heap H locs → lv_has ls 6 [(0, .ref (Ad 0)), (1, .int v1), (2, .int v2)] → W p l e rmX6_reads s m args below meth c H locs 0 0 (MQ below (Qcg (PWv (wM Ad cy) D Q) (AS 8 Ad)) args s 0 0 (AS 8 Ad)) (F0 m 12 ls [])) {σ : Rg} {μ : Ar} {v1 : Int32} {v2 : Int32} {v4 : Int32} {t0 : Int32} {t1 : Int32} {H : Heap} {locs : List Loc} {ls : Array Slot} (h : wb_X6_reads_202 Q k12 σ μ v1 v2 v4 t0 t1) (hP : va_P D vwCl (wM Ad cy σ μ) H) (hS : va_S (AS 8 Ad) s.heap H locs) (hl : lv_has ls 6 [(0, .ref (Ad 0)), (1, .int v1), (2, .int v2), (4, .int v4)]) : W p l e rmX6_reads s m args below meth c H locs 0 0 (MQ below (Qcg (PWv (wM Ad cy) D Q) (AS 8 Ad)) args s 0 0 (AS 8 Ad)) (F0 m 202 ls [.int t0, .int t1, .ref (Ad 6)]) := by
  have hx := C.1
  have hb := C.2.1
  obtain ⟨hc, h⟩ := h
  refine sM_5 C hap (fun _ h => h) hP hS hc dX6_reads_202 (fun H locs hP hS => ?_)
  obtain ⟨μ202, e202⟩ : ∃ z : Ar, z = updA μ 5 (upd (μ 5) (t1).toNatClampNeg t0) := ⟨_, rfl⟩
  have hP : va_P D vwCl (wM Ad cy σ μ202) H := by rw [e202]; exact hP
  have h := h μ202 e202
  refine lv_aload_n hx hb dX6_reads_203 rfl (lv_at hl 0 rfl) ?_
  refine lv_dup hx hb dX6_reads_204 rfl ?_
  refine gM_model_entries C hP (C.2.2.2.2.2.2.1 _ wq_928) dX6_reads_205 ?_
  refine lv_iconst (v := 1) hx hb dX6_reads_208 (by decide) ?_
  refine lv_iadd hx hb dX6_reads_209 ?_
  refine pM_model_entries C hap (fun _ h => h) hP hS (C.2.2.2.2.2.2.1 _ wq_928) dX6_reads_210 (fun H locs hP hS => ?_)
  obtain ⟨σ210, e210⟩ : ∃ z : Rg, z = upd σ 2 ((σ 2) + (1 : Int32)) := ⟨_, rfl⟩
  have hP : va_P D vwCl (wM Ad cy σ210 μ202) H := by rw [e210]; exact hP
  have h := h σ210 e210
  refine lv_iload_n hx hb dX6_reads_213 rfl (lv_at hl 2 rfl) ?_
  refine lv_iload hx hb dX6_reads_214 (lv_at hl 3 rfl) ?_
  refine lv_iadd hx hb dX6_reads_216 ?_
  refine lv_topi (fun y217 e217 => ?_)
  have h := h y217 e217
  refine lv_istore_n (lv' := [(2, .int y217), (0, .ref (Ad 0)), (1, .int v1), (4, .int v4)]) hx hb dX6_reads_217 rfl hl (by decide) rfl (fun ls hl => ?_)
  refine lv_goto (tgt := 12) hx hb dX6_reads_218 (by decide) ?_
  exact hk12 h hP hS (lv_sub hl [1, 2, 0] rfl)
def wb_X6_reads_75 (Q : Rg → Ar → Prop) (k12 : Rg → Ar → Int32 → Int32 → Prop) (σ : Rg) (μ : Ar) (v1 : Int32) (v2 : Int32) (v3 : Int32) (t0 : Int32) : Prop := ((v3 < 0 → wb_X6_reads_94 Q k12 σ μ v1 v2) ∧ (¬ v3 < 0 → (((v2 + t0) ≤ (μ 0 1) → (vp_in (σ 2) 64) ∧ (∀ μ125 : Ar, μ125 = updA μ 2 (upd (μ 2) ((σ 2)).toNatClampNeg v2) → ((vp_in (σ 2) 64) ∧ (∀ μ135 : Ar, μ135 = updA μ125 3 (upd (μ125 3) ((σ 2)).toNatClampNeg v3) → ((vp_in (σ 2) 64) ∧ (∀ μ146 : Ar, μ146 = updA μ135 4 (upd (μ135 4) ((σ 2)).toNatClampNeg t0) → (wp_X6_checked σ μ146 (σ 2) (fun r152 σ152 μ152 => wp_X6_sumOf σ152 μ152 v1 v2 r152 (fun r170 σ170 μ170 => wp_X6_check r170 (fun r173 => wp_X6_byteAt σ170 μ170 v1 (v2 + r152) (fun r182 σ182 μ182 => ((r173 = r182 → (((2 : Int32) ≤ v3 → wb_X6_reads_202 Q k12 σ182 μ182 v1 v2 t0 (3 : Int32) (σ152 2)) ∧ (¬ (2 : Int32) ≤ v3 → wb_X6_reads_202 Q k12 σ182 μ182 v1 v2 t0 (1 : Int32) (σ152 2)))) ∧ (¬ r173 = r182 → wb_X6_reads_202 Q k12 σ182 μ182 v1 v2 t0 (2 : Int32) (σ152 2)))))))))))))) ∧ (¬ (v2 + t0) ≤ (μ 0 1) → wb_X6_reads_94 Q k12 σ μ v1 v2))))
set_option maxHeartbeats 4000000 in
set_option maxRecDepth 100000 in
theorem wk_X6_reads_75 {p : Program} {l : Launch} {e : Env} {s : State} {m : MethodId} {args : Array Value} {below : List Frame} {meth : Method} {c : Code} {D : va_G} {cy : ClassId} {Ad : Nat → Nat} (C : Cx p s m args meth c RX6 cX6_reads 6 (none : Option FieldType) D [(cy, .int)]) (hap : apt 8 Ad) {Q : Rg → Ar → Prop} {k12 : Rg → Ar → Int32 → Int32 → Prop} (hk12 : ∀ {σ : Rg} {μ : Ar} {v1 : Int32} {v2 : Int32} {H : Heap} {locs : List Loc} {ls : Array Slot}, k12 σ μ v1 v2 → va_P D vwCl (wM Ad cy σ μ) H → va_S (AS 8 Ad) s.heap H locs → lv_has ls 6 [(0, .ref (Ad 0)), (1, .int v1), (2, .int v2)] → W p l e rmX6_reads s m args below meth c H locs 0 0 (MQ below (Qcg (PWv (wM Ad cy) D Q) (AS 8 Ad)) args s 0 0 (AS 8 Ad)) (F0 m 12 ls [])) {σ : Rg} {μ : Ar} {v1 : Int32} {v2 : Int32} {v3 : Int32} {t0 : Int32} {H : Heap} {locs : List Loc} {ls : Array Slot} (h : wb_X6_reads_75 Q k12 σ μ v1 v2 v3 t0) (hP : va_P D vwCl (wM Ad cy σ μ) H) (hS : va_S (AS 8 Ad) s.heap H locs) (hl : lv_has ls 6 [(0, .ref (Ad 0)), (1, .int v1), (2, .int v2), (3, .int v3)]) : W p l e rmX6_reads s m args below meth c H locs 0 0 (MQ below (Qcg (PWv (wM Ad cy) D Q) (AS 8 Ad)) args s 0 0 (AS 8 Ad)) (F0 m 75 ls [.int t0]) := by
  have hx := C.1
  have hb := C.2.1
  refine lv_istore (lv' := [(4, .int t0), (0, .ref (Ad 0)), (1, .int v1), (2, .int v2), (3, .int v3)]) hx hb dX6_reads_75 hl (by decide) rfl (fun ls hl => ?_)
  refine lv_iload_n hx hb dX6_reads_77 rfl (lv_at hl 4 rfl) ?_
  refine lv_if_lt (tgt := 94) hx hb dX6_reads_78 (by decide) (fun hc => ?_) (fun hc => ?_)
  · have h := h.1 hc
    exact wk_X6_reads_94 C hap hk12 h hP hS (lv_sub hl [1, 2, 3] rfl)
  · have h := h.2 hc
    refine lv_iload_n hx hb dX6_reads_81 rfl (lv_at hl 3 rfl) ?_
    refine lv_iload hx hb dX6_reads_82 (lv_at hl 0 rfl) ?_
    refine lv_iadd hx hb dX6_reads_84 ?_
    refine lv_aload_n hx hb dX6_reads_85 rfl (lv_at hl 1 rfl) ?_
    refine gM_model_x C hP (C.2.2.2.2.2.2.1 _ wq_924) dX6_reads_86 ?_
    refine lv_iconst (v := 1) hx hb dX6_reads_89 (by decide) ?_
    refine lcM_0 C hP tc_1 vi_1_810 dX6_reads_90 ?_
    refine lv_icmp_le (tgt := 116) hx hb dX6_reads_91 (by decide) (fun hc => ?_) (fun hc => ?_)
    · have h := h.1 hc
      refine lv_aload_n hx hb dX6_reads_116 rfl (lv_at hl 1 rfl) ?_
      refine gM_model_place C hP (C.2.2.2.2.2.2.1 _ wq_931) dX6_reads_117 ?_
      refine lv_aload_n hx hb dX6_reads_120 rfl (lv_at hl 1 rfl) ?_
      refine gM_model_entries C hP (C.2.2.2.2.2.2.1 _ wq_928) dX6_reads_121 ?_
      refine lv_iload_n hx hb dX6_reads_124 rfl (lv_at hl 3 rfl) ?_
      obtain ⟨hc, h⟩ := h
      refine sM_2 C hap (fun _ h => h) hP hS hc dX6_reads_125 (fun H locs hP hS => ?_)
      obtain ⟨μ125, e125⟩ : ∃ z : Ar, z = updA μ 2 (upd (μ 2) ((σ 2)).toNatClampNeg v2) := ⟨_, rfl⟩
      have hP : va_P D vwCl (wM Ad cy σ μ125) H := by rw [e125]; exact hP
      have h := h μ125 e125
      refine lv_aload_n hx hb dX6_reads_126 rfl (lv_at hl 1 rfl) ?_
      refine gM_model_sort C hP (C.2.2.2.2.2.2.1 _ wq_932) dX6_reads_127 ?_
      refine lv_aload_n hx hb dX6_reads_130 rfl (lv_at hl 1 rfl) ?_
      refine gM_model_entries C hP (C.2.2.2.2.2.2.1 _ wq_928) dX6_reads_131 ?_
      refine lv_iload_n hx hb dX6_reads_134 rfl (lv_at hl 4 rfl) ?_
      obtain ⟨hc, h⟩ := h
      refine sM_3 C hap (fun _ h => h) hP hS hc dX6_reads_135 (fun H locs hP hS => ?_)
      obtain ⟨μ135, e135⟩ : ∃ z : Ar, z = updA μ125 3 (upd (μ125 3) ((σ 2)).toNatClampNeg v3) := ⟨_, rfl⟩
      have hP : va_P D vwCl (wM Ad cy σ μ135) H := by rw [e135]; exact hP
      have h := h μ135 e135
      refine lv_aload_n hx hb dX6_reads_136 rfl (lv_at hl 1 rfl) ?_
      refine gM_model_size C hP (C.2.2.2.2.2.2.1 _ wq_933) dX6_reads_137 ?_
      refine lv_aload_n hx hb dX6_reads_140 rfl (lv_at hl 1 rfl) ?_
      refine gM_model_entries C hP (C.2.2.2.2.2.2.1 _ wq_928) dX6_reads_141 ?_
      refine lv_iload hx hb dX6_reads_144 (lv_at hl 0 rfl) ?_
      obtain ⟨hc, h⟩ := h
      refine sM_4 C hap (fun _ h => h) hP hS hc dX6_reads_146 (fun H locs hP hS => ?_)
      obtain ⟨μ146, e146⟩ : ∃ z : Ar, z = updA μ135 4 (upd (μ135 4) ((σ 2)).toNatClampNeg t0) := ⟨_, rfl⟩
      have hP : va_P D vwCl (wM Ad cy σ μ146) H := by rw [e146]; exact hP
      have h := h μ146 e146
      refine lv_aload_n hx hb dX6_reads_147 rfl (lv_at hl 1 rfl) ?_
      refine lv_aload_n hx hb dX6_reads_148 rfl (lv_at hl 1 rfl) ?_
      refine gM_model_entries C hP (C.2.2.2.2.2.2.1 _ wq_928) dX6_reads_149 ?_
      refine kWi (rnV C (ct_X6_checked l D cy Ad hap h) yv_X6_checked wq_1048 ⟨rfl, rfl⟩ ⟨Nat.le_of_ble_eq_true rfl, Nat.le_of_ble_eq_true rfl⟩ ⟨Nat.zero_le _, Nat.zero_le _⟩ (vM_model C hP) hP hl.1 rfl rfl (Nat.le_of_ble_eq_true rfl) dX6_reads_152) hS (fun _ h => h) (fun r152 σ152 μ152 H locs h hP hk hS => ?_)
      refine lv_istore (lv' := [(5, .int r152), (4, .int t0), (0, .ref (Ad 0)), (1, .int v1), (2, .int v2), (3, .int v3)]) hx hb dX6_reads_155 hl (by decide) rfl (fun ls hl => ?_)
      refine lv_aload_n hx hb dX6_reads_157 rfl (lv_at hl 2 rfl) ?_
      refine gM_model_state C hP (C.2.2.2.2.2.2.1 _ wq_934) dX6_reads_158 ?_
      refine lv_aload_n hx hb dX6_reads_161 rfl (lv_at hl 2 rfl) ?_
      refine gM_model_entries C hP (C.2.2.2.2.2.2.1 _ wq_928) dX6_reads_162 ?_
      refine lv_aload_n hx hb dX6_reads_165 rfl (lv_at hl 2 rfl) ?_
      refine lv_iload_n hx hb dX6_reads_166 rfl (lv_at hl 3 rfl) ?_
      refine lv_iload_n hx hb dX6_reads_167 rfl (lv_at hl 4 rfl) ?_
      refine lv_iload hx hb dX6_reads_168 (lv_at hl 0 rfl) ?_
      refine kWi (rnV C (ct_X6_sumOf l D cy Ad hap h) yv_X6_sumOf wq_1052 ⟨rfl, rfl⟩ ⟨Nat.le_of_ble_eq_true rfl, Nat.le_of_ble_eq_true rfl⟩ ⟨Nat.zero_le _, Nat.zero_le _⟩ (vM_model C hP) hP hl.1 rfl rfl (Nat.le_of_ble_eq_true rfl) dX6_reads_170) hS (fun _ h => h) (fun r170 σ170 μ170 H locs h hP hk hS => ?_)
      refine kNi (rnS (C.none) (ct_X6_check l D h) ys_X6_check wq_1001 ⟨rfl, rfl⟩ ⟨Nat.le_of_ble_eq_true rfl, Nat.le_of_ble_eq_true rfl⟩ ⟨Nat.zero_le _, Nat.zero_le _⟩ trivial hl.1 rfl rfl (Nat.le_of_ble_eq_true rfl) dX6_reads_173) hS (fun _ h => h.elim) (fun r173 H locs h hk hS => ?_)
      have hP := keepN hP hk
      refine lv_aload_n hx hb dX6_reads_176 rfl (lv_at hl 2 rfl) ?_
      refine lv_iload_n hx hb dX6_reads_177 rfl (lv_at hl 3 rfl) ?_
      refine lv_iload_n hx hb dX6_reads_178 rfl (lv_at hl 4 rfl) ?_
      refine lv_iload hx hb dX6_reads_179 (lv_at hl 0 rfl) ?_
      refine lv_iadd hx hb dX6_reads_181 ?_
      refine kWi (rnV C (ct_X6_byteAt l D cy Ad hap h) yv_X6_byteAt wq_997 ⟨rfl, rfl⟩ ⟨Nat.le_of_ble_eq_true rfl, Nat.le_of_ble_eq_true rfl⟩ ⟨Nat.zero_le _, Nat.zero_le _⟩ (vM_model C hP) hP hl.1 rfl rfl (Nat.le_of_ble_eq_true rfl) dX6_reads_182) hS (fun _ h => h) (fun r182 σ182 μ182 H locs h hP hk hS => ?_)
      refine lv_icmp_eq (tgt := 192) hx hb dX6_reads_185 (by decide) (fun hc => ?_) (fun hc => ?_)
      · have h := h.1 hc
        refine lv_iload_n hx hb dX6_reads_192 rfl (lv_at hl 5 rfl) ?_
        refine lv_iconst (v := 2) hx hb dX6_reads_193 (by decide) ?_
        refine lv_icmp_ge (tgt := 201) hx hb dX6_reads_194 (by decide) (fun hc => ?_) (fun hc => ?_)
        · have h := h.1 hc
          refine lv_iconst (v := 3) hx hb dX6_reads_201 (by decide) ?_
          exact wk_X6_reads_202 C hap hk12 h hP hS (lv_sub hl [2, 3, 4, 1] rfl)
        · have h := h.2 hc
          refine lv_iconst (v := 1) hx hb dX6_reads_197 (by decide) ?_
          refine lv_goto (tgt := 202) hx hb dX6_reads_198 (by decide) ?_
          exact wk_X6_reads_202 C hap hk12 h hP hS (lv_sub hl [2, 3, 4, 1] rfl)
      · have h := h.2 hc
        refine lv_iconst (v := 2) hx hb dX6_reads_188 (by decide) ?_
        refine lv_goto (tgt := 202) hx hb dX6_reads_189 (by decide) ?_
        exact wk_X6_reads_202 C hap hk12 h hP hS (lv_sub hl [2, 3, 4, 1] rfl)
    · have h := h.2 hc
      exact wk_X6_reads_94 C hap hk12 h hP hS (lv_sub hl [1, 2, 3] rfl)
def wb_X6_reads_53 (Q : Rg → Ar → Prop) (k12 : Rg → Ar → Int32 → Int32 → Prop) (σ : Rg) (μ : Ar) (v1 : Int32) (v2 : Int32) (t0 : Int32) : Prop := ((0 ≤ t0 → wp_X6_byteAt σ μ v1 (v2 + (1 : Int32)) (fun r69 σ69 μ69 => wp_X6_sizeBy σ69 μ69 t0 r69 (fun r72 σ72 μ72 => wb_X6_reads_75 Q k12 σ72 μ72 v1 v2 t0 r72))) ∧ (¬ 0 ≤ t0 → wb_X6_reads_75 Q k12 σ μ v1 v2 t0 (0 : Int32)))
set_option maxHeartbeats 4000000 in
set_option maxRecDepth 100000 in
theorem wk_X6_reads_53 {p : Program} {l : Launch} {e : Env} {s : State} {m : MethodId} {args : Array Value} {below : List Frame} {meth : Method} {c : Code} {D : va_G} {cy : ClassId} {Ad : Nat → Nat} (C : Cx p s m args meth c RX6 cX6_reads 6 (none : Option FieldType) D [(cy, .int)]) (hap : apt 8 Ad) {Q : Rg → Ar → Prop} {k12 : Rg → Ar → Int32 → Int32 → Prop} (hk12 : ∀ {σ : Rg} {μ : Ar} {v1 : Int32} {v2 : Int32} {H : Heap} {locs : List Loc} {ls : Array Slot}, k12 σ μ v1 v2 → va_P D vwCl (wM Ad cy σ μ) H → va_S (AS 8 Ad) s.heap H locs → lv_has ls 6 [(0, .ref (Ad 0)), (1, .int v1), (2, .int v2)] → W p l e rmX6_reads s m args below meth c H locs 0 0 (MQ below (Qcg (PWv (wM Ad cy) D Q) (AS 8 Ad)) args s 0 0 (AS 8 Ad)) (F0 m 12 ls [])) {σ : Rg} {μ : Ar} {v1 : Int32} {v2 : Int32} {t0 : Int32} {H : Heap} {locs : List Loc} {ls : Array Slot} (h : wb_X6_reads_53 Q k12 σ μ v1 v2 t0) (hP : va_P D vwCl (wM Ad cy σ μ) H) (hS : va_S (AS 8 Ad) s.heap H locs) (hl : lv_has ls 6 [(0, .ref (Ad 0)), (1, .int v1), (2, .int v2)]) : W p l e rmX6_reads s m args below meth c H locs 0 0 (MQ below (Qcg (PWv (wM Ad cy) D Q) (AS 8 Ad)) args s 0 0 (AS 8 Ad)) (F0 m 53 ls [.int t0]) := by
  have hx := C.1
  have hb := C.2.1
  refine lv_istore_n (lv' := [(3, .int t0), (0, .ref (Ad 0)), (1, .int v1), (2, .int v2)]) hx hb dX6_reads_53 rfl hl (by decide) rfl (fun ls hl => ?_)
  refine lv_iload_n hx hb dX6_reads_54 rfl (lv_at hl 0 rfl) ?_
  refine lv_if_ge (tgt := 62) hx hb dX6_reads_55 (by decide) (fun hc => ?_) (fun hc => ?_)
  · have h := h.1 hc
    refine lv_aload_n hx hb dX6_reads_62 rfl (lv_at hl 1 rfl) ?_
    refine lv_iload_n hx hb dX6_reads_63 rfl (lv_at hl 0 rfl) ?_
    refine lv_aload_n hx hb dX6_reads_64 rfl (lv_at hl 1 rfl) ?_
    refine lv_iload_n hx hb dX6_reads_65 rfl (lv_at hl 2 rfl) ?_
    refine lv_iload_n hx hb dX6_reads_66 rfl (lv_at hl 3 rfl) ?_
    refine lv_iconst (v := 1) hx hb dX6_reads_67 (by decide) ?_
    refine lv_iadd hx hb dX6_reads_68 ?_
    refine kWi (rnV C (ct_X6_byteAt l D cy Ad hap h) yv_X6_byteAt wq_997 ⟨rfl, rfl⟩ ⟨Nat.le_of_ble_eq_true rfl, Nat.le_of_ble_eq_true rfl⟩ ⟨Nat.zero_le _, Nat.zero_le _⟩ (vM_model C hP) hP hl.1 rfl rfl (Nat.le_of_ble_eq_true rfl) dX6_reads_69) hS (fun _ h => h) (fun r69 σ69 μ69 H locs h hP hk hS => ?_)
    refine kWi (rnV C (ct_X6_sizeBy l D cy Ad hap h) yv_X6_sizeBy wq_1044 ⟨rfl, rfl⟩ ⟨Nat.le_of_ble_eq_true rfl, Nat.le_of_ble_eq_true rfl⟩ ⟨Nat.zero_le _, Nat.zero_le _⟩ (vM_model C hP) hP hl.1 rfl rfl (Nat.le_of_ble_eq_true rfl) dX6_reads_72) hS (fun _ h => h) (fun r72 σ72 μ72 H locs h hP hk hS => ?_)
    exact wk_X6_reads_75 C hap hk12 h hP hS (lv_sub hl [1, 2, 3, 0] rfl)
  · have h := h.2 hc
    refine lv_iconst (v := 0) hx hb dX6_reads_58 (by decide) ?_
    refine lv_goto (tgt := 75) hx hb dX6_reads_59 (by decide) ?_
    exact wk_X6_reads_75 C hap hk12 h hP hS (lv_sub hl [1, 2, 3, 0] rfl)
def wb_X6_reads_12 (Q : Rg → Ar → Prop) (k12 : Rg → Ar → Int32 → Int32 → Prop) (σ : Rg) (μ : Ar) (v1 : Int32) (v2 : Int32) : Prop := (((μ 0 1) ≤ v2 → wb_X6_reads_221 Q σ μ v1 v2) ∧ (¬ (μ 0 1) ≤ v2 → wp_X6_isBlank σ μ v1 v2 (fun r25 σ25 μ25 => ((¬ r25 = 0 → wb_X6_reads_221 Q σ25 μ25 v1 v2) ∧ (r25 = 0 → (((μ25 0 1) ≤ (v2 + (1 : Int32)) → wb_X6_reads_53 Q k12 σ25 μ25 v1 v2 (-1 : Int32)) ∧ (¬ (μ25 0 1) ≤ (v2 + (1 : Int32)) → wp_X6_sortAt σ25 μ25 v1 v2 (fun r46 σ46 μ46 => wb_X6_reads_53 Q k12 σ46 μ46 v1 v2 r46))))))))
set_option maxHeartbeats 4000000 in
set_option maxRecDepth 100000 in
theorem wk_X6_reads_12 {p : Program} {l : Launch} {e : Env} {s : State} {m : MethodId} {args : Array Value} {below : List Frame} {meth : Method} {c : Code} {D : va_G} {cy : ClassId} {Ad : Nat → Nat} (C : Cx p s m args meth c RX6 cX6_reads 6 (none : Option FieldType) D [(cy, .int)]) (hap : apt 8 Ad) {Q : Rg → Ar → Prop} {k12 : Rg → Ar → Int32 → Int32 → Prop} (hk12 : ∀ {σ : Rg} {μ : Ar} {v1 : Int32} {v2 : Int32} {H : Heap} {locs : List Loc} {ls : Array Slot}, k12 σ μ v1 v2 → va_P D vwCl (wM Ad cy σ μ) H → va_S (AS 8 Ad) s.heap H locs → lv_has ls 6 [(0, .ref (Ad 0)), (1, .int v1), (2, .int v2)] → W p l e rmX6_reads s m args below meth c H locs 0 0 (MQ below (Qcg (PWv (wM Ad cy) D Q) (AS 8 Ad)) args s 0 0 (AS 8 Ad)) (F0 m 12 ls [])) {σ : Rg} {μ : Ar} {v1 : Int32} {v2 : Int32} {H : Heap} {locs : List Loc} {ls : Array Slot} (h : wb_X6_reads_12 Q k12 σ μ v1 v2) (hP : va_P D vwCl (wM Ad cy σ μ) H) (hS : va_S (AS 8 Ad) s.heap H locs) (hl : lv_has ls 6 [(0, .ref (Ad 0)), (1, .int v1), (2, .int v2)]) : W p l e rmX6_reads s m args below meth c H locs 0 0 (MQ below (Qcg (PWv (wM Ad cy) D Q) (AS 8 Ad)) args s 0 0 (AS 8 Ad)) (F0 m 12 ls []) := by
  have hx := C.1
  have hb := C.2.1
  refine lv_iload_n hx hb dX6_reads_12 rfl (lv_at hl 2 rfl) ?_
  refine lv_aload_n hx hb dX6_reads_13 rfl (lv_at hl 0 rfl) ?_
  refine gM_model_x C hP (C.2.2.2.2.2.2.1 _ wq_924) dX6_reads_14 ?_
  refine lv_iconst (v := 1) hx hb dX6_reads_17 (by decide) ?_
  refine lcM_0 C hP tc_1 vi_1_810 dX6_reads_18 ?_
  refine lv_icmp_ge (tgt := 221) hx hb dX6_reads_19 (by decide) (fun hc => ?_) (fun hc => ?_)
  · have h := h.1 hc
    exact wk_X6_reads_221 C hap h hP hS (lv_sub hl [0, 1, 2] rfl)
  · have h := h.2 hc
    refine lv_aload_n hx hb dX6_reads_22 rfl (lv_at hl 0 rfl) ?_
    refine lv_iload_n hx hb dX6_reads_23 rfl (lv_at hl 1 rfl) ?_
    refine lv_iload_n hx hb dX6_reads_24 rfl (lv_at hl 2 rfl) ?_
    refine kWi (rnV C (ct_X6_isBlank l D cy Ad hap h) yv_X6_isBlank wq_1012 ⟨rfl, rfl⟩ ⟨Nat.le_of_ble_eq_true rfl, Nat.le_of_ble_eq_true rfl⟩ ⟨Nat.zero_le _, Nat.zero_le _⟩ (vM_model C hP) hP hl.1 rfl rfl (Nat.le_of_ble_eq_true rfl) dX6_reads_25) hS (fun _ h => h) (fun r25 σ25 μ25 H locs h hP hk hS => ?_)
    refine lv_if_ne (tgt := 221) hx hb dX6_reads_28 (by decide) (fun hc => ?_) (fun hc => ?_)
    · have h := h.1 hc
      exact wk_X6_reads_221 C hap h hP hS (lv_sub hl [0, 1, 2] rfl)
    · have h := h.2 hc
      refine lv_iload_n hx hb dX6_reads_31 rfl (lv_at hl 2 rfl) ?_
      refine lv_iconst (v := 1) hx hb dX6_reads_32 (by decide) ?_
      refine lv_iadd hx hb dX6_reads_33 ?_
      refine lv_aload_n hx hb dX6_reads_34 rfl (lv_at hl 0 rfl) ?_
      refine gM_model_x C hP (C.2.2.2.2.2.2.1 _ wq_924) dX6_reads_35 ?_
      refine lv_iconst (v := 1) hx hb dX6_reads_38 (by decide) ?_
      refine lcM_0 C hP tc_1 vi_1_810 dX6_reads_39 ?_
      refine lv_icmp_ge (tgt := 52) hx hb dX6_reads_40 (by decide) (fun hc => ?_) (fun hc => ?_)
      · have h := h.1 hc
        refine lv_iconst (v := -1) hx hb dX6_reads_52 (by decide) ?_
        exact wk_X6_reads_53 C hap hk12 h hP hS (lv_sub hl [0, 1, 2] rfl)
      · have h := h.2 hc
        refine lv_aload_n hx hb dX6_reads_43 rfl (lv_at hl 0 rfl) ?_
        refine lv_iload_n hx hb dX6_reads_44 rfl (lv_at hl 1 rfl) ?_
        refine lv_iload_n hx hb dX6_reads_45 rfl (lv_at hl 2 rfl) ?_
        refine kWi (rnV C (ct_X6_sortAt l D cy Ad hap h) yv_X6_sortAt wq_1040 ⟨rfl, rfl⟩ ⟨Nat.le_of_ble_eq_true rfl, Nat.le_of_ble_eq_true rfl⟩ ⟨Nat.zero_le _, Nat.zero_le _⟩ (vM_model C hP) hP hl.1 rfl rfl (Nat.le_of_ble_eq_true rfl) dX6_reads_46) hS (fun _ h => h) (fun r46 σ46 μ46 H locs h hP hk hS => ?_)
        refine lv_goto (tgt := 53) hx hb dX6_reads_49 (by decide) ?_
        exact wk_X6_reads_53 C hap hk12 h hP hS (lv_sub hl [0, 1, 2] rfl)
def wl_X6_reads_12 (Q : Rg → Ar → Prop) (n : Nat) : Rg → Ar → Int32 → Int32 → Prop := Nat.rec (motive := fun _ => Rg → Ar → Int32 → Int32 → Prop) (fun _ _ _ _ => False) (fun _ k => wb_X6_reads_12 Q k) n
set_option maxHeartbeats 4000000 in
theorem wkl_X6_reads_12 {p : Program} {l : Launch} {e : Env} {s : State} {m : MethodId} {args : Array Value} {below : List Frame} {meth : Method} {c : Code} {D : va_G} {cy : ClassId} {Ad : Nat → Nat} (C : Cx p s m args meth c RX6 cX6_reads 6 (none : Option FieldType) D [(cy, .int)]) (hap : apt 8 Ad) {Q : Rg → Ar → Prop}  : ∀ (n : Nat) {σ : Rg} {μ : Ar} {v1 : Int32} {v2 : Int32} {H : Heap} {locs : List Loc} {ls : Array Slot} (h : wl_X6_reads_12 Q  n σ μ v1 v2) (hP : va_P D vwCl (wM Ad cy σ μ) H) (hS : va_S (AS 8 Ad) s.heap H locs) (hl : lv_has ls 6 [(0, .ref (Ad 0)), (1, .int v1), (2, .int v2)]), W p l e rmX6_reads s m args below meth c H locs 0 0 (MQ below (Qcg (PWv (wM Ad cy) D Q) (AS 8 Ad)) args s 0 0 (AS 8 Ad)) (F0 m 12 ls []) := by
  intro n
  induction n with
  | zero => intro σ μ v1 v2 H locs ls h; exact h.elim
  | succ n ih =>
    intro σ μ v1 v2 H locs ls h hP hS hl
    exact wk_X6_reads_12 C hap (fun h hP hS hl => ih h hP hS hl) h hP hS hl
def wp_X6_reads (σ : Rg) (μ : Ar) (x1 : Int32) (Q : Rg → Ar → Prop) : Prop := ∀ σ2 : Rg, σ2 = upd σ 2 (0 : Int32) → (∀ σ7 : Rg, σ7 = upd σ2 4 (0 : Int32) → (∃ n, wl_X6_reads_12 Q n σ7 μ x1 (4 : Int32)))
set_option maxHeartbeats 4000000 in
set_option maxRecDepth 100000 in
theorem ct_X6_reads (l : Launch) (D : va_G) (cy : ClassId) (Ad : Nat → Nat) (hap : apt 8 Ad) {σ : Rg} {μ : Ar} {x1 : Int32} {Q : Rg → Ar → Prop} (h : wp_X6_reads σ μ x1 Q) : Ct l yX6_reads cX6_reads 6 (none : Option FieldType) rmX6_reads D [(cy, .int)] (fun H => va_P D vwCl (wM Ad cy σ μ) H) [.ref (Ad 0), .int x1] (AS 8 Ad) (PWv (wM Ad cy) D Q) := by
  refine Ct.of (by decide) (Nat.le_of_ble_eq_true rfl) ?_
  intro p e s m below meth c ls C hP hl
  have hl : lv_has ls 6 [(0, .ref (Ad 0)), (1, .int x1)] := hl
  have hS : va_S (AS 8 Ad) s.heap s.heap [] := va_S.rf
  have hx := C.1
  have hb := C.2.1
  refine lv_aload_n hx hb dX6_reads_0 rfl (lv_at hl 0 rfl) ?_
  refine lv_iconst (v := 0) hx hb dX6_reads_1 (by decide) ?_
  refine pM_model_entries C hap (fun _ h => h) hP hS (C.2.2.2.2.2.2.1 _ wq_928) dX6_reads_2 (fun H locs hP hS => ?_)
  obtain ⟨σ2, e2⟩ : ∃ z : Rg, z = upd σ 2 (0 : Int32) := ⟨_, rfl⟩
  have hP : va_P D vwCl (wM Ad cy σ2 μ) H := by rw [e2]; exact hP
  have h := h σ2 e2
  refine lv_aload_n hx hb dX6_reads_5 rfl (lv_at hl 0 rfl) ?_
  refine lv_iconst (v := 0) hx hb dX6_reads_6 (by decide) ?_
  refine pM_model_lost C hap (fun _ h => h) hP hS (C.2.2.2.2.2.2.1 _ wq_930) dX6_reads_7 (fun H locs hP hS => ?_)
  obtain ⟨σ7, e7⟩ : ∃ z : Rg, z = upd σ2 4 (0 : Int32) := ⟨_, rfl⟩
  have hP : va_P D vwCl (wM Ad cy σ7 μ) H := by rw [e7]; exact hP
  have h := h σ7 e7
  refine lv_iconst (v := 4) hx hb dX6_reads_10 (by decide) ?_
  refine lv_istore_n (lv' := [(2, .int (4 : Int32)), (0, .ref (Ad 0)), (1, .int x1)]) hx hb dX6_reads_11 rfl hl (by decide) rfl (fun ls hl => ?_)
  obtain ⟨n, h⟩ := h
  exact wkl_X6_reads_12 C hap n h hP hS (lv_sub hl [1, 2, 0] rfl)
abbrev rmX6_number : Room := { frames := 1, cells := 0, slots := 0, locals := 22 }
def wb_X6_number_6 (Q : Int64 → Rg → Ar → Prop) (k6 : Rg → Ar → Int32 → Int32 → Int32 → Int64 → Int32 → Prop) (σ : Rg) (μ : Ar) (v1 : Int32) (v2 : Int32) (v3 : Int32) (v4 : Int64) (v6 : Int32) : Prop := (((v2 + v3) ≤ v6 → Q v4 σ μ) ∧ (¬ (v2 + v3) ≤ v6 → wp_X6_byteAt σ μ v1 v6 (fun r23 σ23 μ23 => ∀ y28 : Int64, y28 = ((v4 <<< (((8 : Int32)).toInt64 &&& 63)) ||| (r23).toInt64) → (∀ y30 : Int32, y30 = v6 + (1 : Int32) → (k6 σ23 μ23 v1 v2 v3 y28 y30)))))
set_option maxHeartbeats 4000000 in
set_option maxRecDepth 100000 in
theorem wk_X6_number_6 {p : Program} {l : Launch} {e : Env} {s : State} {m : MethodId} {args : Array Value} {below : List Frame} {meth : Method} {c : Code} {D : va_G} {cy : ClassId} {Ad : Nat → Nat} (C : Cx p s m args meth c RX6 cX6_number 7 (some FieldType.long) D [(cy, .int)]) (hap : apt 8 Ad) {Q : Int64 → Rg → Ar → Prop} {k6 : Rg → Ar → Int32 → Int32 → Int32 → Int64 → Int32 → Prop} (hk6 : ∀ {σ : Rg} {μ : Ar} {v1 : Int32} {v2 : Int32} {v3 : Int32} {v4 : Int64} {v6 : Int32} {H : Heap} {locs : List Loc} {ls : Array Slot}, k6 σ μ v1 v2 v3 v4 v6 → va_P D vwCl (wM Ad cy σ μ) H → va_S (AS 8 Ad) s.heap H locs → lv_has ls 7 [(0, .ref (Ad 0)), (1, .int v1), (2, .int v2), (3, .int v3), (4, .long v4), (6, .int v6)] → W p l e rmX6_number s m args below meth c H locs 0 0 (MQ below (Qcg (PWl (wM Ad cy) D Q) (AS 8 Ad)) args s 0 0 (AS 8 Ad)) (F0 m 6 ls [])) {σ : Rg} {μ : Ar} {v1 : Int32} {v2 : Int32} {v3 : Int32} {v4 : Int64} {v6 : Int32} {H : Heap} {locs : List Loc} {ls : Array Slot} (h : wb_X6_number_6 Q k6 σ μ v1 v2 v3 v4 v6) (hP : va_P D vwCl (wM Ad cy σ μ) H) (hS : va_S (AS 8 Ad) s.heap H locs) (hl : lv_has ls 7 [(0, .ref (Ad 0)), (1, .int v1), (2, .int v2), (3, .int v3), (4, .long v4), (6, .int v6)]) : W p l e rmX6_number s m args below meth c H locs 0 0 (MQ below (Qcg (PWl (wM Ad cy) D Q) (AS 8 Ad)) args s 0 0 (AS 8 Ad)) (F0 m 6 ls []) := by
  have hx := C.1
  have hb := C.2.1
  refine lv_iload hx hb dX6_number_6 (lv_at hl 5 rfl) ?_
  refine lv_iload_n hx hb dX6_number_8 rfl (lv_at hl 2 rfl) ?_
  refine lv_iload_n hx hb dX6_number_9 rfl (lv_at hl 3 rfl) ?_
  refine lv_iadd hx hb dX6_number_10 ?_
  refine lv_icmp_ge (tgt := 36) hx hb dX6_number_11 (by decide) (fun hc => ?_) (fun hc => ?_)
  · have h := h.1 hc
    refine lv_lload hx hb dX6_number_36 (lv_at hl 4 rfl) ?_
    exact endL C hS ⟨_, _, _, rfl, h, hP⟩ dX6_number_38
  · have h := h.2 hc
    refine lv_lload hx hb dX6_number_14 (lv_at hl 4 rfl) ?_
    refine lv_bipush (v := 8) hx hb dX6_number_16 (by decide) ?_
    refine lv_lshl hx hb dX6_number_18 rfl ?_
    refine lv_aload_n hx hb dX6_number_19 rfl (lv_at hl 0 rfl) ?_
    refine lv_iload_n hx hb dX6_number_20 rfl (lv_at hl 1 rfl) ?_
    refine lv_iload hx hb dX6_number_21 (lv_at hl 5 rfl) ?_
    refine kWi (rnV C (ct_X6_byteAt l D cy Ad hap h) yv_X6_byteAt wq_997 ⟨rfl, rfl⟩ ⟨Nat.le_of_ble_eq_true rfl, Nat.le_of_ble_eq_true rfl⟩ ⟨Nat.zero_le _, Nat.zero_le _⟩ (vM_model C hP) hP hl.1 rfl rfl (Nat.le_of_ble_eq_true rfl) dX6_number_23) hS (fun _ h => h) (fun r23 σ23 μ23 H locs h hP hk hS => ?_)
    refine lv_i2l hx hb dX6_number_26 rfl ?_
    refine lv_lor hx hb dX6_number_27 ?_
    refine lv_topl (fun y28 e28 => ?_)
    have h := h y28 e28
    refine lv_lstore (lv' := [(4, .long y28), (0, .ref (Ad 0)), (1, .int v1), (2, .int v2), (3, .int v3), (6, .int v6)]) hx hb dX6_number_28 hl (by decide) rfl (fun ls hl => ?_)
    obtain ⟨y30, e30⟩ : ∃ y : Int32, y = v6 + (1 : Int32) := ⟨_, rfl⟩
    have h := h y30 e30
    refine lv_iinc (v := y30) (lv' := [(6, .int y30), (4, .long y28), (0, .ref (Ad 0)), (1, .int v1), (2, .int v2), (3, .int v3)]) hx hb dX6_number_30 hl (k := 5) rfl (by rw [e30]; rfl) (by decide) rfl (fun ls hl => ?_)
    refine lv_goto (tgt := 6) hx hb dX6_number_33 (by decide) ?_
    exact hk6 h hP hS (lv_sub hl [2, 3, 4, 5, 1, 0] rfl)
def wl_X6_number_6 (Q : Int64 → Rg → Ar → Prop) (n : Nat) : Rg → Ar → Int32 → Int32 → Int32 → Int64 → Int32 → Prop := Nat.rec (motive := fun _ => Rg → Ar → Int32 → Int32 → Int32 → Int64 → Int32 → Prop) (fun _ _ _ _ _ _ _ => False) (fun _ k => wb_X6_number_6 Q k) n
set_option maxHeartbeats 4000000 in
theorem wkl_X6_number_6 {p : Program} {l : Launch} {e : Env} {s : State} {m : MethodId} {args : Array Value} {below : List Frame} {meth : Method} {c : Code} {D : va_G} {cy : ClassId} {Ad : Nat → Nat} (C : Cx p s m args meth c RX6 cX6_number 7 (some FieldType.long) D [(cy, .int)]) (hap : apt 8 Ad) {Q : Int64 → Rg → Ar → Prop}  : ∀ (n : Nat) {σ : Rg} {μ : Ar} {v1 : Int32} {v2 : Int32} {v3 : Int32} {v4 : Int64} {v6 : Int32} {H : Heap} {locs : List Loc} {ls : Array Slot} (h : wl_X6_number_6 Q  n σ μ v1 v2 v3 v4 v6) (hP : va_P D vwCl (wM Ad cy σ μ) H) (hS : va_S (AS 8 Ad) s.heap H locs) (hl : lv_has ls 7 [(0, .ref (Ad 0)), (1, .int v1), (2, .int v2), (3, .int v3), (4, .long v4), (6, .int v6)]), W p l e rmX6_number s m args below meth c H locs 0 0 (MQ below (Qcg (PWl (wM Ad cy) D Q) (AS 8 Ad)) args s 0 0 (AS 8 Ad)) (F0 m 6 ls []) := by
  intro n
  induction n with
  | zero => intro σ μ v1 v2 v3 v4 v6 H locs ls h; exact h.elim
  | succ n ih =>
    intro σ μ v1 v2 v3 v4 v6 H locs ls h hP hS hl
    exact wk_X6_number_6 C hap (fun h hP hS hl => ih h hP hS hl) h hP hS hl
def wp_X6_number (σ : Rg) (μ : Ar) (x1 : Int32) (x2 : Int32) (x3 : Int32) (Q : Int64 → Rg → Ar → Prop) : Prop := ∃ n, wl_X6_number_6 Q n σ μ x1 x2 x3 (0 : Int64) x2
set_option maxHeartbeats 4000000 in
set_option maxRecDepth 100000 in
theorem ct_X6_number (l : Launch) (D : va_G) (cy : ClassId) (Ad : Nat → Nat) (hap : apt 8 Ad) {σ : Rg} {μ : Ar} {x1 : Int32} {x2 : Int32} {x3 : Int32} {Q : Int64 → Rg → Ar → Prop} (h : wp_X6_number σ μ x1 x2 x3 Q) : Ct l yX6_number cX6_number 7 (some FieldType.long) rmX6_number D [(cy, .int)] (fun H => va_P D vwCl (wM Ad cy σ μ) H) [.ref (Ad 0), .int x1, .int x2, .int x3] (AS 8 Ad) (PWl (wM Ad cy) D Q) := by
  refine Ct.of (by decide) (Nat.le_of_ble_eq_true rfl) ?_
  intro p e s m below meth c ls C hP hl
  have hl : lv_has ls 7 [(0, .ref (Ad 0)), (1, .int x1), (2, .int x2), (3, .int x3)] := hl
  have hS : va_S (AS 8 Ad) s.heap s.heap [] := va_S.rf
  have hx := C.1
  have hb := C.2.1
  refine lv_lconst (v := 0) hx hb dX6_number_0 (by decide) ?_
  refine lv_lstore (lv' := [(4, .long (0 : Int64)), (0, .ref (Ad 0)), (1, .int x1), (2, .int x2), (3, .int x3)]) hx hb dX6_number_1 hl (by decide) rfl (fun ls hl => ?_)
  refine lv_iload_n hx hb dX6_number_3 rfl (lv_at hl 3 rfl) ?_
  refine lv_istore (lv' := [(6, .int x2), (4, .long (0 : Int64)), (0, .ref (Ad 0)), (1, .int x1), (2, .int x2), (3, .int x3)]) hx hb dX6_number_4 hl (by decide) rfl (fun ls hl => ?_)
  obtain ⟨n, h⟩ := h
  exact wkl_X6_number_6 C hap n h hP hS (lv_sub hl [2, 3, 4, 5, 1, 0] rfl)
abbrev rmX6_zeros : Room := { frames := 1, cells := 0, slots := 0, locals := 22 }
def wb_X6_zeros_5 (Q : Int32 → Rg → Ar → Prop) (k5 : Rg → Ar → Int32 → Int32 → Int32 → Int32 → Prop) (σ : Rg) (μ : Ar) (v1 : Int32) (v2 : Int32) (v3 : Int32) (v4 : Int32) : Prop := (((v2 + (8 : Int32)) ≤ v4 → Q v3 σ μ) ∧ (¬ (v2 + (8 : Int32)) ≤ v4 → wp_X6_byteAt σ μ v1 v4 (fun r21 σ21 μ21 => wp_J6_bitCount_0f7a4 r21 (fun r24 => ∀ y29 : Int32, y29 = (v3 + ((8 : Int32) - r24)) → (∀ y30 : Int32, y30 = v4 + (1 : Int32) → (k5 σ21 μ21 v1 v2 y29 y30))))))
set_option maxHeartbeats 4000000 in
set_option maxRecDepth 100000 in
theorem wk_X6_zeros_5 {p : Program} {l : Launch} {e : Env} {s : State} {m : MethodId} {args : Array Value} {below : List Frame} {meth : Method} {c : Code} {D : va_G} {cy : ClassId} {Ad : Nat → Nat} (C : Cx p s m args meth c RX6 cX6_zeros 5 (some FieldType.int) D [(cy, .int)]) (hap : apt 8 Ad) {Q : Int32 → Rg → Ar → Prop} {k5 : Rg → Ar → Int32 → Int32 → Int32 → Int32 → Prop} (hk5 : ∀ {σ : Rg} {μ : Ar} {v1 : Int32} {v2 : Int32} {v3 : Int32} {v4 : Int32} {H : Heap} {locs : List Loc} {ls : Array Slot}, k5 σ μ v1 v2 v3 v4 → va_P D vwCl (wM Ad cy σ μ) H → va_S (AS 8 Ad) s.heap H locs → lv_has ls 5 [(0, .ref (Ad 0)), (1, .int v1), (2, .int v2), (3, .int v3), (4, .int v4)] → W p l e rmX6_zeros s m args below meth c H locs 0 0 (MQ below (Qcg (PWi (wM Ad cy) D Q) (AS 8 Ad)) args s 0 0 (AS 8 Ad)) (F0 m 5 ls [])) {σ : Rg} {μ : Ar} {v1 : Int32} {v2 : Int32} {v3 : Int32} {v4 : Int32} {H : Heap} {locs : List Loc} {ls : Array Slot} (h : wb_X6_zeros_5 Q k5 σ μ v1 v2 v3 v4) (hP : va_P D vwCl (wM Ad cy σ μ) H) (hS : va_S (AS 8 Ad) s.heap H locs) (hl : lv_has ls 5 [(0, .ref (Ad 0)), (1, .int v1), (2, .int v2), (3, .int v3), (4, .int v4)]) : W p l e rmX6_zeros s m args below meth c H locs 0 0 (MQ below (Qcg (PWi (wM Ad cy) D Q) (AS 8 Ad)) args s 0 0 (AS 8 Ad)) (F0 m 5 ls []) := by
  have hx := C.1
  have hb := C.2.1
  refine lv_iload hx hb dX6_zeros_5 (lv_at hl 4 rfl) ?_
  refine lv_iload_n hx hb dX6_zeros_7 rfl (lv_at hl 2 rfl) ?_
  refine lv_bipush (v := 8) hx hb dX6_zeros_8 (by decide) ?_
  refine lv_iadd hx hb dX6_zeros_10 ?_
  refine lv_icmp_ge (tgt := 36) hx hb dX6_zeros_11 (by decide) (fun hc => ?_) (fun hc => ?_)
  · have h := h.1 hc
    refine lv_iload_n hx hb dX6_zeros_36 rfl (lv_at hl 3 rfl) ?_
    exact endI C hS ⟨_, _, _, rfl, h, hP⟩ dX6_zeros_37
  · have h := h.2 hc
    refine lv_iload_n hx hb dX6_zeros_14 rfl (lv_at hl 3 rfl) ?_
    refine lv_bipush (v := 8) hx hb dX6_zeros_15 (by decide) ?_
    refine lv_aload_n hx hb dX6_zeros_17 rfl (lv_at hl 0 rfl) ?_
    refine lv_iload_n hx hb dX6_zeros_18 rfl (lv_at hl 1 rfl) ?_
    refine lv_iload hx hb dX6_zeros_19 (lv_at hl 4 rfl) ?_
    refine kWi (rnV C (ct_X6_byteAt l D cy Ad hap h) yv_X6_byteAt wq_997 ⟨rfl, rfl⟩ ⟨Nat.le_of_ble_eq_true rfl, Nat.le_of_ble_eq_true rfl⟩ ⟨Nat.zero_le _, Nat.zero_le _⟩ (vM_model C hP) hP hl.1 rfl rfl (Nat.le_of_ble_eq_true rfl) dX6_zeros_21) hS (fun _ h => h) (fun r21 σ21 μ21 H locs h hP hk hS => ?_)
    refine kNi (rnS (C.none) (ct_J6_bitCount_0f7a4 l D h) ys_J6_bitCount_0f7a4 wq_1141 ⟨rfl, rfl⟩ ⟨Nat.le_of_ble_eq_true rfl, Nat.le_of_ble_eq_true rfl⟩ ⟨Nat.zero_le _, Nat.zero_le _⟩ trivial hl.1 rfl rfl (Nat.le_of_ble_eq_true rfl) dX6_zeros_24) hS (fun _ h => h.elim) (fun r24 H locs h hk hS => ?_)
    have hP := keepN hP hk
    refine lv_isub hx hb dX6_zeros_27 ?_
    refine lv_iadd hx hb dX6_zeros_28 ?_
    refine lv_topi (fun y29 e29 => ?_)
    have h := h y29 e29
    refine lv_istore_n (lv' := [(3, .int y29), (0, .ref (Ad 0)), (1, .int v1), (2, .int v2), (4, .int v4)]) hx hb dX6_zeros_29 rfl hl (by decide) rfl (fun ls hl => ?_)
    obtain ⟨y30, e30⟩ : ∃ y : Int32, y = v4 + (1 : Int32) := ⟨_, rfl⟩
    have h := h y30 e30
    refine lv_iinc (v := y30) (lv' := [(4, .int y30), (3, .int y29), (0, .ref (Ad 0)), (1, .int v1), (2, .int v2)]) hx hb dX6_zeros_30 hl (k := 4) rfl (by rw [e30]; rfl) (by decide) rfl (fun ls hl => ?_)
    refine lv_goto (tgt := 5) hx hb dX6_zeros_33 (by decide) ?_
    exact hk5 h hP hS (lv_sub hl [2, 3, 4, 1, 0] rfl)
def wl_X6_zeros_5 (Q : Int32 → Rg → Ar → Prop) (n : Nat) : Rg → Ar → Int32 → Int32 → Int32 → Int32 → Prop := Nat.rec (motive := fun _ => Rg → Ar → Int32 → Int32 → Int32 → Int32 → Prop) (fun _ _ _ _ _ _ => False) (fun _ k => wb_X6_zeros_5 Q k) n
set_option maxHeartbeats 4000000 in
theorem wkl_X6_zeros_5 {p : Program} {l : Launch} {e : Env} {s : State} {m : MethodId} {args : Array Value} {below : List Frame} {meth : Method} {c : Code} {D : va_G} {cy : ClassId} {Ad : Nat → Nat} (C : Cx p s m args meth c RX6 cX6_zeros 5 (some FieldType.int) D [(cy, .int)]) (hap : apt 8 Ad) {Q : Int32 → Rg → Ar → Prop}  : ∀ (n : Nat) {σ : Rg} {μ : Ar} {v1 : Int32} {v2 : Int32} {v3 : Int32} {v4 : Int32} {H : Heap} {locs : List Loc} {ls : Array Slot} (h : wl_X6_zeros_5 Q  n σ μ v1 v2 v3 v4) (hP : va_P D vwCl (wM Ad cy σ μ) H) (hS : va_S (AS 8 Ad) s.heap H locs) (hl : lv_has ls 5 [(0, .ref (Ad 0)), (1, .int v1), (2, .int v2), (3, .int v3), (4, .int v4)]), W p l e rmX6_zeros s m args below meth c H locs 0 0 (MQ below (Qcg (PWi (wM Ad cy) D Q) (AS 8 Ad)) args s 0 0 (AS 8 Ad)) (F0 m 5 ls []) := by
  intro n
  induction n with
  | zero => intro σ μ v1 v2 v3 v4 H locs ls h; exact h.elim
  | succ n ih =>
    intro σ μ v1 v2 v3 v4 H locs ls h hP hS hl
    exact wk_X6_zeros_5 C hap (fun h hP hS hl => ih h hP hS hl) h hP hS hl
def wp_X6_zeros (σ : Rg) (μ : Ar) (x1 : Int32) (x2 : Int32) (Q : Int32 → Rg → Ar → Prop) : Prop := ∃ n, wl_X6_zeros_5 Q n σ μ x1 x2 (0 : Int32) x2
set_option maxHeartbeats 4000000 in
set_option maxRecDepth 100000 in
theorem ct_X6_zeros (l : Launch) (D : va_G) (cy : ClassId) (Ad : Nat → Nat) (hap : apt 8 Ad) {σ : Rg} {μ : Ar} {x1 : Int32} {x2 : Int32} {Q : Int32 → Rg → Ar → Prop} (h : wp_X6_zeros σ μ x1 x2 Q) : Ct l yX6_zeros cX6_zeros 5 (some FieldType.int) rmX6_zeros D [(cy, .int)] (fun H => va_P D vwCl (wM Ad cy σ μ) H) [.ref (Ad 0), .int x1, .int x2] (AS 8 Ad) (PWi (wM Ad cy) D Q) := by
  refine Ct.of (by decide) (Nat.le_of_ble_eq_true rfl) ?_
  intro p e s m below meth c ls C hP hl
  have hl : lv_has ls 5 [(0, .ref (Ad 0)), (1, .int x1), (2, .int x2)] := hl
  have hS : va_S (AS 8 Ad) s.heap s.heap [] := va_S.rf
  have hx := C.1
  have hb := C.2.1
  refine lv_iconst (v := 0) hx hb dX6_zeros_0 (by decide) ?_
  refine lv_istore_n (lv' := [(3, .int (0 : Int32)), (0, .ref (Ad 0)), (1, .int x1), (2, .int x2)]) hx hb dX6_zeros_1 rfl hl (by decide) rfl (fun ls hl => ?_)
  refine lv_iload_n hx hb dX6_zeros_2 rfl (lv_at hl 3 rfl) ?_
  refine lv_istore (lv' := [(4, .int x2), (3, .int (0 : Int32)), (0, .ref (Ad 0)), (1, .int x1), (2, .int x2)]) hx hb dX6_zeros_3 hl (by decide) rfl (fun ls hl => ?_)
  obtain ⟨n, h⟩ := h
  exact wkl_X6_zeros_5 C hap n h hP hS (lv_sub hl [2, 3, 4, 1, 0] rfl)
abbrev rmX6_valueOf : Room := { frames := 2, cells := 0, slots := 0, locals := 48 }
def wb_X6_valueOf_82 (Q : Int64 → Rg → Ar → Prop) (σ : Rg) (μ : Ar) (t0 : Int64) : Prop := Q t0 σ μ
set_option maxHeartbeats 4000000 in
set_option maxRecDepth 100000 in
theorem wk_X6_valueOf_82 {p : Program} {l : Launch} {e : Env} {s : State} {m : MethodId} {args : Array Value} {below : List Frame} {meth : Method} {c : Code} {D : va_G} {cy : ClassId} {Ad : Nat → Nat} (C : Cx p s m args meth c RX6 cX6_valueOf 4 (some FieldType.long) D [(cy, .int)]) (hap : apt 8 Ad) {Q : Int64 → Rg → Ar → Prop} {σ : Rg} {μ : Ar} {t0 : Int64} {H : Heap} {locs : List Loc} {ls : Array Slot} (h : wb_X6_valueOf_82 Q σ μ t0) (hP : va_P D vwCl (wM Ad cy σ μ) H) (hS : va_S (AS 8 Ad) s.heap H locs) (hl : lv_has ls 4 []) : W p l e rmX6_valueOf s m args below meth c H locs 0 0 (MQ below (Qcg (PWl (wM Ad cy) D Q) (AS 8 Ad)) args s 0 0 (AS 8 Ad)) (F0 m 82 ls [.long t0]) := by
  have hx := C.1
  have hb := C.2.1
  exact endL C hS ⟨_, _, _, rfl, h, hP⟩ dX6_valueOf_82
def wp_X6_valueOf (σ : Rg) (μ : Ar) (x1 : Int32) (x2 : Int32) (Q : Int64 → Rg → Ar → Prop) : Prop := (vp_in x2 64) ∧ (((¬ (μ 3 (x2).toNatClampNeg) = (1 : Int32) → (vp_in x2 64) ∧ (wp_X6_byteAt σ μ x1 ((μ 2 (x2).toNatClampNeg) + (1 : Int32)) (fun r51 σ51 μ51 => ∀ y57 : Int32, y57 = (r51 - r51 / (16 : Int32) * (16 : Int32)) → (((¬ y57 = 0 → (vp_in x2 64) ∧ (wp_X6_number σ51 μ51 x1 ((μ51 2 (x2).toNatClampNeg) + (2 : Int32)) y57 (fun r79 σ79 μ79 => wb_X6_valueOf_82 Q σ79 μ79 r79))) ∧ (y57 = 0 → wb_X6_valueOf_82 Q σ51 μ51 (-4 : Int64))))))) ∧ ((μ 3 (x2).toNatClampNeg) = (1 : Int32) → (vp_in x2 64) ∧ (wp_X6_number σ μ x1 ((μ 2 (x2).toNatClampNeg) + (2 : Int32)) (3 : Int32) (fun r21 σ21 μ21 => (vp_in x2 64) ∧ (wp_X6_zeros σ21 μ21 x1 ((μ21 2 (x2).toNatClampNeg) + (6 : Int32)) (fun r35 σ35 μ35 => Q (r21 + (r35).toInt64) σ35 μ35)))))))
set_option maxHeartbeats 4000000 in
set_option maxRecDepth 100000 in
theorem ct_X6_valueOf (l : Launch) (D : va_G) (cy : ClassId) (Ad : Nat → Nat) (hap : apt 8 Ad) {σ : Rg} {μ : Ar} {x1 : Int32} {x2 : Int32} {Q : Int64 → Rg → Ar → Prop} (h : wp_X6_valueOf σ μ x1 x2 Q) : Ct l yX6_valueOf cX6_valueOf 4 (some FieldType.long) rmX6_valueOf D [(cy, .int)] (fun H => va_P D vwCl (wM Ad cy σ μ) H) [.ref (Ad 0), .int x1, .int x2] (AS 8 Ad) (PWl (wM Ad cy) D Q) := by
  refine Ct.of (by decide) (Nat.le_of_ble_eq_true rfl) ?_
  intro p e s m below meth c ls C hP hl
  have hl : lv_has ls 4 [(0, .ref (Ad 0)), (1, .int x1), (2, .int x2)] := hl
  have hS : va_S (AS 8 Ad) s.heap s.heap [] := va_S.rf
  have hx := C.1
  have hb := C.2.1
  refine lv_aload_n hx hb dX6_valueOf_0 rfl (lv_at hl 0 rfl) ?_
  refine gM_model_sort C hP (C.2.2.2.2.2.2.1 _ wq_932) dX6_valueOf_1 ?_
  refine lv_iload_n hx hb dX6_valueOf_4 rfl (lv_at hl 2 rfl) ?_
  obtain ⟨hc, h⟩ := h
  refine lM_3 C hP hc dX6_valueOf_5 ?_
  refine lv_iconst (v := 1) hx hb dX6_valueOf_6 (by decide) ?_
  refine lv_icmp_ne (tgt := 41) hx hb dX6_valueOf_7 (by decide) (fun hc => ?_) (fun hc => ?_)
  · have h := h.1 hc
    refine lv_aload_n hx hb dX6_valueOf_41 rfl (lv_at hl 0 rfl) ?_
    refine lv_iload_n hx hb dX6_valueOf_42 rfl (lv_at hl 1 rfl) ?_
    refine lv_aload_n hx hb dX6_valueOf_43 rfl (lv_at hl 0 rfl) ?_
    refine gM_model_place C hP (C.2.2.2.2.2.2.1 _ wq_931) dX6_valueOf_44 ?_
    refine lv_iload_n hx hb dX6_valueOf_47 rfl (lv_at hl 2 rfl) ?_
    obtain ⟨hc, h⟩ := h
    refine lM_2 C hP hc dX6_valueOf_48 ?_
    refine lv_iconst (v := 1) hx hb dX6_valueOf_49 (by decide) ?_
    refine lv_iadd hx hb dX6_valueOf_50 ?_
    refine kWi (rnV C (ct_X6_byteAt l D cy Ad hap h) yv_X6_byteAt wq_997 ⟨rfl, rfl⟩ ⟨Nat.le_of_ble_eq_true rfl, Nat.le_of_ble_eq_true rfl⟩ ⟨Nat.zero_le _, Nat.zero_le _⟩ (vM_model C hP) hP hl.1 rfl rfl (Nat.le_of_ble_eq_true rfl) dX6_valueOf_51) hS (fun _ h => h) (fun r51 σ51 μ51 H locs h hP hk hS => ?_)
    refine lv_bipush (v := 16) hx hb dX6_valueOf_54 (by decide) ?_
    refine lv_irem hx hb dX6_valueOf_56 (by decide) ?_
    refine lv_topi (fun y57 e57 => ?_)
    have h := h y57 e57
    refine lv_istore_n (lv' := [(3, .int y57), (0, .ref (Ad 0)), (1, .int x1), (2, .int x2)]) hx hb dX6_valueOf_57 rfl hl (by decide) rfl (fun ls hl => ?_)
    refine lv_iload_n hx hb dX6_valueOf_58 rfl (lv_at hl 0 rfl) ?_
    refine lv_if_ne (tgt := 68) hx hb dX6_valueOf_59 (by decide) (fun hc => ?_) (fun hc => ?_)
    · have h := h.1 hc
      refine lv_aload_n hx hb dX6_valueOf_68 rfl (lv_at hl 1 rfl) ?_
      refine lv_iload_n hx hb dX6_valueOf_69 rfl (lv_at hl 2 rfl) ?_
      refine lv_aload_n hx hb dX6_valueOf_70 rfl (lv_at hl 1 rfl) ?_
      refine gM_model_place C hP (C.2.2.2.2.2.2.1 _ wq_931) dX6_valueOf_71 ?_
      refine lv_iload_n hx hb dX6_valueOf_74 rfl (lv_at hl 3 rfl) ?_
      obtain ⟨hc, h⟩ := h
      refine lM_2 C hP hc dX6_valueOf_75 ?_
      refine lv_iconst (v := 2) hx hb dX6_valueOf_76 (by decide) ?_
      refine lv_iadd hx hb dX6_valueOf_77 ?_
      refine lv_iload_n hx hb dX6_valueOf_78 rfl (lv_at hl 0 rfl) ?_
      refine kWl (rnV C (ct_X6_number l D cy Ad hap h) yv_X6_number wq_1133 ⟨rfl, rfl⟩ ⟨Nat.le_of_ble_eq_true rfl, Nat.le_of_ble_eq_true rfl⟩ ⟨Nat.zero_le _, Nat.zero_le _⟩ (vM_model C hP) hP hl.1 rfl rfl (Nat.le_of_ble_eq_true rfl) dX6_valueOf_79) hS (fun _ h => h) (fun r79 σ79 μ79 H locs h hP hk hS => ?_)
      exact wk_X6_valueOf_82 C hap h hP hS (lv_sub hl [] rfl)
    · have h := h.2 hc
      refine lv_ldc2 hx hb C.2.2.2.1 (C.2.2.2.2.2.2.1 _ wq_1142) dX6_valueOf_62 ?_
      refine lv_goto (tgt := 82) hx hb dX6_valueOf_65 (by decide) ?_
      exact wk_X6_valueOf_82 C hap h hP hS (lv_sub hl [] rfl)
  · have h := h.2 hc
    refine lv_aload_n hx hb dX6_valueOf_10 rfl (lv_at hl 0 rfl) ?_
    refine lv_iload_n hx hb dX6_valueOf_11 rfl (lv_at hl 1 rfl) ?_
    refine lv_aload_n hx hb dX6_valueOf_12 rfl (lv_at hl 0 rfl) ?_
    refine gM_model_place C hP (C.2.2.2.2.2.2.1 _ wq_931) dX6_valueOf_13 ?_
    refine lv_iload_n hx hb dX6_valueOf_16 rfl (lv_at hl 2 rfl) ?_
    obtain ⟨hc, h⟩ := h
    refine lM_2 C hP hc dX6_valueOf_17 ?_
    refine lv_iconst (v := 2) hx hb dX6_valueOf_18 (by decide) ?_
    refine lv_iadd hx hb dX6_valueOf_19 ?_
    refine lv_iconst (v := 3) hx hb dX6_valueOf_20 (by decide) ?_
    refine kWl (rnV C (ct_X6_number l D cy Ad hap h) yv_X6_number wq_1133 ⟨rfl, rfl⟩ ⟨Nat.le_of_ble_eq_true rfl, Nat.le_of_ble_eq_true rfl⟩ ⟨Nat.zero_le _, Nat.zero_le _⟩ (vM_model C hP) hP hl.1 rfl rfl (Nat.le_of_ble_eq_true rfl) dX6_valueOf_21) hS (fun _ h => h) (fun r21 σ21 μ21 H locs h hP hk hS => ?_)
    refine lv_aload_n hx hb dX6_valueOf_24 rfl (lv_at hl 0 rfl) ?_
    refine lv_iload_n hx hb dX6_valueOf_25 rfl (lv_at hl 1 rfl) ?_
    refine lv_aload_n hx hb dX6_valueOf_26 rfl (lv_at hl 0 rfl) ?_
    refine gM_model_place C hP (C.2.2.2.2.2.2.1 _ wq_931) dX6_valueOf_27 ?_
    refine lv_iload_n hx hb dX6_valueOf_30 rfl (lv_at hl 2 rfl) ?_
    obtain ⟨hc, h⟩ := h
    refine lM_2 C hP hc dX6_valueOf_31 ?_
    refine lv_bipush (v := 6) hx hb dX6_valueOf_32 (by decide) ?_
    refine lv_iadd hx hb dX6_valueOf_34 ?_
    refine kWi (rnV C (ct_X6_zeros l D cy Ad hap h) yv_X6_zeros wq_1137 ⟨rfl, rfl⟩ ⟨Nat.le_of_ble_eq_true rfl, Nat.le_of_ble_eq_true rfl⟩ ⟨Nat.zero_le _, Nat.zero_le _⟩ (vM_model C hP) hP hl.1 rfl rfl (Nat.le_of_ble_eq_true rfl) dX6_valueOf_35) hS (fun _ h => h) (fun r35 σ35 μ35 H locs h hP hk hS => ?_)
    refine lv_i2l hx hb dX6_valueOf_38 rfl ?_
    refine lv_ladd hx hb dX6_valueOf_39 ?_
    exact endL C hS ⟨_, _, _, rfl, h, hP⟩ dX6_valueOf_40
abbrev rmX6_lengthOf : Room := { frames := 1, cells := 0, slots := 0, locals := 22 }
def wb_X6_lengthOf_30 (Q : Int32 → Rg → Ar → Prop) (σ : Rg) (μ : Ar) (t0 : Int32) : Prop := Q t0 σ μ
set_option maxHeartbeats 4000000 in
set_option maxRecDepth 100000 in
theorem wk_X6_lengthOf_30 {p : Program} {l : Launch} {e : Env} {s : State} {m : MethodId} {args : Array Value} {below : List Frame} {meth : Method} {c : Code} {D : va_G} {cy : ClassId} {Ad : Nat → Nat} (C : Cx p s m args meth c RX6 cX6_lengthOf 3 (some FieldType.int) D [(cy, .int)]) (hap : apt 8 Ad) {Q : Int32 → Rg → Ar → Prop} {σ : Rg} {μ : Ar} {t0 : Int32} {H : Heap} {locs : List Loc} {ls : Array Slot} (h : wb_X6_lengthOf_30 Q σ μ t0) (hP : va_P D vwCl (wM Ad cy σ μ) H) (hS : va_S (AS 8 Ad) s.heap H locs) (hl : lv_has ls 3 []) : W p l e rmX6_lengthOf s m args below meth c H locs 0 0 (MQ below (Qcg (PWi (wM Ad cy) D Q) (AS 8 Ad)) args s 0 0 (AS 8 Ad)) (F0 m 30 ls [.int t0]) := by
  have hx := C.1
  have hb := C.2.1
  exact endI C hS ⟨_, _, _, rfl, h, hP⟩ dX6_lengthOf_30
def wp_X6_lengthOf (σ : Rg) (μ : Ar) (x1 : Int32) (x2 : Int32) (Q : Int32 → Rg → Ar → Prop) : Prop := (vp_in x2 64) ∧ (((¬ (μ 3 (x2).toNatClampNeg) = (1 : Int32) → (vp_in x2 64) ∧ (wp_X6_byteAt σ μ x1 ((μ 2 (x2).toNatClampNeg) + (1 : Int32)) (fun r24 σ24 μ24 => wb_X6_lengthOf_30 Q σ24 μ24 (r24 - r24 / (16 : Int32) * (16 : Int32))))) ∧ ((μ 3 (x2).toNatClampNeg) = (1 : Int32) → wb_X6_lengthOf_30 Q σ μ (3 : Int32))))
set_option maxHeartbeats 4000000 in
set_option maxRecDepth 100000 in
theorem ct_X6_lengthOf (l : Launch) (D : va_G) (cy : ClassId) (Ad : Nat → Nat) (hap : apt 8 Ad) {σ : Rg} {μ : Ar} {x1 : Int32} {x2 : Int32} {Q : Int32 → Rg → Ar → Prop} (h : wp_X6_lengthOf σ μ x1 x2 Q) : Ct l yX6_lengthOf cX6_lengthOf 3 (some FieldType.int) rmX6_lengthOf D [(cy, .int)] (fun H => va_P D vwCl (wM Ad cy σ μ) H) [.ref (Ad 0), .int x1, .int x2] (AS 8 Ad) (PWi (wM Ad cy) D Q) := by
  refine Ct.of (by decide) (Nat.le_of_ble_eq_true rfl) ?_
  intro p e s m below meth c ls C hP hl
  have hl : lv_has ls 3 [(0, .ref (Ad 0)), (1, .int x1), (2, .int x2)] := hl
  have hS : va_S (AS 8 Ad) s.heap s.heap [] := va_S.rf
  have hx := C.1
  have hb := C.2.1
  refine lv_aload_n hx hb dX6_lengthOf_0 rfl (lv_at hl 0 rfl) ?_
  refine gM_model_sort C hP (C.2.2.2.2.2.2.1 _ wq_932) dX6_lengthOf_1 ?_
  refine lv_iload_n hx hb dX6_lengthOf_4 rfl (lv_at hl 2 rfl) ?_
  obtain ⟨hc, h⟩ := h
  refine lM_3 C hP hc dX6_lengthOf_5 ?_
  refine lv_iconst (v := 1) hx hb dX6_lengthOf_6 (by decide) ?_
  refine lv_icmp_ne (tgt := 14) hx hb dX6_lengthOf_7 (by decide) (fun hc => ?_) (fun hc => ?_)
  · have h := h.1 hc
    refine lv_aload_n hx hb dX6_lengthOf_14 rfl (lv_at hl 0 rfl) ?_
    refine lv_iload_n hx hb dX6_lengthOf_15 rfl (lv_at hl 1 rfl) ?_
    refine lv_aload_n hx hb dX6_lengthOf_16 rfl (lv_at hl 0 rfl) ?_
    refine gM_model_place C hP (C.2.2.2.2.2.2.1 _ wq_931) dX6_lengthOf_17 ?_
    refine lv_iload_n hx hb dX6_lengthOf_20 rfl (lv_at hl 2 rfl) ?_
    obtain ⟨hc, h⟩ := h
    refine lM_2 C hP hc dX6_lengthOf_21 ?_
    refine lv_iconst (v := 1) hx hb dX6_lengthOf_22 (by decide) ?_
    refine lv_iadd hx hb dX6_lengthOf_23 ?_
    refine kWi (rnV C (ct_X6_byteAt l D cy Ad hap h) yv_X6_byteAt wq_997 ⟨rfl, rfl⟩ ⟨Nat.le_of_ble_eq_true rfl, Nat.le_of_ble_eq_true rfl⟩ ⟨Nat.zero_le _, Nat.zero_le _⟩ (vM_model C hP) hP hl.1 rfl rfl (Nat.le_of_ble_eq_true rfl) dX6_lengthOf_24) hS (fun _ h => h) (fun r24 σ24 μ24 H locs h hP hk hS => ?_)
    refine lv_bipush (v := 16) hx hb dX6_lengthOf_27 (by decide) ?_
    refine lv_irem hx hb dX6_lengthOf_29 (by decide) ?_
    exact wk_X6_lengthOf_30 C hap h hP hS (lv_sub hl [] rfl)
  · have h := h.2 hc
    refine lv_iconst (v := 3) hx hb dX6_lengthOf_10 (by decide) ?_
    refine lv_goto (tgt := 30) hx hb dX6_lengthOf_11 (by decide) ?_
    exact wk_X6_lengthOf_30 C hap h hP hS (lv_sub hl [] rfl)
abbrev rmX6_hasValue : Room := { frames := 2, cells := 0, slots := 0, locals := 44 }
def wb_X6_hasValue_28 (Q : Int32 → Rg → Ar → Prop) (σ : Rg) (μ : Ar) (t0 : Int32) : Prop := (bz t0) ∧ (Q t0 σ μ)
set_option maxHeartbeats 4000000 in
set_option maxRecDepth 100000 in
theorem wk_X6_hasValue_28 {p : Program} {l : Launch} {e : Env} {s : State} {m : MethodId} {args : Array Value} {below : List Frame} {meth : Method} {c : Code} {D : va_G} {cy : ClassId} {Ad : Nat → Nat} (C : Cx p s m args meth c RX6 cX6_hasValue 3 (some FieldType.boolean) D [(cy, .int)]) (hap : apt 8 Ad) {Q : Int32 → Rg → Ar → Prop} {σ : Rg} {μ : Ar} {t0 : Int32} {H : Heap} {locs : List Loc} {ls : Array Slot} (h : wb_X6_hasValue_28 Q σ μ t0) (hP : va_P D vwCl (wM Ad cy σ μ) H) (hS : va_S (AS 8 Ad) s.heap H locs) (hl : lv_has ls 3 []) : W p l e rmX6_hasValue s m args below meth c H locs 0 0 (MQ below (Qcg (PWi (wM Ad cy) D Q) (AS 8 Ad)) args s 0 0 (AS 8 Ad)) (F0 m 28 ls [.int t0]) := by
  have hx := C.1
  have hb := C.2.1
  obtain ⟨hc, h⟩ := h
  exact endZ C hS hc ⟨_, _, _, rfl, h, hP⟩ dX6_hasValue_28
def wb_X6_hasValue_27 (Q : Int32 → Rg → Ar → Prop) (σ : Rg) (μ : Ar) : Prop := wb_X6_hasValue_28 Q σ μ (0 : Int32)
set_option maxHeartbeats 4000000 in
set_option maxRecDepth 100000 in
theorem wk_X6_hasValue_27 {p : Program} {l : Launch} {e : Env} {s : State} {m : MethodId} {args : Array Value} {below : List Frame} {meth : Method} {c : Code} {D : va_G} {cy : ClassId} {Ad : Nat → Nat} (C : Cx p s m args meth c RX6 cX6_hasValue 3 (some FieldType.boolean) D [(cy, .int)]) (hap : apt 8 Ad) {Q : Int32 → Rg → Ar → Prop} {σ : Rg} {μ : Ar}  {H : Heap} {locs : List Loc} {ls : Array Slot} (h : wb_X6_hasValue_27 Q σ μ) (hP : va_P D vwCl (wM Ad cy σ μ) H) (hS : va_S (AS 8 Ad) s.heap H locs) (hl : lv_has ls 3 []) : W p l e rmX6_hasValue s m args below meth c H locs 0 0 (MQ below (Qcg (PWi (wM Ad cy) D Q) (AS 8 Ad)) args s 0 0 (AS 8 Ad)) (F0 m 27 ls []) := by
  have hx := C.1
  have hb := C.2.1
  refine lv_iconst (v := 0) hx hb dX6_hasValue_27 (by decide) ?_
  exact wk_X6_hasValue_28 C hap h hP hS (lv_sub hl [] rfl)
def wp_X6_hasValue (σ : Rg) (μ : Ar) (x1 : Int32) (x2 : Int32) (Q : Int32 → Rg → Ar → Prop) : Prop := (vp_in x2 48) ∧ ((((μ 6 (x2).toNatClampNeg) < 0 → wb_X6_hasValue_27 Q σ μ) ∧ (¬ (μ 6 (x2).toNatClampNeg) < 0 → (vp_in x2 48) ∧ (wp_X6_lengthOf σ μ x1 (μ 6 (x2).toNatClampNeg) (fun r17 σ17 μ17 => ((r17 ≤ 0 → wb_X6_hasValue_27 Q σ17 μ17) ∧ (¬ r17 ≤ 0 → wb_X6_hasValue_28 Q σ17 μ17 (1 : Int32))))))))
set_option maxHeartbeats 4000000 in
set_option maxRecDepth 100000 in
theorem ct_X6_hasValue (l : Launch) (D : va_G) (cy : ClassId) (Ad : Nat → Nat) (hap : apt 8 Ad) {σ : Rg} {μ : Ar} {x1 : Int32} {x2 : Int32} {Q : Int32 → Rg → Ar → Prop} (h : wp_X6_hasValue σ μ x1 x2 Q) : Ct l yX6_hasValue cX6_hasValue 3 (some FieldType.boolean) rmX6_hasValue D [(cy, .int)] (fun H => va_P D vwCl (wM Ad cy σ μ) H) [.ref (Ad 0), .int x1, .int x2] (AS 8 Ad) (PWi (wM Ad cy) D Q) := by
  refine Ct.of (by decide) (Nat.le_of_ble_eq_true rfl) ?_
  intro p e s m below meth c ls C hP hl
  have hl : lv_has ls 3 [(0, .ref (Ad 0)), (1, .int x1), (2, .int x2)] := hl
  have hS : va_S (AS 8 Ad) s.heap s.heap [] := va_S.rf
  have hx := C.1
  have hb := C.2.1
  refine lv_aload_n hx hb dX6_hasValue_0 rfl (lv_at hl 0 rfl) ?_
  refine gM_model_newest C hP (C.2.2.2.2.2.2.1 _ wq_935) dX6_hasValue_1 ?_
  refine lv_iload_n hx hb dX6_hasValue_4 rfl (lv_at hl 2 rfl) ?_
  obtain ⟨hc, h⟩ := h
  refine lM_6 C hP hc dX6_hasValue_5 ?_
  refine lv_if_lt (tgt := 27) hx hb dX6_hasValue_6 (by decide) (fun hc => ?_) (fun hc => ?_)
  · have h := h.1 hc
    exact wk_X6_hasValue_27 C hap h hP hS (lv_sub hl [] rfl)
  · have h := h.2 hc
    refine lv_aload_n hx hb dX6_hasValue_9 rfl (lv_at hl 0 rfl) ?_
    refine lv_iload_n hx hb dX6_hasValue_10 rfl (lv_at hl 1 rfl) ?_
    refine lv_aload_n hx hb dX6_hasValue_11 rfl (lv_at hl 0 rfl) ?_
    refine gM_model_newest C hP (C.2.2.2.2.2.2.1 _ wq_935) dX6_hasValue_12 ?_
    refine lv_iload_n hx hb dX6_hasValue_15 rfl (lv_at hl 2 rfl) ?_
    obtain ⟨hc, h⟩ := h
    refine lM_6 C hP hc dX6_hasValue_16 ?_
    refine kWi (rnV C (ct_X6_lengthOf l D cy Ad hap h) yv_X6_lengthOf wq_1068 ⟨rfl, rfl⟩ ⟨Nat.le_of_ble_eq_true rfl, Nat.le_of_ble_eq_true rfl⟩ ⟨Nat.zero_le _, Nat.zero_le _⟩ (vM_model C hP) hP hl.1 rfl rfl (Nat.le_of_ble_eq_true rfl) dX6_hasValue_17) hS (fun _ h => h) (fun r17 σ17 μ17 H locs h hP hk hS => ?_)
    refine lv_if_le (tgt := 27) hx hb dX6_hasValue_20 (by decide) (fun hc => ?_) (fun hc => ?_)
    · have h := h.1 hc
      exact wk_X6_hasValue_27 C hap h hP hS (lv_sub hl [] rfl)
    · have h := h.2 hc
      refine lv_iconst (v := 1) hx hb dX6_hasValue_23 (by decide) ?_
      refine lv_goto (tgt := 28) hx hb dX6_hasValue_24 (by decide) ?_
      exact wk_X6_hasValue_28 C hap h hP hS (lv_sub hl [] rfl)
abbrev rmX6_valued : Room := { frames := 3, cells := 0, slots := 0, locals := 66 }
def wb_X6_valued_22 (Q : Int32 → Rg → Ar → Prop) (k4 : Rg → Ar → Int32 → Int32 → Int32 → Prop) (σ : Rg) (μ : Ar) (v1 : Int32) (v2 : Int32) (v3 : Int32) : Prop := ∀ y22 : Int32, y22 = v3 + (1 : Int32) → (k4 σ μ v1 v2 y22)
set_option maxHeartbeats 4000000 in
set_option maxRecDepth 100000 in
theorem wk_X6_valued_22 {p : Program} {l : Launch} {e : Env} {s : State} {m : MethodId} {args : Array Value} {below : List Frame} {meth : Method} {c : Code} {D : va_G} {cy : ClassId} {Ad : Nat → Nat} (C : Cx p s m args meth c RX6 cX6_valued 4 (some FieldType.int) D [(cy, .int)]) (hap : apt 8 Ad) {Q : Int32 → Rg → Ar → Prop} {k4 : Rg → Ar → Int32 → Int32 → Int32 → Prop} (hk4 : ∀ {σ : Rg} {μ : Ar} {v1 : Int32} {v2 : Int32} {v3 : Int32} {H : Heap} {locs : List Loc} {ls : Array Slot}, k4 σ μ v1 v2 v3 → va_P D vwCl (wM Ad cy σ μ) H → va_S (AS 8 Ad) s.heap H locs → lv_has ls 4 [(0, .ref (Ad 0)), (1, .int v1), (2, .int v2), (3, .int v3)] → W p l e rmX6_valued s m args below meth c H locs 0 0 (MQ below (Qcg (PWi (wM Ad cy) D Q) (AS 8 Ad)) args s 0 0 (AS 8 Ad)) (F0 m 4 ls [])) {σ : Rg} {μ : Ar} {v1 : Int32} {v2 : Int32} {v3 : Int32} {H : Heap} {locs : List Loc} {ls : Array Slot} (h : wb_X6_valued_22 Q k4 σ μ v1 v2 v3) (hP : va_P D vwCl (wM Ad cy σ μ) H) (hS : va_S (AS 8 Ad) s.heap H locs) (hl : lv_has ls 4 [(0, .ref (Ad 0)), (1, .int v1), (2, .int v2), (3, .int v3)]) : W p l e rmX6_valued s m args below meth c H locs 0 0 (MQ below (Qcg (PWi (wM Ad cy) D Q) (AS 8 Ad)) args s 0 0 (AS 8 Ad)) (F0 m 22 ls []) := by
  have hx := C.1
  have hb := C.2.1
  obtain ⟨y22, e22⟩ : ∃ y : Int32, y = v3 + (1 : Int32) := ⟨_, rfl⟩
  have h := h y22 e22
  refine lv_iinc (v := y22) (lv' := [(3, .int y22), (0, .ref (Ad 0)), (1, .int v1), (2, .int v2)]) hx hb dX6_valued_22 hl (k := 3) rfl (by rw [e22]; rfl) (by decide) rfl (fun ls hl => ?_)
  refine lv_goto (tgt := 4) hx hb dX6_valued_25 (by decide) ?_
  exact hk4 h hP hS (lv_sub hl [1, 2, 3, 0] rfl)
def wb_X6_valued_4 (Q : Int32 → Rg → Ar → Prop) (k4 : Rg → Ar → Int32 → Int32 → Int32 → Prop) (σ : Rg) (μ : Ar) (v1 : Int32) (v2 : Int32) (v3 : Int32) : Prop := (((48 : Int32) ≤ v3 → Q v2 σ μ) ∧ (¬ (48 : Int32) ≤ v3 → wp_X6_hasValue σ μ v1 v3 (fun r13 σ13 μ13 => ((r13 = 0 → wb_X6_valued_22 Q k4 σ13 μ13 v1 v2 v3) ∧ (¬ r13 = 0 → ∀ y19 : Int32, y19 = v2 + (1 : Int32) → (wb_X6_valued_22 Q k4 σ13 μ13 v1 y19 v3))))))
set_option maxHeartbeats 4000000 in
set_option maxRecDepth 100000 in
theorem wk_X6_valued_4 {p : Program} {l : Launch} {e : Env} {s : State} {m : MethodId} {args : Array Value} {below : List Frame} {meth : Method} {c : Code} {D : va_G} {cy : ClassId} {Ad : Nat → Nat} (C : Cx p s m args meth c RX6 cX6_valued 4 (some FieldType.int) D [(cy, .int)]) (hap : apt 8 Ad) {Q : Int32 → Rg → Ar → Prop} {k4 : Rg → Ar → Int32 → Int32 → Int32 → Prop} (hk4 : ∀ {σ : Rg} {μ : Ar} {v1 : Int32} {v2 : Int32} {v3 : Int32} {H : Heap} {locs : List Loc} {ls : Array Slot}, k4 σ μ v1 v2 v3 → va_P D vwCl (wM Ad cy σ μ) H → va_S (AS 8 Ad) s.heap H locs → lv_has ls 4 [(0, .ref (Ad 0)), (1, .int v1), (2, .int v2), (3, .int v3)] → W p l e rmX6_valued s m args below meth c H locs 0 0 (MQ below (Qcg (PWi (wM Ad cy) D Q) (AS 8 Ad)) args s 0 0 (AS 8 Ad)) (F0 m 4 ls [])) {σ : Rg} {μ : Ar} {v1 : Int32} {v2 : Int32} {v3 : Int32} {H : Heap} {locs : List Loc} {ls : Array Slot} (h : wb_X6_valued_4 Q k4 σ μ v1 v2 v3) (hP : va_P D vwCl (wM Ad cy σ μ) H) (hS : va_S (AS 8 Ad) s.heap H locs) (hl : lv_has ls 4 [(0, .ref (Ad 0)), (1, .int v1), (2, .int v2), (3, .int v3)]) : W p l e rmX6_valued s m args below meth c H locs 0 0 (MQ below (Qcg (PWi (wM Ad cy) D Q) (AS 8 Ad)) args s 0 0 (AS 8 Ad)) (F0 m 4 ls []) := by
  have hx := C.1
  have hb := C.2.1
  refine lv_iload_n hx hb dX6_valued_4 rfl (lv_at hl 3 rfl) ?_
  refine lv_bipush (v := 48) hx hb dX6_valued_5 (by decide) ?_
  refine lv_icmp_ge (tgt := 28) hx hb dX6_valued_7 (by decide) (fun hc => ?_) (fun hc => ?_)
  · have h := h.1 hc
    refine lv_iload_n hx hb dX6_valued_28 rfl (lv_at hl 2 rfl) ?_
    exact endI C hS ⟨_, _, _, rfl, h, hP⟩ dX6_valued_29
  · have h := h.2 hc
    refine lv_aload_n hx hb dX6_valued_10 rfl (lv_at hl 0 rfl) ?_
    refine lv_iload_n hx hb dX6_valued_11 rfl (lv_at hl 1 rfl) ?_
    refine lv_iload_n hx hb dX6_valued_12 rfl (lv_at hl 3 rfl) ?_
    refine kWi (rnV C (ct_X6_hasValue l D cy Ad hap h) yv_X6_hasValue wq_1064 ⟨rfl, rfl⟩ ⟨Nat.le_of_ble_eq_true rfl, Nat.le_of_ble_eq_true rfl⟩ ⟨Nat.zero_le _, Nat.zero_le _⟩ (vM_model C hP) hP hl.1 rfl rfl (Nat.le_of_ble_eq_true rfl) dX6_valued_13) hS (fun _ h => h) (fun r13 σ13 μ13 H locs h hP hk hS => ?_)
    refine lv_if_eq (tgt := 22) hx hb dX6_valued_16 (by decide) (fun hc => ?_) (fun hc => ?_)
    · have h := h.1 hc
      exact wk_X6_valued_22 C hap hk4 h hP hS (lv_sub hl [0, 1, 2, 3] rfl)
    · have h := h.2 hc
      obtain ⟨y19, e19⟩ : ∃ y : Int32, y = v2 + (1 : Int32) := ⟨_, rfl⟩
      have h := h y19 e19
      refine lv_iinc (v := y19) (lv' := [(2, .int y19), (0, .ref (Ad 0)), (1, .int v1), (3, .int v3)]) hx hb dX6_valued_19 hl (k := 2) rfl (by rw [e19]; rfl) (by decide) rfl (fun ls hl => ?_)
      exact wk_X6_valued_22 C hap hk4 h hP hS (lv_sub hl [1, 2, 0, 3] rfl)
def wl_X6_valued_4 (Q : Int32 → Rg → Ar → Prop) (n : Nat) : Rg → Ar → Int32 → Int32 → Int32 → Prop := Nat.rec (motive := fun _ => Rg → Ar → Int32 → Int32 → Int32 → Prop) (fun _ _ _ _ _ => False) (fun _ k => wb_X6_valued_4 Q k) n
set_option maxHeartbeats 4000000 in
theorem wkl_X6_valued_4 {p : Program} {l : Launch} {e : Env} {s : State} {m : MethodId} {args : Array Value} {below : List Frame} {meth : Method} {c : Code} {D : va_G} {cy : ClassId} {Ad : Nat → Nat} (C : Cx p s m args meth c RX6 cX6_valued 4 (some FieldType.int) D [(cy, .int)]) (hap : apt 8 Ad) {Q : Int32 → Rg → Ar → Prop}  : ∀ (n : Nat) {σ : Rg} {μ : Ar} {v1 : Int32} {v2 : Int32} {v3 : Int32} {H : Heap} {locs : List Loc} {ls : Array Slot} (h : wl_X6_valued_4 Q  n σ μ v1 v2 v3) (hP : va_P D vwCl (wM Ad cy σ μ) H) (hS : va_S (AS 8 Ad) s.heap H locs) (hl : lv_has ls 4 [(0, .ref (Ad 0)), (1, .int v1), (2, .int v2), (3, .int v3)]), W p l e rmX6_valued s m args below meth c H locs 0 0 (MQ below (Qcg (PWi (wM Ad cy) D Q) (AS 8 Ad)) args s 0 0 (AS 8 Ad)) (F0 m 4 ls []) := by
  intro n
  induction n with
  | zero => intro σ μ v1 v2 v3 H locs ls h; exact h.elim
  | succ n ih =>
    intro σ μ v1 v2 v3 H locs ls h hP hS hl
    exact wk_X6_valued_4 C hap (fun h hP hS hl => ih h hP hS hl) h hP hS hl
def wp_X6_valued (σ : Rg) (μ : Ar) (x1 : Int32) (Q : Int32 → Rg → Ar → Prop) : Prop := ∃ n, wl_X6_valued_4 Q n σ μ x1 (0 : Int32) (0 : Int32)
set_option maxHeartbeats 4000000 in
set_option maxRecDepth 100000 in
theorem ct_X6_valued (l : Launch) (D : va_G) (cy : ClassId) (Ad : Nat → Nat) (hap : apt 8 Ad) {σ : Rg} {μ : Ar} {x1 : Int32} {Q : Int32 → Rg → Ar → Prop} (h : wp_X6_valued σ μ x1 Q) : Ct l yX6_valued cX6_valued 4 (some FieldType.int) rmX6_valued D [(cy, .int)] (fun H => va_P D vwCl (wM Ad cy σ μ) H) [.ref (Ad 0), .int x1] (AS 8 Ad) (PWi (wM Ad cy) D Q) := by
  refine Ct.of (by decide) (Nat.le_of_ble_eq_true rfl) ?_
  intro p e s m below meth c ls C hP hl
  have hl : lv_has ls 4 [(0, .ref (Ad 0)), (1, .int x1)] := hl
  have hS : va_S (AS 8 Ad) s.heap s.heap [] := va_S.rf
  have hx := C.1
  have hb := C.2.1
  refine lv_iconst (v := 0) hx hb dX6_valued_0 (by decide) ?_
  refine lv_istore_n (lv' := [(2, .int (0 : Int32)), (0, .ref (Ad 0)), (1, .int x1)]) hx hb dX6_valued_1 rfl hl (by decide) rfl (fun ls hl => ?_)
  refine lv_iconst (v := 0) hx hb dX6_valued_2 (by decide) ?_
  refine lv_istore_n (lv' := [(3, .int (0 : Int32)), (2, .int (0 : Int32)), (0, .ref (Ad 0)), (1, .int x1)]) hx hb dX6_valued_3 rfl hl (by decide) rfl (fun ls hl => ?_)
  obtain ⟨n, h⟩ := h
  exact wkl_X6_valued_4 C hap n h hP hS (lv_sub hl [2, 3, 1, 0] rfl)
abbrev rmX6_leastErased : Room := { frames := 0, cells := 0, slots := 0, locals := 0 }
def wb_X6_leastErased_46 (Q : Int32 → Rg → Ar → Prop) (k4 : Rg → Ar → Int32 → Int32 → Int32 → Prop) (σ : Rg) (μ : Ar) (v1 : Int32) (v2 : Int32) (v3 : Int32) : Prop := ∀ y46 : Int32, y46 = v3 + (1 : Int32) → (k4 σ μ v1 v2 y46)
set_option maxHeartbeats 4000000 in
set_option maxRecDepth 100000 in
theorem wk_X6_leastErased_46 {p : Program} {l : Launch} {e : Env} {s : State} {m : MethodId} {args : Array Value} {below : List Frame} {meth : Method} {c : Code} {D : va_G} {cy : ClassId} {Ad : Nat → Nat} (C : Cx p s m args meth c RX6 cX6_leastErased 4 (some FieldType.int) D [(cy, .int)]) (hap : apt 8 Ad) {Q : Int32 → Rg → Ar → Prop} {k4 : Rg → Ar → Int32 → Int32 → Int32 → Prop} (hk4 : ∀ {σ : Rg} {μ : Ar} {v1 : Int32} {v2 : Int32} {v3 : Int32} {H : Heap} {locs : List Loc} {ls : Array Slot}, k4 σ μ v1 v2 v3 → va_P D vwCl (wM Ad cy σ μ) H → va_S (AS 8 Ad) s.heap H locs → lv_has ls 4 [(0, .ref (Ad 0)), (1, .int v1), (2, .int v2), (3, .int v3)] → W p l e rmX6_leastErased s m args below meth c H locs 0 0 (MQ below (Qcg (PWi (wM Ad cy) D Q) (AS 8 Ad)) args s 0 0 (AS 8 Ad)) (F0 m 4 ls [])) {σ : Rg} {μ : Ar} {v1 : Int32} {v2 : Int32} {v3 : Int32} {H : Heap} {locs : List Loc} {ls : Array Slot} (h : wb_X6_leastErased_46 Q k4 σ μ v1 v2 v3) (hP : va_P D vwCl (wM Ad cy σ μ) H) (hS : va_S (AS 8 Ad) s.heap H locs) (hl : lv_has ls 4 [(0, .ref (Ad 0)), (1, .int v1), (2, .int v2), (3, .int v3)]) : W p l e rmX6_leastErased s m args below meth c H locs 0 0 (MQ below (Qcg (PWi (wM Ad cy) D Q) (AS 8 Ad)) args s 0 0 (AS 8 Ad)) (F0 m 46 ls []) := by
  have hx := C.1
  have hb := C.2.1
  obtain ⟨y46, e46⟩ : ∃ y : Int32, y = v3 + (1 : Int32) := ⟨_, rfl⟩
  have h := h y46 e46
  refine lv_iinc (v := y46) (lv' := [(3, .int y46), (0, .ref (Ad 0)), (1, .int v1), (2, .int v2)]) hx hb dX6_leastErased_46 hl (k := 3) rfl (by rw [e46]; rfl) (by decide) rfl (fun ls hl => ?_)
  refine lv_goto (tgt := 4) hx hb dX6_leastErased_49 (by decide) ?_
  exact hk4 h hP hS (lv_sub hl [1, 2, 3, 0] rfl)
def wb_X6_leastErased_44 (Q : Int32 → Rg → Ar → Prop) (k4 : Rg → Ar → Int32 → Int32 → Int32 → Prop) (σ : Rg) (μ : Ar) (v1 : Int32) (v3 : Int32) : Prop := wb_X6_leastErased_46 Q k4 σ μ v1 v3 v3
set_option maxHeartbeats 4000000 in
set_option maxRecDepth 100000 in
theorem wk_X6_leastErased_44 {p : Program} {l : Launch} {e : Env} {s : State} {m : MethodId} {args : Array Value} {below : List Frame} {meth : Method} {c : Code} {D : va_G} {cy : ClassId} {Ad : Nat → Nat} (C : Cx p s m args meth c RX6 cX6_leastErased 4 (some FieldType.int) D [(cy, .int)]) (hap : apt 8 Ad) {Q : Int32 → Rg → Ar → Prop} {k4 : Rg → Ar → Int32 → Int32 → Int32 → Prop} (hk4 : ∀ {σ : Rg} {μ : Ar} {v1 : Int32} {v2 : Int32} {v3 : Int32} {H : Heap} {locs : List Loc} {ls : Array Slot}, k4 σ μ v1 v2 v3 → va_P D vwCl (wM Ad cy σ μ) H → va_S (AS 8 Ad) s.heap H locs → lv_has ls 4 [(0, .ref (Ad 0)), (1, .int v1), (2, .int v2), (3, .int v3)] → W p l e rmX6_leastErased s m args below meth c H locs 0 0 (MQ below (Qcg (PWi (wM Ad cy) D Q) (AS 8 Ad)) args s 0 0 (AS 8 Ad)) (F0 m 4 ls [])) {σ : Rg} {μ : Ar} {v1 : Int32} {v3 : Int32} {H : Heap} {locs : List Loc} {ls : Array Slot} (h : wb_X6_leastErased_44 Q k4 σ μ v1 v3) (hP : va_P D vwCl (wM Ad cy σ μ) H) (hS : va_S (AS 8 Ad) s.heap H locs) (hl : lv_has ls 4 [(0, .ref (Ad 0)), (1, .int v1), (3, .int v3)]) : W p l e rmX6_leastErased s m args below meth c H locs 0 0 (MQ below (Qcg (PWi (wM Ad cy) D Q) (AS 8 Ad)) args s 0 0 (AS 8 Ad)) (F0 m 44 ls []) := by
  have hx := C.1
  have hb := C.2.1
  refine lv_iload_n hx hb dX6_leastErased_44 rfl (lv_at hl 2 rfl) ?_
  refine lv_istore_n (lv' := [(2, .int v3), (0, .ref (Ad 0)), (1, .int v1), (3, .int v3)]) hx hb dX6_leastErased_45 rfl hl (by decide) rfl (fun ls hl => ?_)
  exact wk_X6_leastErased_46 C hap hk4 h hP hS (lv_sub hl [1, 2, 0, 3] rfl)
def wb_X6_leastErased_4 (Q : Int32 → Rg → Ar → Prop) (k4 : Rg → Ar → Int32 → Int32 → Int32 → Prop) (σ : Rg) (μ : Ar) (v1 : Int32) (v2 : Int32) (v3 : Int32) : Prop := (((μ 0 0) ≤ v3 → Q v2 σ μ) ∧ (¬ (μ 0 0) ≤ v3 → ((v3 = v1 → wb_X6_leastErased_46 Q k4 σ μ v1 v2 v3) ∧ (¬ v3 = v1 → ((v2 < 0 → wb_X6_leastErased_44 Q k4 σ μ v1 v3) ∧ (¬ v2 < 0 → (vp_in ((36 : Int32) + v3) 810) ∧ ((vp_in ((36 : Int32) + v2) 810) ∧ ((((μ 0 (((36 : Int32) + v2)).toNatClampNeg) ≤ (μ 0 (((36 : Int32) + v3)).toNatClampNeg) → wb_X6_leastErased_46 Q k4 σ μ v1 v2 v3) ∧ (¬ (μ 0 (((36 : Int32) + v2)).toNatClampNeg) ≤ (μ 0 (((36 : Int32) + v3)).toNatClampNeg) → wb_X6_leastErased_44 Q k4 σ μ v1 v3))))))))))
set_option maxHeartbeats 4000000 in
set_option maxRecDepth 100000 in
theorem wk_X6_leastErased_4 {p : Program} {l : Launch} {e : Env} {s : State} {m : MethodId} {args : Array Value} {below : List Frame} {meth : Method} {c : Code} {D : va_G} {cy : ClassId} {Ad : Nat → Nat} (C : Cx p s m args meth c RX6 cX6_leastErased 4 (some FieldType.int) D [(cy, .int)]) (hap : apt 8 Ad) {Q : Int32 → Rg → Ar → Prop} {k4 : Rg → Ar → Int32 → Int32 → Int32 → Prop} (hk4 : ∀ {σ : Rg} {μ : Ar} {v1 : Int32} {v2 : Int32} {v3 : Int32} {H : Heap} {locs : List Loc} {ls : Array Slot}, k4 σ μ v1 v2 v3 → va_P D vwCl (wM Ad cy σ μ) H → va_S (AS 8 Ad) s.heap H locs → lv_has ls 4 [(0, .ref (Ad 0)), (1, .int v1), (2, .int v2), (3, .int v3)] → W p l e rmX6_leastErased s m args below meth c H locs 0 0 (MQ below (Qcg (PWi (wM Ad cy) D Q) (AS 8 Ad)) args s 0 0 (AS 8 Ad)) (F0 m 4 ls [])) {σ : Rg} {μ : Ar} {v1 : Int32} {v2 : Int32} {v3 : Int32} {H : Heap} {locs : List Loc} {ls : Array Slot} (h : wb_X6_leastErased_4 Q k4 σ μ v1 v2 v3) (hP : va_P D vwCl (wM Ad cy σ μ) H) (hS : va_S (AS 8 Ad) s.heap H locs) (hl : lv_has ls 4 [(0, .ref (Ad 0)), (1, .int v1), (2, .int v2), (3, .int v3)]) : W p l e rmX6_leastErased s m args below meth c H locs 0 0 (MQ below (Qcg (PWi (wM Ad cy) D Q) (AS 8 Ad)) args s 0 0 (AS 8 Ad)) (F0 m 4 ls []) := by
  have hx := C.1
  have hb := C.2.1
  refine lv_iload_n hx hb dX6_leastErased_4 rfl (lv_at hl 3 rfl) ?_
  refine lv_aload_n hx hb dX6_leastErased_5 rfl (lv_at hl 0 rfl) ?_
  refine gM_model_x C hP (C.2.2.2.2.2.2.1 _ wq_924) dX6_leastErased_6 ?_
  refine lv_iconst (v := 0) hx hb dX6_leastErased_9 (by decide) ?_
  refine lcM_0 C hP tc_0 vi_0_810 dX6_leastErased_10 ?_
  refine lv_icmp_ge (tgt := 52) hx hb dX6_leastErased_11 (by decide) (fun hc => ?_) (fun hc => ?_)
  · have h := h.1 hc
    refine lv_iload_n hx hb dX6_leastErased_52 rfl (lv_at hl 2 rfl) ?_
    exact endI C hS ⟨_, _, _, rfl, h, hP⟩ dX6_leastErased_53
  · have h := h.2 hc
    refine lv_iload_n hx hb dX6_leastErased_14 rfl (lv_at hl 3 rfl) ?_
    refine lv_iload_n hx hb dX6_leastErased_15 rfl (lv_at hl 1 rfl) ?_
    refine lv_icmp_eq (tgt := 46) hx hb dX6_leastErased_16 (by decide) (fun hc => ?_) (fun hc => ?_)
    · have h := h.1 hc
      exact wk_X6_leastErased_46 C hap hk4 h hP hS (lv_sub hl [0, 1, 2, 3] rfl)
    · have h := h.2 hc
      refine lv_iload_n hx hb dX6_leastErased_19 rfl (lv_at hl 2 rfl) ?_
      refine lv_if_lt (tgt := 44) hx hb dX6_leastErased_20 (by decide) (fun hc => ?_) (fun hc => ?_)
      · have h := h.1 hc
        exact wk_X6_leastErased_44 C hap hk4 h hP hS (lv_sub hl [0, 1, 3] rfl)
      · have h := h.2 hc
        refine lv_aload_n hx hb dX6_leastErased_23 rfl (lv_at hl 0 rfl) ?_
        refine gM_model_x C hP (C.2.2.2.2.2.2.1 _ wq_924) dX6_leastErased_24 ?_
        refine lv_bipush (v := 36) hx hb dX6_leastErased_27 (by decide) ?_
        refine lv_iload_n hx hb dX6_leastErased_29 rfl (lv_at hl 3 rfl) ?_
        refine lv_iadd hx hb dX6_leastErased_30 ?_
        obtain ⟨hc, h⟩ := h
        refine lM_0 C hP hc dX6_leastErased_31 ?_
        refine lv_aload_n hx hb dX6_leastErased_32 rfl (lv_at hl 0 rfl) ?_
        refine gM_model_x C hP (C.2.2.2.2.2.2.1 _ wq_924) dX6_leastErased_33 ?_
        refine lv_bipush (v := 36) hx hb dX6_leastErased_36 (by decide) ?_
        refine lv_iload_n hx hb dX6_leastErased_38 rfl (lv_at hl 2 rfl) ?_
        refine lv_iadd hx hb dX6_leastErased_39 ?_
        obtain ⟨hc, h⟩ := h
        refine lM_0 C hP hc dX6_leastErased_40 ?_
        refine lv_icmp_ge (tgt := 46) hx hb dX6_leastErased_41 (by decide) (fun hc => ?_) (fun hc => ?_)
        · have h := h.1 hc
          exact wk_X6_leastErased_46 C hap hk4 h hP hS (lv_sub hl [0, 1, 2, 3] rfl)
        · have h := h.2 hc
          exact wk_X6_leastErased_44 C hap hk4 h hP hS (lv_sub hl [0, 1, 3] rfl)
def wl_X6_leastErased_4 (Q : Int32 → Rg → Ar → Prop) (n : Nat) : Rg → Ar → Int32 → Int32 → Int32 → Prop := Nat.rec (motive := fun _ => Rg → Ar → Int32 → Int32 → Int32 → Prop) (fun _ _ _ _ _ => False) (fun _ k => wb_X6_leastErased_4 Q k) n
set_option maxHeartbeats 4000000 in
theorem wkl_X6_leastErased_4 {p : Program} {l : Launch} {e : Env} {s : State} {m : MethodId} {args : Array Value} {below : List Frame} {meth : Method} {c : Code} {D : va_G} {cy : ClassId} {Ad : Nat → Nat} (C : Cx p s m args meth c RX6 cX6_leastErased 4 (some FieldType.int) D [(cy, .int)]) (hap : apt 8 Ad) {Q : Int32 → Rg → Ar → Prop}  : ∀ (n : Nat) {σ : Rg} {μ : Ar} {v1 : Int32} {v2 : Int32} {v3 : Int32} {H : Heap} {locs : List Loc} {ls : Array Slot} (h : wl_X6_leastErased_4 Q  n σ μ v1 v2 v3) (hP : va_P D vwCl (wM Ad cy σ μ) H) (hS : va_S (AS 8 Ad) s.heap H locs) (hl : lv_has ls 4 [(0, .ref (Ad 0)), (1, .int v1), (2, .int v2), (3, .int v3)]), W p l e rmX6_leastErased s m args below meth c H locs 0 0 (MQ below (Qcg (PWi (wM Ad cy) D Q) (AS 8 Ad)) args s 0 0 (AS 8 Ad)) (F0 m 4 ls []) := by
  intro n
  induction n with
  | zero => intro σ μ v1 v2 v3 H locs ls h; exact h.elim
  | succ n ih =>
    intro σ μ v1 v2 v3 H locs ls h hP hS hl
    exact wk_X6_leastErased_4 C hap (fun h hP hS hl => ih h hP hS hl) h hP hS hl
def wp_X6_leastErased (σ : Rg) (μ : Ar) (x1 : Int32) (Q : Int32 → Rg → Ar → Prop) : Prop := ∃ n, wl_X6_leastErased_4 Q n σ μ x1 (-1 : Int32) (0 : Int32)
set_option maxHeartbeats 4000000 in
set_option maxRecDepth 100000 in
theorem ct_X6_leastErased (l : Launch) (D : va_G) (cy : ClassId) (Ad : Nat → Nat) (hap : apt 8 Ad) {σ : Rg} {μ : Ar} {x1 : Int32} {Q : Int32 → Rg → Ar → Prop} (h : wp_X6_leastErased σ μ x1 Q) : Ct l yX6_leastErased cX6_leastErased 4 (some FieldType.int) rmX6_leastErased D [(cy, .int)] (fun H => va_P D vwCl (wM Ad cy σ μ) H) [.ref (Ad 0), .int x1] (AS 8 Ad) (PWi (wM Ad cy) D Q) := by
  refine Ct.of (by decide) (Nat.le_of_ble_eq_true rfl) ?_
  intro p e s m below meth c ls C hP hl
  have hl : lv_has ls 4 [(0, .ref (Ad 0)), (1, .int x1)] := hl
  have hS : va_S (AS 8 Ad) s.heap s.heap [] := va_S.rf
  have hx := C.1
  have hb := C.2.1
  refine lv_iconst (v := -1) hx hb dX6_leastErased_0 (by decide) ?_
  refine lv_istore_n (lv' := [(2, .int (-1 : Int32)), (0, .ref (Ad 0)), (1, .int x1)]) hx hb dX6_leastErased_1 rfl hl (by decide) rfl (fun ls hl => ?_)
  refine lv_iconst (v := 0) hx hb dX6_leastErased_2 (by decide) ?_
  refine lv_istore_n (lv' := [(3, .int (0 : Int32)), (2, .int (-1 : Int32)), (0, .ref (Ad 0)), (1, .int x1)]) hx hb dX6_leastErased_3 rfl hl (by decide) rfl (fun ls hl => ?_)
  obtain ⟨n, h⟩ := h
  exact wkl_X6_leastErased_4 C hap n h hP hS (lv_sub hl [2, 3, 1, 0] rfl)
abbrev rmX6_numberOf : Room := { frames := 1, cells := 0, slots := 0, locals := 22 }
def wp_X6_numberOf (σ : Rg) (μ : Ar) (x1 : Int32) (Q : Int32 → Rg → Ar → Prop) : Prop := wp_X6_byteAt σ μ x1 (1 : Int32) (fun r6 σ6 μ6 => wp_X6_byteAt σ6 μ6 x1 (2 : Int32) (fun r13 σ13 μ13 => Q (((256 : Int32) * r6) + r13) σ13 μ13))
set_option maxHeartbeats 4000000 in
set_option maxRecDepth 100000 in
theorem ct_X6_numberOf (l : Launch) (D : va_G) (cy : ClassId) (Ad : Nat → Nat) (hap : apt 8 Ad) {σ : Rg} {μ : Ar} {x1 : Int32} {Q : Int32 → Rg → Ar → Prop} (h : wp_X6_numberOf σ μ x1 Q) : Ct l yX6_numberOf cX6_numberOf 2 (some FieldType.int) rmX6_numberOf D [(cy, .int)] (fun H => va_P D vwCl (wM Ad cy σ μ) H) [.ref (Ad 0), .int x1] (AS 8 Ad) (PWi (wM Ad cy) D Q) := by
  refine Ct.of (by decide) (Nat.le_of_ble_eq_true rfl) ?_
  intro p e s m below meth c ls C hP hl
  have hl : lv_has ls 2 [(0, .ref (Ad 0)), (1, .int x1)] := hl
  have hS : va_S (AS 8 Ad) s.heap s.heap [] := va_S.rf
  have hx := C.1
  have hb := C.2.1
  refine lv_sipush (v := 256) hx hb dX6_numberOf_0 (by decide) ?_
  refine lv_aload_n hx hb dX6_numberOf_3 rfl (lv_at hl 0 rfl) ?_
  refine lv_iload_n hx hb dX6_numberOf_4 rfl (lv_at hl 1 rfl) ?_
  refine lv_iconst (v := 1) hx hb dX6_numberOf_5 (by decide) ?_
  refine kWi (rnV C (ct_X6_byteAt l D cy Ad hap h) yv_X6_byteAt wq_997 ⟨rfl, rfl⟩ ⟨Nat.le_of_ble_eq_true rfl, Nat.le_of_ble_eq_true rfl⟩ ⟨Nat.zero_le _, Nat.zero_le _⟩ (vM_model C hP) hP hl.1 rfl rfl (Nat.le_of_ble_eq_true rfl) dX6_numberOf_6) hS (fun _ h => h) (fun r6 σ6 μ6 H locs h hP hk hS => ?_)
  refine lv_imul hx hb dX6_numberOf_9 ?_
  refine lv_aload_n hx hb dX6_numberOf_10 rfl (lv_at hl 0 rfl) ?_
  refine lv_iload_n hx hb dX6_numberOf_11 rfl (lv_at hl 1 rfl) ?_
  refine lv_iconst (v := 2) hx hb dX6_numberOf_12 (by decide) ?_
  refine kWi (rnV C (ct_X6_byteAt l D cy Ad hap h) yv_X6_byteAt wq_997 ⟨rfl, rfl⟩ ⟨Nat.le_of_ble_eq_true rfl, Nat.le_of_ble_eq_true rfl⟩ ⟨Nat.zero_le _, Nat.zero_le _⟩ (vM_model C hP) hP hl.1 rfl rfl (Nat.le_of_ble_eq_true rfl) dX6_numberOf_13) hS (fun _ h => h) (fun r13 σ13 μ13 H locs h hP hk hS => ?_)
  refine lv_iadd hx hb dX6_numberOf_16 ?_
  exact endI C hS ⟨_, _, _, rfl, h, hP⟩ dX6_numberOf_17
abbrev rmX6_makesReady : Room := { frames := 2, cells := 0, slots := 0, locals := 44 }
def wp_X6_makesReady (σ : Rg) (μ : Ar) (x1 : Int32) (x2 : Int32) (Q : Rg → Ar → Prop) : Prop := ∀ y5 : Int32, y5 = (x2 / (256 : Int32)) → (∀ y11 : Int32, y11 = (x2 - x2 / (256 : Int32) * (256 : Int32)) → (wp_X6_writes σ μ x1 (1 : Int32) y5 (fun σ17 μ17 => wp_X6_writes σ17 μ17 x1 (2 : Int32) y11 (fun σ25 μ25 => wp_X6_check (y5 + y11) (fun r35 => wp_X6_writes σ25 μ25 x1 (3 : Int32) r35 (fun σ38 μ38 => wp_X6_writes σ38 μ38 x1 (0 : Int32) (127 : Int32) (fun σ46 μ46 => Q σ46 μ46)))))))
set_option maxHeartbeats 4000000 in
set_option maxRecDepth 100000 in
theorem ct_X6_makesReady (l : Launch) (D : va_G) (cy : ClassId) (Ad : Nat → Nat) (hap : apt 8 Ad) {σ : Rg} {μ : Ar} {x1 : Int32} {x2 : Int32} {Q : Rg → Ar → Prop} (h : wp_X6_makesReady σ μ x1 x2 Q) : Ct l yX6_makesReady cX6_makesReady 5 (none : Option FieldType) rmX6_makesReady D [(cy, .int)] (fun H => va_P D vwCl (wM Ad cy σ μ) H) [.ref (Ad 0), .int x1, .int x2] (AS 8 Ad) (PWv (wM Ad cy) D Q) := by
  refine Ct.of (by decide) (Nat.le_of_ble_eq_true rfl) ?_
  intro p e s m below meth c ls C hP hl
  have hl : lv_has ls 5 [(0, .ref (Ad 0)), (1, .int x1), (2, .int x2)] := hl
  have hS : va_S (AS 8 Ad) s.heap s.heap [] := va_S.rf
  have hx := C.1
  have hb := C.2.1
  refine lv_iload_n hx hb dX6_makesReady_0 rfl (lv_at hl 2 rfl) ?_
  refine lv_sipush (v := 256) hx hb dX6_makesReady_1 (by decide) ?_
  refine lv_idiv hx hb dX6_makesReady_4 (by decide) ?_
  refine lv_topi (fun y5 e5 => ?_)
  have h := h y5 e5
  refine lv_istore_n (lv' := [(3, .int y5), (0, .ref (Ad 0)), (1, .int x1), (2, .int x2)]) hx hb dX6_makesReady_5 rfl hl (by decide) rfl (fun ls hl => ?_)
  refine lv_iload_n hx hb dX6_makesReady_6 rfl (lv_at hl 3 rfl) ?_
  refine lv_sipush (v := 256) hx hb dX6_makesReady_7 (by decide) ?_
  refine lv_irem hx hb dX6_makesReady_10 (by decide) ?_
  refine lv_topi (fun y11 e11 => ?_)
  have h := h y11 e11
  refine lv_istore (lv' := [(4, .int y11), (3, .int y5), (0, .ref (Ad 0)), (1, .int x1), (2, .int x2)]) hx hb dX6_makesReady_11 hl (by decide) rfl (fun ls hl => ?_)
  refine lv_aload_n hx hb dX6_makesReady_13 rfl (lv_at hl 2 rfl) ?_
  refine lv_iload_n hx hb dX6_makesReady_14 rfl (lv_at hl 3 rfl) ?_
  refine lv_iconst (v := 1) hx hb dX6_makesReady_15 (by decide) ?_
  refine lv_iload_n hx hb dX6_makesReady_16 rfl (lv_at hl 1 rfl) ?_
  refine kWv (rnV C (ct_X6_writes l D cy Ad hap h) yv_X6_writes wq_1032 ⟨rfl, rfl⟩ ⟨Nat.le_of_ble_eq_true rfl, Nat.le_of_ble_eq_true rfl⟩ ⟨Nat.zero_le _, Nat.zero_le _⟩ (vM_model C hP) hP hl.1 rfl rfl (Nat.le_of_ble_eq_true rfl) dX6_makesReady_17) hS (fun _ h => h) (fun σ17 μ17 H locs h hP hk hS => ?_)
  refine lv_aload_n hx hb dX6_makesReady_20 rfl (lv_at hl 2 rfl) ?_
  refine lv_iload_n hx hb dX6_makesReady_21 rfl (lv_at hl 3 rfl) ?_
  refine lv_iconst (v := 2) hx hb dX6_makesReady_22 (by decide) ?_
  refine lv_iload hx hb dX6_makesReady_23 (lv_at hl 0 rfl) ?_
  refine kWv (rnV C (ct_X6_writes l D cy Ad hap h) yv_X6_writes wq_1032 ⟨rfl, rfl⟩ ⟨Nat.le_of_ble_eq_true rfl, Nat.le_of_ble_eq_true rfl⟩ ⟨Nat.zero_le _, Nat.zero_le _⟩ (vM_model C hP) hP hl.1 rfl rfl (Nat.le_of_ble_eq_true rfl) dX6_makesReady_25) hS (fun _ h => h) (fun σ25 μ25 H locs h hP hk hS => ?_)
  refine lv_aload_n hx hb dX6_makesReady_28 rfl (lv_at hl 2 rfl) ?_
  refine lv_iload_n hx hb dX6_makesReady_29 rfl (lv_at hl 3 rfl) ?_
  refine lv_iconst (v := 3) hx hb dX6_makesReady_30 (by decide) ?_
  refine lv_iload_n hx hb dX6_makesReady_31 rfl (lv_at hl 1 rfl) ?_
  refine lv_iload hx hb dX6_makesReady_32 (lv_at hl 0 rfl) ?_
  refine lv_iadd hx hb dX6_makesReady_34 ?_
  refine kNi (rnS (C.none) (ct_X6_check l D h) ys_X6_check wq_1001 ⟨rfl, rfl⟩ ⟨Nat.le_of_ble_eq_true rfl, Nat.le_of_ble_eq_true rfl⟩ ⟨Nat.zero_le _, Nat.zero_le _⟩ trivial hl.1 rfl rfl (Nat.le_of_ble_eq_true rfl) dX6_makesReady_35) hS (fun _ h => h.elim) (fun r35 H locs h hk hS => ?_)
  have hP := keepN hP hk
  refine kWv (rnV C (ct_X6_writes l D cy Ad hap h) yv_X6_writes wq_1032 ⟨rfl, rfl⟩ ⟨Nat.le_of_ble_eq_true rfl, Nat.le_of_ble_eq_true rfl⟩ ⟨Nat.zero_le _, Nat.zero_le _⟩ (vM_model C hP) hP hl.1 rfl rfl (Nat.le_of_ble_eq_true rfl) dX6_makesReady_38) hS (fun _ h => h) (fun σ38 μ38 H locs h hP hk hS => ?_)
  refine lv_aload_n hx hb dX6_makesReady_41 rfl (lv_at hl 2 rfl) ?_
  refine lv_iload_n hx hb dX6_makesReady_42 rfl (lv_at hl 3 rfl) ?_
  refine lv_iconst (v := 0) hx hb dX6_makesReady_43 (by decide) ?_
  refine lv_bipush (v := 127) hx hb dX6_makesReady_44 (by decide) ?_
  refine kWv (rnV C (ct_X6_writes l D cy Ad hap h) yv_X6_writes wq_1032 ⟨rfl, rfl⟩ ⟨Nat.le_of_ble_eq_true rfl, Nat.le_of_ble_eq_true rfl⟩ ⟨Nat.zero_le _, Nat.zero_le _⟩ (vM_model C hP) hP hl.1 rfl rfl (Nat.le_of_ble_eq_true rfl) dX6_makesReady_46) hS (fun _ h => h) (fun σ46 μ46 H locs h hP hk hS => ?_)
  exact endV C hS ⟨_, _, rfl, h, hP⟩ dX6_makesReady_49
abbrev rmX6_erasesOthers : Room := { frames := 2, cells := 0, slots := 0, locals := 45 }
def wb_X6_erasesOthers_31 (Q : Rg → Ar → Prop) (k2 : Rg → Ar → Int32 → Int32 → Prop) (σ : Rg) (μ : Ar) (v1 : Int32) (v2 : Int32) : Prop := ∀ y31 : Int32, y31 = v2 + (1 : Int32) → (k2 σ μ v1 y31)
set_option maxHeartbeats 4000000 in
set_option maxRecDepth 100000 in
theorem wk_X6_erasesOthers_31 {p : Program} {l : Launch} {e : Env} {s : State} {m : MethodId} {args : Array Value} {below : List Frame} {meth : Method} {c : Code} {D : va_G} {cy : ClassId} {Ad : Nat → Nat} (C : Cx p s m args meth c RX6 cX6_erasesOthers 3 (none : Option FieldType) D [(cy, .int)]) (hap : apt 8 Ad) {Q : Rg → Ar → Prop} {k2 : Rg → Ar → Int32 → Int32 → Prop} (hk2 : ∀ {σ : Rg} {μ : Ar} {v1 : Int32} {v2 : Int32} {H : Heap} {locs : List Loc} {ls : Array Slot}, k2 σ μ v1 v2 → va_P D vwCl (wM Ad cy σ μ) H → va_S (AS 8 Ad) s.heap H locs → lv_has ls 3 [(0, .ref (Ad 0)), (1, .int v1), (2, .int v2)] → W p l e rmX6_erasesOthers s m args below meth c H locs 0 0 (MQ below (Qcg (PWv (wM Ad cy) D Q) (AS 8 Ad)) args s 0 0 (AS 8 Ad)) (F0 m 2 ls [])) {σ : Rg} {μ : Ar} {v1 : Int32} {v2 : Int32} {H : Heap} {locs : List Loc} {ls : Array Slot} (h : wb_X6_erasesOthers_31 Q k2 σ μ v1 v2) (hP : va_P D vwCl (wM Ad cy σ μ) H) (hS : va_S (AS 8 Ad) s.heap H locs) (hl : lv_has ls 3 [(0, .ref (Ad 0)), (1, .int v1), (2, .int v2)]) : W p l e rmX6_erasesOthers s m args below meth c H locs 0 0 (MQ below (Qcg (PWv (wM Ad cy) D Q) (AS 8 Ad)) args s 0 0 (AS 8 Ad)) (F0 m 31 ls []) := by
  have hx := C.1
  have hb := C.2.1
  obtain ⟨y31, e31⟩ : ∃ y : Int32, y = v2 + (1 : Int32) := ⟨_, rfl⟩
  have h := h y31 e31
  refine lv_iinc (v := y31) (lv' := [(2, .int y31), (0, .ref (Ad 0)), (1, .int v1)]) hx hb dX6_erasesOthers_31 hl (k := 2) rfl (by rw [e31]; rfl) (by decide) rfl (fun ls hl => ?_)
  refine lv_goto (tgt := 2) hx hb dX6_erasesOthers_34 (by decide) ?_
  exact hk2 h hP hS (lv_sub hl [1, 2, 0] rfl)
def wb_X6_erasesOthers_2 (Q : Rg → Ar → Prop) (k2 : Rg → Ar → Int32 → Int32 → Prop) (σ : Rg) (μ : Ar) (v1 : Int32) (v2 : Int32) : Prop := (((μ 0 0) ≤ v2 → Q σ μ) ∧ (¬ (μ 0 0) ≤ v2 → ((v2 = v1 → wb_X6_erasesOthers_31 Q k2 σ μ v1 v2) ∧ (¬ v2 = v1 → wp_X6_isBlank σ μ v2 (0 : Int32) (fun r20 σ20 μ20 => ((¬ r20 = 0 → wb_X6_erasesOthers_31 Q k2 σ20 μ20 v1 v2) ∧ (r20 = 0 → wp_X6_erases σ20 μ20 v2 (fun σ28 μ28 => wb_X6_erasesOthers_31 Q k2 σ28 μ28 v1 v2))))))))
set_option maxHeartbeats 4000000 in
set_option maxRecDepth 100000 in
theorem wk_X6_erasesOthers_2 {p : Program} {l : Launch} {e : Env} {s : State} {m : MethodId} {args : Array Value} {below : List Frame} {meth : Method} {c : Code} {D : va_G} {cy : ClassId} {Ad : Nat → Nat} (C : Cx p s m args meth c RX6 cX6_erasesOthers 3 (none : Option FieldType) D [(cy, .int)]) (hap : apt 8 Ad) {Q : Rg → Ar → Prop} {k2 : Rg → Ar → Int32 → Int32 → Prop} (hk2 : ∀ {σ : Rg} {μ : Ar} {v1 : Int32} {v2 : Int32} {H : Heap} {locs : List Loc} {ls : Array Slot}, k2 σ μ v1 v2 → va_P D vwCl (wM Ad cy σ μ) H → va_S (AS 8 Ad) s.heap H locs → lv_has ls 3 [(0, .ref (Ad 0)), (1, .int v1), (2, .int v2)] → W p l e rmX6_erasesOthers s m args below meth c H locs 0 0 (MQ below (Qcg (PWv (wM Ad cy) D Q) (AS 8 Ad)) args s 0 0 (AS 8 Ad)) (F0 m 2 ls [])) {σ : Rg} {μ : Ar} {v1 : Int32} {v2 : Int32} {H : Heap} {locs : List Loc} {ls : Array Slot} (h : wb_X6_erasesOthers_2 Q k2 σ μ v1 v2) (hP : va_P D vwCl (wM Ad cy σ μ) H) (hS : va_S (AS 8 Ad) s.heap H locs) (hl : lv_has ls 3 [(0, .ref (Ad 0)), (1, .int v1), (2, .int v2)]) : W p l e rmX6_erasesOthers s m args below meth c H locs 0 0 (MQ below (Qcg (PWv (wM Ad cy) D Q) (AS 8 Ad)) args s 0 0 (AS 8 Ad)) (F0 m 2 ls []) := by
  have hx := C.1
  have hb := C.2.1
  refine lv_iload_n hx hb dX6_erasesOthers_2 rfl (lv_at hl 2 rfl) ?_
  refine lv_aload_n hx hb dX6_erasesOthers_3 rfl (lv_at hl 0 rfl) ?_
  refine gM_model_x C hP (C.2.2.2.2.2.2.1 _ wq_924) dX6_erasesOthers_4 ?_
  refine lv_iconst (v := 0) hx hb dX6_erasesOthers_7 (by decide) ?_
  refine lcM_0 C hP tc_0 vi_0_810 dX6_erasesOthers_8 ?_
  refine lv_icmp_ge (tgt := 37) hx hb dX6_erasesOthers_9 (by decide) (fun hc => ?_) (fun hc => ?_)
  · have h := h.1 hc
    exact endV C hS ⟨_, _, rfl, h, hP⟩ dX6_erasesOthers_37
  · have h := h.2 hc
    refine lv_iload_n hx hb dX6_erasesOthers_12 rfl (lv_at hl 2 rfl) ?_
    refine lv_iload_n hx hb dX6_erasesOthers_13 rfl (lv_at hl 1 rfl) ?_
    refine lv_icmp_eq (tgt := 31) hx hb dX6_erasesOthers_14 (by decide) (fun hc => ?_) (fun hc => ?_)
    · have h := h.1 hc
      exact wk_X6_erasesOthers_31 C hap hk2 h hP hS (lv_sub hl [0, 1, 2] rfl)
    · have h := h.2 hc
      refine lv_aload_n hx hb dX6_erasesOthers_17 rfl (lv_at hl 0 rfl) ?_
      refine lv_iload_n hx hb dX6_erasesOthers_18 rfl (lv_at hl 2 rfl) ?_
      refine lv_iconst (v := 0) hx hb dX6_erasesOthers_19 (by decide) ?_
      refine kWi (rnV C (ct_X6_isBlank l D cy Ad hap h) yv_X6_isBlank wq_1012 ⟨rfl, rfl⟩ ⟨Nat.le_of_ble_eq_true rfl, Nat.le_of_ble_eq_true rfl⟩ ⟨Nat.zero_le _, Nat.zero_le _⟩ (vM_model C hP) hP hl.1 rfl rfl (Nat.le_of_ble_eq_true rfl) dX6_erasesOthers_20) hS (fun _ h => h) (fun r20 σ20 μ20 H locs h hP hk hS => ?_)
      refine lv_if_ne (tgt := 31) hx hb dX6_erasesOthers_23 (by decide) (fun hc => ?_) (fun hc => ?_)
      · have h := h.1 hc
        exact wk_X6_erasesOthers_31 C hap hk2 h hP hS (lv_sub hl [0, 1, 2] rfl)
      · have h := h.2 hc
        refine lv_aload_n hx hb dX6_erasesOthers_26 rfl (lv_at hl 0 rfl) ?_
        refine lv_iload_n hx hb dX6_erasesOthers_27 rfl (lv_at hl 2 rfl) ?_
        refine kWv (rnV C (ct_X6_erases l D cy Ad hap h) yv_X6_erases wq_1016 ⟨rfl, rfl⟩ ⟨Nat.le_of_ble_eq_true rfl, Nat.le_of_ble_eq_true rfl⟩ ⟨Nat.zero_le _, Nat.zero_le _⟩ (vM_model C hP) hP hl.1 rfl rfl (Nat.le_of_ble_eq_true rfl) dX6_erasesOthers_28) hS (fun _ h => h) (fun σ28 μ28 H locs h hP hk hS => ?_)
        exact wk_X6_erasesOthers_31 C hap hk2 h hP hS (lv_sub hl [0, 1, 2] rfl)
def wl_X6_erasesOthers_2 (Q : Rg → Ar → Prop) (n : Nat) : Rg → Ar → Int32 → Int32 → Prop := Nat.rec (motive := fun _ => Rg → Ar → Int32 → Int32 → Prop) (fun _ _ _ _ => False) (fun _ k => wb_X6_erasesOthers_2 Q k) n
set_option maxHeartbeats 4000000 in
theorem wkl_X6_erasesOthers_2 {p : Program} {l : Launch} {e : Env} {s : State} {m : MethodId} {args : Array Value} {below : List Frame} {meth : Method} {c : Code} {D : va_G} {cy : ClassId} {Ad : Nat → Nat} (C : Cx p s m args meth c RX6 cX6_erasesOthers 3 (none : Option FieldType) D [(cy, .int)]) (hap : apt 8 Ad) {Q : Rg → Ar → Prop}  : ∀ (n : Nat) {σ : Rg} {μ : Ar} {v1 : Int32} {v2 : Int32} {H : Heap} {locs : List Loc} {ls : Array Slot} (h : wl_X6_erasesOthers_2 Q  n σ μ v1 v2) (hP : va_P D vwCl (wM Ad cy σ μ) H) (hS : va_S (AS 8 Ad) s.heap H locs) (hl : lv_has ls 3 [(0, .ref (Ad 0)), (1, .int v1), (2, .int v2)]), W p l e rmX6_erasesOthers s m args below meth c H locs 0 0 (MQ below (Qcg (PWv (wM Ad cy) D Q) (AS 8 Ad)) args s 0 0 (AS 8 Ad)) (F0 m 2 ls []) := by
  intro n
  induction n with
  | zero => intro σ μ v1 v2 H locs ls h; exact h.elim
  | succ n ih =>
    intro σ μ v1 v2 H locs ls h hP hS hl
    exact wk_X6_erasesOthers_2 C hap (fun h hP hS hl => ih h hP hS hl) h hP hS hl
def wp_X6_erasesOthers (σ : Rg) (μ : Ar) (x1 : Int32) (Q : Rg → Ar → Prop) : Prop := ∃ n, wl_X6_erasesOthers_2 Q n σ μ x1 (0 : Int32)
set_option maxHeartbeats 4000000 in
set_option maxRecDepth 100000 in
theorem ct_X6_erasesOthers (l : Launch) (D : va_G) (cy : ClassId) (Ad : Nat → Nat) (hap : apt 8 Ad) {σ : Rg} {μ : Ar} {x1 : Int32} {Q : Rg → Ar → Prop} (h : wp_X6_erasesOthers σ μ x1 Q) : Ct l yX6_erasesOthers cX6_erasesOthers 3 (none : Option FieldType) rmX6_erasesOthers D [(cy, .int)] (fun H => va_P D vwCl (wM Ad cy σ μ) H) [.ref (Ad 0), .int x1] (AS 8 Ad) (PWv (wM Ad cy) D Q) := by
  refine Ct.of (by decide) (Nat.le_of_ble_eq_true rfl) ?_
  intro p e s m below meth c ls C hP hl
  have hl : lv_has ls 3 [(0, .ref (Ad 0)), (1, .int x1)] := hl
  have hS : va_S (AS 8 Ad) s.heap s.heap [] := va_S.rf
  have hx := C.1
  have hb := C.2.1
  refine lv_iconst (v := 0) hx hb dX6_erasesOthers_0 (by decide) ?_
  refine lv_istore_n (lv' := [(2, .int (0 : Int32)), (0, .ref (Ad 0)), (1, .int x1)]) hx hb dX6_erasesOthers_1 rfl hl (by decide) rfl (fun ls hl => ?_)
  obtain ⟨n, h⟩ := h
  exact wkl_X6_erasesOthers_2 C hap n h hP hS (lv_sub hl [1, 2, 0] rfl)
abbrev rmX6_found : Room := { frames := 2, cells := 0, slots := 0, locals := 43 }
def wb_X6_found_72 (Q : Int32 → Rg → Ar → Prop) (k4 : Rg → Ar → Int32 → Int32 → Prop) (σ : Rg) (μ : Ar) (v1 : Int32) (v2 : Int32) : Prop := ∀ y72 : Int32, y72 = v2 + (1 : Int32) → (k4 σ μ v1 y72)
set_option maxHeartbeats 4000000 in
set_option maxRecDepth 100000 in
theorem wk_X6_found_72 {p : Program} {l : Launch} {e : Env} {s : State} {m : MethodId} {args : Array Value} {below : List Frame} {meth : Method} {c : Code} {D : va_G} {cy : ClassId} {Ad : Nat → Nat} (C : Cx p s m args meth c RX6 cX6_found 3 (some FieldType.int) D [(cy, .int)]) (hap : apt 8 Ad) {Q : Int32 → Rg → Ar → Prop} {k4 : Rg → Ar → Int32 → Int32 → Prop} (hk4 : ∀ {σ : Rg} {μ : Ar} {v1 : Int32} {v2 : Int32} {H : Heap} {locs : List Loc} {ls : Array Slot}, k4 σ μ v1 v2 → va_P D vwCl (wM Ad cy σ μ) H → va_S (AS 8 Ad) s.heap H locs → lv_has ls 3 [(0, .ref (Ad 0)), (1, .int v1), (2, .int v2)] → W p l e rmX6_found s m args below meth c H locs 0 0 (MQ below (Qcg (PWi (wM Ad cy) D Q) (AS 8 Ad)) args s 0 0 (AS 8 Ad)) (F0 m 4 ls [])) {σ : Rg} {μ : Ar} {v1 : Int32} {v2 : Int32} {H : Heap} {locs : List Loc} {ls : Array Slot} (h : wb_X6_found_72 Q k4 σ μ v1 v2) (hP : va_P D vwCl (wM Ad cy σ μ) H) (hS : va_S (AS 8 Ad) s.heap H locs) (hl : lv_has ls 3 [(0, .ref (Ad 0)), (1, .int v1), (2, .int v2)]) : W p l e rmX6_found s m args below meth c H locs 0 0 (MQ below (Qcg (PWi (wM Ad cy) D Q) (AS 8 Ad)) args s 0 0 (AS 8 Ad)) (F0 m 72 ls []) := by
  have hx := C.1
  have hb := C.2.1
  obtain ⟨y72, e72⟩ : ∃ y : Int32, y = v2 + (1 : Int32) := ⟨_, rfl⟩
  have h := h y72 e72
  refine lv_iinc (v := y72) (lv' := [(2, .int y72), (0, .ref (Ad 0)), (1, .int v1)]) hx hb dX6_found_72 hl (k := 2) rfl (by rw [e72]; rfl) (by decide) rfl (fun ls hl => ?_)
  refine lv_goto (tgt := 4) hx hb dX6_found_75 (by decide) ?_
  exact hk4 h hP hS (lv_sub hl [1, 2, 0] rfl)
def wb_X6_found_70 (Q : Int32 → Rg → Ar → Prop) (k4 : Rg → Ar → Int32 → Int32 → Prop) (σ : Rg) (μ : Ar) (v2 : Int32) : Prop := wb_X6_found_72 Q k4 σ μ v2 v2
set_option maxHeartbeats 4000000 in
set_option maxRecDepth 100000 in
theorem wk_X6_found_70 {p : Program} {l : Launch} {e : Env} {s : State} {m : MethodId} {args : Array Value} {below : List Frame} {meth : Method} {c : Code} {D : va_G} {cy : ClassId} {Ad : Nat → Nat} (C : Cx p s m args meth c RX6 cX6_found 3 (some FieldType.int) D [(cy, .int)]) (hap : apt 8 Ad) {Q : Int32 → Rg → Ar → Prop} {k4 : Rg → Ar → Int32 → Int32 → Prop} (hk4 : ∀ {σ : Rg} {μ : Ar} {v1 : Int32} {v2 : Int32} {H : Heap} {locs : List Loc} {ls : Array Slot}, k4 σ μ v1 v2 → va_P D vwCl (wM Ad cy σ μ) H → va_S (AS 8 Ad) s.heap H locs → lv_has ls 3 [(0, .ref (Ad 0)), (1, .int v1), (2, .int v2)] → W p l e rmX6_found s m args below meth c H locs 0 0 (MQ below (Qcg (PWi (wM Ad cy) D Q) (AS 8 Ad)) args s 0 0 (AS 8 Ad)) (F0 m 4 ls [])) {σ : Rg} {μ : Ar} {v2 : Int32} {H : Heap} {locs : List Loc} {ls : Array Slot} (h : wb_X6_found_70 Q k4 σ μ v2) (hP : va_P D vwCl (wM Ad cy σ μ) H) (hS : va_S (AS 8 Ad) s.heap H locs) (hl : lv_has ls 3 [(0, .ref (Ad 0)), (2, .int v2)]) : W p l e rmX6_found s m args below meth c H locs 0 0 (MQ below (Qcg (PWi (wM Ad cy) D Q) (AS 8 Ad)) args s 0 0 (AS 8 Ad)) (F0 m 70 ls []) := by
  have hx := C.1
  have hb := C.2.1
  refine lv_iload_n hx hb dX6_found_70 rfl (lv_at hl 1 rfl) ?_
  refine lv_istore_n (lv' := [(1, .int v2), (0, .ref (Ad 0)), (2, .int v2)]) hx hb dX6_found_71 rfl hl (by decide) rfl (fun ls hl => ?_)
  exact wk_X6_found_72 C hap hk4 h hP hS (lv_sub hl [1, 0, 2] rfl)
def wb_X6_found_4 (Q : Int32 → Rg → Ar → Prop) (k4 : Rg → Ar → Int32 → Int32 → Prop) (σ : Rg) (μ : Ar) (v1 : Int32) (v2 : Int32) : Prop := (((μ 0 0) ≤ v2 → Q v1 σ μ) ∧ (¬ (μ 0 0) ≤ v2 → wp_X6_byteAt σ μ v2 (0 : Int32) (fun r17 σ17 μ17 => ((¬ r17 = (63 : Int32) → wb_X6_found_72 Q k4 σ17 μ17 v1 v2) ∧ (r17 = (63 : Int32) → wp_X6_byteAt σ17 μ17 v2 (1 : Int32) (fun r28 σ28 μ28 => wp_X6_byteAt σ28 μ28 v2 (2 : Int32) (fun r34 σ34 μ34 => wp_X6_check (r28 + r34) (fun r38 => wp_X6_byteAt σ34 μ34 v2 (3 : Int32) (fun r44 σ44 μ44 => ((r38 = r44 → ((v1 < 0 → wb_X6_found_70 Q k4 σ44 μ44 v2) ∧ (¬ v1 < 0 → wp_X6_numberOf σ44 μ44 v2 (fun r59 σ59 μ59 => wp_X6_numberOf σ59 μ59 v1 (fun r64 σ64 μ64 => ((r59 ≤ r64 → wb_X6_found_72 Q k4 σ64 μ64 v1 v2) ∧ (¬ r59 ≤ r64 → wb_X6_found_70 Q k4 σ64 μ64 v2))))))) ∧ (¬ r38 = r44 → wb_X6_found_72 Q k4 σ44 μ44 v1 v2)))))))))))
set_option maxHeartbeats 4000000 in
set_option maxRecDepth 100000 in
theorem wk_X6_found_4 {p : Program} {l : Launch} {e : Env} {s : State} {m : MethodId} {args : Array Value} {below : List Frame} {meth : Method} {c : Code} {D : va_G} {cy : ClassId} {Ad : Nat → Nat} (C : Cx p s m args meth c RX6 cX6_found 3 (some FieldType.int) D [(cy, .int)]) (hap : apt 8 Ad) {Q : Int32 → Rg → Ar → Prop} {k4 : Rg → Ar → Int32 → Int32 → Prop} (hk4 : ∀ {σ : Rg} {μ : Ar} {v1 : Int32} {v2 : Int32} {H : Heap} {locs : List Loc} {ls : Array Slot}, k4 σ μ v1 v2 → va_P D vwCl (wM Ad cy σ μ) H → va_S (AS 8 Ad) s.heap H locs → lv_has ls 3 [(0, .ref (Ad 0)), (1, .int v1), (2, .int v2)] → W p l e rmX6_found s m args below meth c H locs 0 0 (MQ below (Qcg (PWi (wM Ad cy) D Q) (AS 8 Ad)) args s 0 0 (AS 8 Ad)) (F0 m 4 ls [])) {σ : Rg} {μ : Ar} {v1 : Int32} {v2 : Int32} {H : Heap} {locs : List Loc} {ls : Array Slot} (h : wb_X6_found_4 Q k4 σ μ v1 v2) (hP : va_P D vwCl (wM Ad cy σ μ) H) (hS : va_S (AS 8 Ad) s.heap H locs) (hl : lv_has ls 3 [(0, .ref (Ad 0)), (1, .int v1), (2, .int v2)]) : W p l e rmX6_found s m args below meth c H locs 0 0 (MQ below (Qcg (PWi (wM Ad cy) D Q) (AS 8 Ad)) args s 0 0 (AS 8 Ad)) (F0 m 4 ls []) := by
  have hx := C.1
  have hb := C.2.1
  refine lv_iload_n hx hb dX6_found_4 rfl (lv_at hl 2 rfl) ?_
  refine lv_aload_n hx hb dX6_found_5 rfl (lv_at hl 0 rfl) ?_
  refine gM_model_x C hP (C.2.2.2.2.2.2.1 _ wq_924) dX6_found_6 ?_
  refine lv_iconst (v := 0) hx hb dX6_found_9 (by decide) ?_
  refine lcM_0 C hP tc_0 vi_0_810 dX6_found_10 ?_
  refine lv_icmp_ge (tgt := 78) hx hb dX6_found_11 (by decide) (fun hc => ?_) (fun hc => ?_)
  · have h := h.1 hc
    refine lv_iload_n hx hb dX6_found_78 rfl (lv_at hl 1 rfl) ?_
    exact endI C hS ⟨_, _, _, rfl, h, hP⟩ dX6_found_79
  · have h := h.2 hc
    refine lv_aload_n hx hb dX6_found_14 rfl (lv_at hl 0 rfl) ?_
    refine lv_iload_n hx hb dX6_found_15 rfl (lv_at hl 2 rfl) ?_
    refine lv_iconst (v := 0) hx hb dX6_found_16 (by decide) ?_
    refine kWi (rnV C (ct_X6_byteAt l D cy Ad hap h) yv_X6_byteAt wq_997 ⟨rfl, rfl⟩ ⟨Nat.le_of_ble_eq_true rfl, Nat.le_of_ble_eq_true rfl⟩ ⟨Nat.zero_le _, Nat.zero_le _⟩ (vM_model C hP) hP hl.1 rfl rfl (Nat.le_of_ble_eq_true rfl) dX6_found_17) hS (fun _ h => h) (fun r17 σ17 μ17 H locs h hP hk hS => ?_)
    refine lv_bipush (v := 63) hx hb dX6_found_20 (by decide) ?_
    refine lv_icmp_ne (tgt := 72) hx hb dX6_found_22 (by decide) (fun hc => ?_) (fun hc => ?_)
    · have h := h.1 hc
      exact wk_X6_found_72 C hap hk4 h hP hS (lv_sub hl [0, 1, 2] rfl)
    · have h := h.2 hc
      refine lv_aload_n hx hb dX6_found_25 rfl (lv_at hl 0 rfl) ?_
      refine lv_iload_n hx hb dX6_found_26 rfl (lv_at hl 2 rfl) ?_
      refine lv_iconst (v := 1) hx hb dX6_found_27 (by decide) ?_
      refine kWi (rnV C (ct_X6_byteAt l D cy Ad hap h) yv_X6_byteAt wq_997 ⟨rfl, rfl⟩ ⟨Nat.le_of_ble_eq_true rfl, Nat.le_of_ble_eq_true rfl⟩ ⟨Nat.zero_le _, Nat.zero_le _⟩ (vM_model C hP) hP hl.1 rfl rfl (Nat.le_of_ble_eq_true rfl) dX6_found_28) hS (fun _ h => h) (fun r28 σ28 μ28 H locs h hP hk hS => ?_)
      refine lv_aload_n hx hb dX6_found_31 rfl (lv_at hl 0 rfl) ?_
      refine lv_iload_n hx hb dX6_found_32 rfl (lv_at hl 2 rfl) ?_
      refine lv_iconst (v := 2) hx hb dX6_found_33 (by decide) ?_
      refine kWi (rnV C (ct_X6_byteAt l D cy Ad hap h) yv_X6_byteAt wq_997 ⟨rfl, rfl⟩ ⟨Nat.le_of_ble_eq_true rfl, Nat.le_of_ble_eq_true rfl⟩ ⟨Nat.zero_le _, Nat.zero_le _⟩ (vM_model C hP) hP hl.1 rfl rfl (Nat.le_of_ble_eq_true rfl) dX6_found_34) hS (fun _ h => h) (fun r34 σ34 μ34 H locs h hP hk hS => ?_)
      refine lv_iadd hx hb dX6_found_37 ?_
      refine kNi (rnS (C.none) (ct_X6_check l D h) ys_X6_check wq_1001 ⟨rfl, rfl⟩ ⟨Nat.le_of_ble_eq_true rfl, Nat.le_of_ble_eq_true rfl⟩ ⟨Nat.zero_le _, Nat.zero_le _⟩ trivial hl.1 rfl rfl (Nat.le_of_ble_eq_true rfl) dX6_found_38) hS (fun _ h => h.elim) (fun r38 H locs h hk hS => ?_)
      have hP := keepN hP hk
      refine lv_aload_n hx hb dX6_found_41 rfl (lv_at hl 0 rfl) ?_
      refine lv_iload_n hx hb dX6_found_42 rfl (lv_at hl 2 rfl) ?_
      refine lv_iconst (v := 3) hx hb dX6_found_43 (by decide) ?_
      refine kWi (rnV C (ct_X6_byteAt l D cy Ad hap h) yv_X6_byteAt wq_997 ⟨rfl, rfl⟩ ⟨Nat.le_of_ble_eq_true rfl, Nat.le_of_ble_eq_true rfl⟩ ⟨Nat.zero_le _, Nat.zero_le _⟩ (vM_model C hP) hP hl.1 rfl rfl (Nat.le_of_ble_eq_true rfl) dX6_found_44) hS (fun _ h => h) (fun r44 σ44 μ44 H locs h hP hk hS => ?_)
      refine lv_icmp_eq (tgt := 53) hx hb dX6_found_47 (by decide) (fun hc => ?_) (fun hc => ?_)
      · have h := h.1 hc
        refine lv_iload_n hx hb dX6_found_53 rfl (lv_at hl 1 rfl) ?_
        refine lv_if_lt (tgt := 70) hx hb dX6_found_54 (by decide) (fun hc => ?_) (fun hc => ?_)
        · have h := h.1 hc
          exact wk_X6_found_70 C hap hk4 h hP hS (lv_sub hl [0, 2] rfl)
        · have h := h.2 hc
          refine lv_aload_n hx hb dX6_found_57 rfl (lv_at hl 0 rfl) ?_
          refine lv_iload_n hx hb dX6_found_58 rfl (lv_at hl 2 rfl) ?_
          refine kWi (rnV C (ct_X6_numberOf l D cy Ad hap h) yv_X6_numberOf wq_1004 ⟨rfl, rfl⟩ ⟨Nat.le_of_ble_eq_true rfl, Nat.le_of_ble_eq_true rfl⟩ ⟨Nat.zero_le _, Nat.zero_le _⟩ (vM_model C hP) hP hl.1 rfl rfl (Nat.le_of_ble_eq_true rfl) dX6_found_59) hS (fun _ h => h) (fun r59 σ59 μ59 H locs h hP hk hS => ?_)
          refine lv_aload_n hx hb dX6_found_62 rfl (lv_at hl 0 rfl) ?_
          refine lv_iload_n hx hb dX6_found_63 rfl (lv_at hl 1 rfl) ?_
          refine kWi (rnV C (ct_X6_numberOf l D cy Ad hap h) yv_X6_numberOf wq_1004 ⟨rfl, rfl⟩ ⟨Nat.le_of_ble_eq_true rfl, Nat.le_of_ble_eq_true rfl⟩ ⟨Nat.zero_le _, Nat.zero_le _⟩ (vM_model C hP) hP hl.1 rfl rfl (Nat.le_of_ble_eq_true rfl) dX6_found_64) hS (fun _ h => h) (fun r64 σ64 μ64 H locs h hP hk hS => ?_)
          refine lv_icmp_le (tgt := 72) hx hb dX6_found_67 (by decide) (fun hc => ?_) (fun hc => ?_)
          · have h := h.1 hc
            exact wk_X6_found_72 C hap hk4 h hP hS (lv_sub hl [0, 1, 2] rfl)
          · have h := h.2 hc
            exact wk_X6_found_70 C hap hk4 h hP hS (lv_sub hl [0, 2] rfl)
      · have h := h.2 hc
        refine lv_goto (tgt := 72) hx hb dX6_found_50 (by decide) ?_
        exact wk_X6_found_72 C hap hk4 h hP hS (lv_sub hl [0, 1, 2] rfl)
def wl_X6_found_4 (Q : Int32 → Rg → Ar → Prop) (n : Nat) : Rg → Ar → Int32 → Int32 → Prop := Nat.rec (motive := fun _ => Rg → Ar → Int32 → Int32 → Prop) (fun _ _ _ _ => False) (fun _ k => wb_X6_found_4 Q k) n
set_option maxHeartbeats 4000000 in
theorem wkl_X6_found_4 {p : Program} {l : Launch} {e : Env} {s : State} {m : MethodId} {args : Array Value} {below : List Frame} {meth : Method} {c : Code} {D : va_G} {cy : ClassId} {Ad : Nat → Nat} (C : Cx p s m args meth c RX6 cX6_found 3 (some FieldType.int) D [(cy, .int)]) (hap : apt 8 Ad) {Q : Int32 → Rg → Ar → Prop}  : ∀ (n : Nat) {σ : Rg} {μ : Ar} {v1 : Int32} {v2 : Int32} {H : Heap} {locs : List Loc} {ls : Array Slot} (h : wl_X6_found_4 Q  n σ μ v1 v2) (hP : va_P D vwCl (wM Ad cy σ μ) H) (hS : va_S (AS 8 Ad) s.heap H locs) (hl : lv_has ls 3 [(0, .ref (Ad 0)), (1, .int v1), (2, .int v2)]), W p l e rmX6_found s m args below meth c H locs 0 0 (MQ below (Qcg (PWi (wM Ad cy) D Q) (AS 8 Ad)) args s 0 0 (AS 8 Ad)) (F0 m 4 ls []) := by
  intro n
  induction n with
  | zero => intro σ μ v1 v2 H locs ls h; exact h.elim
  | succ n ih =>
    intro σ μ v1 v2 H locs ls h hP hS hl
    exact wk_X6_found_4 C hap (fun h hP hS hl => ih h hP hS hl) h hP hS hl
def wp_X6_found (σ : Rg) (μ : Ar) (Q : Int32 → Rg → Ar → Prop) : Prop := ∃ n, wl_X6_found_4 Q n σ μ (-1 : Int32) (0 : Int32)
set_option maxHeartbeats 4000000 in
set_option maxRecDepth 100000 in
theorem ct_X6_found (l : Launch) (D : va_G) (cy : ClassId) (Ad : Nat → Nat) (hap : apt 8 Ad) {σ : Rg} {μ : Ar}  {Q : Int32 → Rg → Ar → Prop} (h : wp_X6_found σ μ  Q) : Ct l yX6_found cX6_found 3 (some FieldType.int) rmX6_found D [(cy, .int)] (fun H => va_P D vwCl (wM Ad cy σ μ) H) [.ref (Ad 0)] (AS 8 Ad) (PWi (wM Ad cy) D Q) := by
  refine Ct.of (by decide) (Nat.le_of_ble_eq_true rfl) ?_
  intro p e s m below meth c ls C hP hl
  have hl : lv_has ls 3 [(0, .ref (Ad 0))] := hl
  have hS : va_S (AS 8 Ad) s.heap s.heap [] := va_S.rf
  have hx := C.1
  have hb := C.2.1
  refine lv_iconst (v := -1) hx hb dX6_found_0 (by decide) ?_
  refine lv_istore_n (lv' := [(1, .int (-1 : Int32)), (0, .ref (Ad 0))]) hx hb dX6_found_1 rfl hl (by decide) rfl (fun ls hl => ?_)
  refine lv_iconst (v := 0) hx hb dX6_found_2 (by decide) ?_
  refine lv_istore_n (lv' := [(2, .int (0 : Int32)), (1, .int (-1 : Int32)), (0, .ref (Ad 0))]) hx hb dX6_found_3 rfl hl (by decide) rfl (fun ls hl => ?_)
  obtain ⟨n, h⟩ := h
  exact wkl_X6_found_4 C hap n h hP hS (lv_sub hl [2, 1, 0] rfl)
abbrev rmX6_switchesOn : Room := { frames := 3, cells := 0, slots := 0, locals := 68 }
def wb_X6_switchesOn_34 (Q : Rg → Ar → Prop) (σ : Rg) (μ : Ar) (v1 : Int32) : Prop := (((σ 1) = 0 → ∀ μ48 : Ar, μ48 = updA μ 0 (upd (μ 0) 2 (1 : Int32)) → (∀ μ55 : Ar, μ55 = updA μ48 0 (upd (μ48 0) 3 v1) → (Q σ μ55))) ∧ (¬ (σ 1) = 0 → Q σ μ))
set_option maxHeartbeats 4000000 in
set_option maxRecDepth 100000 in
theorem wk_X6_switchesOn_34 {p : Program} {l : Launch} {e : Env} {s : State} {m : MethodId} {args : Array Value} {below : List Frame} {meth : Method} {c : Code} {D : va_G} {cy : ClassId} {Ad : Nat → Nat} (C : Cx p s m args meth c RX6 cX6_switchesOn 2 (none : Option FieldType) D [(cy, .int)]) (hap : apt 8 Ad) {Q : Rg → Ar → Prop} {σ : Rg} {μ : Ar} {v1 : Int32} {H : Heap} {locs : List Loc} {ls : Array Slot} (h : wb_X6_switchesOn_34 Q σ μ v1) (hP : va_P D vwCl (wM Ad cy σ μ) H) (hS : va_S (AS 8 Ad) s.heap H locs) (hl : lv_has ls 2 [(0, .ref (Ad 0)), (1, .int v1)]) : W p l e rmX6_switchesOn s m args below meth c H locs 0 0 (MQ below (Qcg (PWv (wM Ad cy) D Q) (AS 8 Ad)) args s 0 0 (AS 8 Ad)) (F0 m 34 ls []) := by
  have hx := C.1
  have hb := C.2.1
  refine lv_aload_n hx hb dX6_switchesOn_34 rfl (lv_at hl 0 rfl) ?_
  refine gM_model_isGone C hP (C.2.2.2.2.2.2.1 _ wq_927) dX6_switchesOn_35 ?_
  refine lv_if_eq (tgt := 42) hx hb dX6_switchesOn_38 (by decide) (fun hc => ?_) (fun hc => ?_)
  · have h := h.1 hc
    refine lv_aload_n hx hb dX6_switchesOn_42 rfl (lv_at hl 0 rfl) ?_
    refine gM_model_x C hP (C.2.2.2.2.2.2.1 _ wq_924) dX6_switchesOn_43 ?_
    refine lv_iconst (v := 2) hx hb dX6_switchesOn_46 (by decide) ?_
    refine lv_iconst (v := 1) hx hb dX6_switchesOn_47 (by decide) ?_
    refine scM_0 C hap (fun _ h => h) hP hS tc_2 vi_2_810 dX6_switchesOn_48 (fun H locs hP hS => ?_)
    obtain ⟨μ48, e48⟩ : ∃ z : Ar, z = updA μ 0 (upd (μ 0) 2 (1 : Int32)) := ⟨_, rfl⟩
    have hP : va_P D vwCl (wM Ad cy σ μ48) H := by rw [e48]; exact hP
    have h := h μ48 e48
    refine lv_aload_n hx hb dX6_switchesOn_49 rfl (lv_at hl 0 rfl) ?_
    refine gM_model_x C hP (C.2.2.2.2.2.2.1 _ wq_924) dX6_switchesOn_50 ?_
    refine lv_iconst (v := 3) hx hb dX6_switchesOn_53 (by decide) ?_
    refine lv_iload_n hx hb dX6_switchesOn_54 rfl (lv_at hl 1 rfl) ?_
    refine scM_0 C hap (fun _ h => h) hP hS tc_3 vi_3_810 dX6_switchesOn_55 (fun H locs hP hS => ?_)
    obtain ⟨μ55, e55⟩ : ∃ z : Ar, z = updA μ48 0 (upd (μ48 0) 3 v1) := ⟨_, rfl⟩
    have hP : va_P D vwCl (wM Ad cy σ μ55) H := by rw [e55]; exact hP
    have h := h μ55 e55
    exact endV C hS ⟨_, _, rfl, h, hP⟩ dX6_switchesOn_56
  · have h := h.2 hc
    exact endV C hS ⟨_, _, rfl, h, hP⟩ dX6_switchesOn_41
def wp_X6_switchesOn (σ : Rg) (μ : Ar) (Q : Rg → Ar → Prop) : Prop := wp_X6_found σ μ  (fun r1 σ1 μ1 => wp_X6_erasesOthers σ1 μ1 r1 (fun σ7 μ7 => ((0 ≤ r1 → wb_X6_switchesOn_34 Q σ7 μ7 r1) ∧ (¬ 0 ≤ r1 → wp_X6_leastErased σ7 μ7 (-1 : Int32) (fun r16 σ16 μ16 => wp_X6_makesReady σ16 μ16 r16 (1 : Int32) (fun σ23 μ23 => wp_X6_writes σ23 μ23 r16 (0 : Int32) (63 : Int32) (fun σ31 μ31 => wb_X6_switchesOn_34 Q σ31 μ31 r16)))))))
set_option maxHeartbeats 4000000 in
set_option maxRecDepth 100000 in
theorem ct_X6_switchesOn (l : Launch) (D : va_G) (cy : ClassId) (Ad : Nat → Nat) (hap : apt 8 Ad) {σ : Rg} {μ : Ar}  {Q : Rg → Ar → Prop} (h : wp_X6_switchesOn σ μ  Q) : Ct l yX6_switchesOn cX6_switchesOn 2 (none : Option FieldType) rmX6_switchesOn D [(cy, .int)] (fun H => va_P D vwCl (wM Ad cy σ μ) H) [.ref (Ad 0)] (AS 8 Ad) (PWv (wM Ad cy) D Q) := by
  refine Ct.of (by decide) (Nat.le_of_ble_eq_true rfl) ?_
  intro p e s m below meth c ls C hP hl
  have hl : lv_has ls 2 [(0, .ref (Ad 0))] := hl
  have hS : va_S (AS 8 Ad) s.heap s.heap [] := va_S.rf
  have hx := C.1
  have hb := C.2.1
  refine lv_aload_n hx hb dX6_switchesOn_0 rfl (lv_at hl 0 rfl) ?_
  refine kWi (rnV C (ct_X6_found l D cy Ad hap h) yv_X6_found wq_993 ⟨rfl, rfl⟩ ⟨Nat.le_of_ble_eq_true rfl, Nat.le_of_ble_eq_true rfl⟩ ⟨Nat.zero_le _, Nat.zero_le _⟩ (vM_model C hP) hP hl.1 rfl rfl (Nat.le_of_ble_eq_true rfl) dX6_switchesOn_1) hS (fun _ h => h) (fun r1 σ1 μ1 H locs h hP hk hS => ?_)
  refine lv_istore_n (lv' := [(1, .int r1), (0, .ref (Ad 0))]) hx hb dX6_switchesOn_4 rfl hl (by decide) rfl (fun ls hl => ?_)
  refine lv_aload_n hx hb dX6_switchesOn_5 rfl (lv_at hl 1 rfl) ?_
  refine lv_iload_n hx hb dX6_switchesOn_6 rfl (lv_at hl 0 rfl) ?_
  refine kWv (rnV C (ct_X6_erasesOthers l D cy Ad hap h) yv_X6_erasesOthers wq_1008 ⟨rfl, rfl⟩ ⟨Nat.le_of_ble_eq_true rfl, Nat.le_of_ble_eq_true rfl⟩ ⟨Nat.zero_le _, Nat.zero_le _⟩ (vM_model C hP) hP hl.1 rfl rfl (Nat.le_of_ble_eq_true rfl) dX6_switchesOn_7) hS (fun _ h => h) (fun σ7 μ7 H locs h hP hk hS => ?_)
  refine lv_iload_n hx hb dX6_switchesOn_10 rfl (lv_at hl 0 rfl) ?_
  refine lv_if_ge (tgt := 34) hx hb dX6_switchesOn_11 (by decide) (fun hc => ?_) (fun hc => ?_)
  · have h := h.1 hc
    exact wk_X6_switchesOn_34 C hap h hP hS (lv_sub hl [1, 0] rfl)
  · have h := h.2 hc
    refine lv_aload_n hx hb dX6_switchesOn_14 rfl (lv_at hl 1 rfl) ?_
    refine lv_iconst (v := -1) hx hb dX6_switchesOn_15 (by decide) ?_
    refine kWi (rnV C (ct_X6_leastErased l D cy Ad hap h) yv_X6_leastErased wq_1024 ⟨rfl, rfl⟩ ⟨Nat.le_of_ble_eq_true rfl, Nat.le_of_ble_eq_true rfl⟩ ⟨Nat.zero_le _, Nat.zero_le _⟩ (vM_model C hP) hP hl.1 rfl rfl (Nat.le_of_ble_eq_true rfl) dX6_switchesOn_16) hS (fun _ h => h) (fun r16 σ16 μ16 H locs h hP hk hS => ?_)
    refine lv_istore_n (lv' := [(1, .int r16), (0, .ref (Ad 0))]) hx hb dX6_switchesOn_19 rfl hl (by decide) rfl (fun ls hl => ?_)
    refine lv_aload_n hx hb dX6_switchesOn_20 rfl (lv_at hl 1 rfl) ?_
    refine lv_iload_n hx hb dX6_switchesOn_21 rfl (lv_at hl 0 rfl) ?_
    refine lv_iconst (v := 1) hx hb dX6_switchesOn_22 (by decide) ?_
    refine kWv (rnV C (ct_X6_makesReady l D cy Ad hap h) yv_X6_makesReady wq_1028 ⟨rfl, rfl⟩ ⟨Nat.le_of_ble_eq_true rfl, Nat.le_of_ble_eq_true rfl⟩ ⟨Nat.zero_le _, Nat.zero_le _⟩ (vM_model C hP) hP hl.1 rfl rfl (Nat.le_of_ble_eq_true rfl) dX6_switchesOn_23) hS (fun _ h => h) (fun σ23 μ23 H locs h hP hk hS => ?_)
    refine lv_aload_n hx hb dX6_switchesOn_26 rfl (lv_at hl 1 rfl) ?_
    refine lv_iload_n hx hb dX6_switchesOn_27 rfl (lv_at hl 0 rfl) ?_
    refine lv_iconst (v := 0) hx hb dX6_switchesOn_28 (by decide) ?_
    refine lv_bipush (v := 63) hx hb dX6_switchesOn_29 (by decide) ?_
    refine kWv (rnV C (ct_X6_writes l D cy Ad hap h) yv_X6_writes wq_1032 ⟨rfl, rfl⟩ ⟨Nat.le_of_ble_eq_true rfl, Nat.le_of_ble_eq_true rfl⟩ ⟨Nat.zero_le _, Nat.zero_le _⟩ (vM_model C hP) hP hl.1 rfl rfl (Nat.le_of_ble_eq_true rfl) dX6_switchesOn_31) hS (fun _ h => h) (fun σ31 μ31 H locs h hP hk hS => ?_)
    exact wk_X6_switchesOn_34 C hap h hP hS (lv_sub hl [1, 0] rfl)
abbrev rmX6_on : Room := { frames := 4, cells := 0, slots := 0, locals := 89 }
def wp_X6_on (σ : Rg) (μ : Ar) (Q : Int32 → Rg → Ar → Prop) : Prop := ∀ σ2 : Rg, σ2 = upd σ 0 (0 : Int32) → (wp_X6_isOn σ2 μ  (fun r6 σ6 μ6 => ((r6 = 0 → wp_X6_begins σ6 μ6  (fun σ15 μ15 => wp_X6_switchesOn σ15 μ15  (fun σ19 μ19 => (((σ19 1) = 0 → wp_X6_reads σ19 μ19 (μ19 0 3) (fun σ39 μ39 => wp_X6_valued σ39 μ39 (μ39 0 3) (fun r49 σ49 μ49 => Q r49 σ49 μ49))) ∧ (¬ (σ19 1) = 0 → Q (-3 : Int32) σ19 μ19))))) ∧ (¬ r6 = 0 → Q (-1 : Int32) σ6 μ6))))
set_option maxHeartbeats 4000000 in
set_option maxRecDepth 100000 in
theorem ct_X6_on (l : Launch) (D : va_G) (cy : ClassId) (Ad : Nat → Nat) (hap : apt 8 Ad) {σ : Rg} {μ : Ar}  {Q : Int32 → Rg → Ar → Prop} (h : wp_X6_on σ μ  Q) : Ct l yX6_on cX6_on 1 (some FieldType.int) rmX6_on D [(cy, .int)] (fun H => va_P D vwCl (wM Ad cy σ μ) H) [.ref (Ad 0)] (AS 8 Ad) (PWi (wM Ad cy) D Q) := by
  refine Ct.of (by decide) (Nat.le_of_ble_eq_true rfl) ?_
  intro p e s m below meth c ls C hP hl
  have hl : lv_has ls 1 [(0, .ref (Ad 0))] := hl
  have hS : va_S (AS 8 Ad) s.heap s.heap [] := va_S.rf
  have hx := C.1
  have hb := C.2.1
  refine lv_aload_n hx hb dX6_on_0 rfl (lv_at hl 0 rfl) ?_
  refine lv_iconst (v := 0) hx hb dX6_on_1 (by decide) ?_
  refine pM_model_thrown C hap (fun _ h => h) hP hS (C.2.2.2.2.2.2.1 _ wq_926) dX6_on_2 (fun H locs hP hS => ?_)
  obtain ⟨σ2, e2⟩ : ∃ z : Rg, z = upd σ 0 (0 : Int32) := ⟨_, rfl⟩
  have hP : va_P D vwCl (wM Ad cy σ2 μ) H := by rw [e2]; exact hP
  have h := h σ2 e2
  refine lv_aload_n hx hb dX6_on_5 rfl (lv_at hl 0 rfl) ?_
  refine kWi (rnV C (ct_X6_isOn l D cy Ad hap h) yv_X6_isOn wq_981 ⟨rfl, rfl⟩ ⟨Nat.le_of_ble_eq_true rfl, Nat.le_of_ble_eq_true rfl⟩ ⟨Nat.zero_le _, Nat.zero_le _⟩ (vM_model C hP) hP hl.1 rfl rfl (Nat.le_of_ble_eq_true rfl) dX6_on_6) hS (fun _ h => h) (fun r6 σ6 μ6 H locs h hP hk hS => ?_)
  refine lv_if_eq (tgt := 14) hx hb dX6_on_9 (by decide) (fun hc => ?_) (fun hc => ?_)
  · have h := h.1 hc
    refine lv_aload_n hx hb dX6_on_14 rfl (lv_at hl 0 rfl) ?_
    refine kWv (rnV C (ct_X6_begins l D cy Ad hap h) yv_X6_begins wq_985 ⟨rfl, rfl⟩ ⟨Nat.le_of_ble_eq_true rfl, Nat.le_of_ble_eq_true rfl⟩ ⟨Nat.zero_le _, Nat.zero_le _⟩ (vM_model C hP) hP hl.1 rfl rfl (Nat.le_of_ble_eq_true rfl) dX6_on_15) hS (fun _ h => h) (fun σ15 μ15 H locs h hP hk hS => ?_)
    refine lv_aload_n hx hb dX6_on_18 rfl (lv_at hl 0 rfl) ?_
    refine kWv (rnV C (ct_X6_switchesOn l D cy Ad hap h) yv_X6_switchesOn wq_989 ⟨rfl, rfl⟩ ⟨Nat.le_of_ble_eq_true rfl, Nat.le_of_ble_eq_true rfl⟩ ⟨Nat.zero_le _, Nat.zero_le _⟩ (vM_model C hP) hP hl.1 rfl rfl (Nat.le_of_ble_eq_true rfl) dX6_on_19) hS (fun _ h => h) (fun σ19 μ19 H locs h hP hk hS => ?_)
    refine lv_aload_n hx hb dX6_on_22 rfl (lv_at hl 0 rfl) ?_
    refine gM_model_isGone C hP (C.2.2.2.2.2.2.1 _ wq_927) dX6_on_23 ?_
    refine lv_if_eq (tgt := 32) hx hb dX6_on_26 (by decide) (fun hc => ?_) (fun hc => ?_)
    · have h := h.1 hc
      refine lv_aload_n hx hb dX6_on_32 rfl (lv_at hl 0 rfl) ?_
      refine lv_aload_n hx hb dX6_on_33 rfl (lv_at hl 0 rfl) ?_
      refine gM_model_x C hP (C.2.2.2.2.2.2.1 _ wq_924) dX6_on_34 ?_
      refine lv_iconst (v := 3) hx hb dX6_on_37 (by decide) ?_
      refine lcM_0 C hP tc_3 vi_3_810 dX6_on_38 ?_
      refine kWv (rnV C (ct_X6_reads l D cy Ad hap h) yv_X6_reads wq_1036 ⟨rfl, rfl⟩ ⟨Nat.le_of_ble_eq_true rfl, Nat.le_of_ble_eq_true rfl⟩ ⟨Nat.zero_le _, Nat.zero_le _⟩ (vM_model C hP) hP hl.1 rfl rfl (Nat.le_of_ble_eq_true rfl) dX6_on_39) hS (fun _ h => h) (fun σ39 μ39 H locs h hP hk hS => ?_)
      refine lv_aload_n hx hb dX6_on_42 rfl (lv_at hl 0 rfl) ?_
      refine lv_aload_n hx hb dX6_on_43 rfl (lv_at hl 0 rfl) ?_
      refine gM_model_x C hP (C.2.2.2.2.2.2.1 _ wq_924) dX6_on_44 ?_
      refine lv_iconst (v := 3) hx hb dX6_on_47 (by decide) ?_
      refine lcM_0 C hP tc_3 vi_3_810 dX6_on_48 ?_
      refine kWi (rnV C (ct_X6_valued l D cy Ad hap h) yv_X6_valued wq_1060 ⟨rfl, rfl⟩ ⟨Nat.le_of_ble_eq_true rfl, Nat.le_of_ble_eq_true rfl⟩ ⟨Nat.zero_le _, Nat.zero_le _⟩ (vM_model C hP) hP hl.1 rfl rfl (Nat.le_of_ble_eq_true rfl) dX6_on_49) hS (fun _ h => h) (fun r49 σ49 μ49 H locs h hP hk hS => ?_)
      exact endI C hS ⟨_, _, _, rfl, h, hP⟩ dX6_on_52
    · have h := h.2 hc
      refine lv_bipush (v := -3) hx hb dX6_on_29 (by decide) ?_
      exact endI C hS ⟨_, _, _, rfl, h, hP⟩ dX6_on_31
  · have h := h.2 hc
    refine lv_iconst (v := -1) hx hb dX6_on_12 (by decide) ?_
    exact endI C hS ⟨_, _, _, rfl, h, hP⟩ dX6_on_13
abbrev rmX6_off : Room := { frames := 1, cells := 0, slots := 0, locals := 20 }
def wp_X6_off (σ : Rg) (μ : Ar) (Q : Int32 → Rg → Ar → Prop) : Prop := ∀ σ2 : Rg, σ2 = upd σ 0 (0 : Int32) → (wp_X6_isOn σ2 μ  (fun r6 σ6 μ6 => ((¬ r6 = 0 → ∀ μ20 : Ar, μ20 = updA μ6 0 (upd (μ6 0) 2 (0 : Int32)) → (∀ μ28 : Ar, μ28 = updA μ20 0 (upd (μ20 0) 10 (0 : Int32)) → (Q (1 : Int32) σ6 μ28))) ∧ (r6 = 0 → Q (0 : Int32) σ6 μ6))))
set_option maxHeartbeats 4000000 in
set_option maxRecDepth 100000 in
theorem ct_X6_off (l : Launch) (D : va_G) (cy : ClassId) (Ad : Nat → Nat) (hap : apt 8 Ad) {σ : Rg} {μ : Ar}  {Q : Int32 → Rg → Ar → Prop} (h : wp_X6_off σ μ  Q) : Ct l yX6_off cX6_off 1 (some FieldType.boolean) rmX6_off D [(cy, .int)] (fun H => va_P D vwCl (wM Ad cy σ μ) H) [.ref (Ad 0)] (AS 8 Ad) (PWi (wM Ad cy) D Q) := by
  refine Ct.of (by decide) (Nat.le_of_ble_eq_true rfl) ?_
  intro p e s m below meth c ls C hP hl
  have hl : lv_has ls 1 [(0, .ref (Ad 0))] := hl
  have hS : va_S (AS 8 Ad) s.heap s.heap [] := va_S.rf
  have hx := C.1
  have hb := C.2.1
  refine lv_aload_n hx hb dX6_off_0 rfl (lv_at hl 0 rfl) ?_
  refine lv_iconst (v := 0) hx hb dX6_off_1 (by decide) ?_
  refine pM_model_thrown C hap (fun _ h => h) hP hS (C.2.2.2.2.2.2.1 _ wq_926) dX6_off_2 (fun H locs hP hS => ?_)
  obtain ⟨σ2, e2⟩ : ∃ z : Rg, z = upd σ 0 (0 : Int32) := ⟨_, rfl⟩
  have hP : va_P D vwCl (wM Ad cy σ2 μ) H := by rw [e2]; exact hP
  have h := h σ2 e2
  refine lv_aload_n hx hb dX6_off_5 rfl (lv_at hl 0 rfl) ?_
  refine kWi (rnV C (ct_X6_isOn l D cy Ad hap h) yv_X6_isOn wq_981 ⟨rfl, rfl⟩ ⟨Nat.le_of_ble_eq_true rfl, Nat.le_of_ble_eq_true rfl⟩ ⟨Nat.zero_le _, Nat.zero_le _⟩ (vM_model C hP) hP hl.1 rfl rfl (Nat.le_of_ble_eq_true rfl) dX6_off_6) hS (fun _ h => h) (fun r6 σ6 μ6 H locs h hP hk hS => ?_)
  refine lv_if_ne (tgt := 14) hx hb dX6_off_9 (by decide) (fun hc => ?_) (fun hc => ?_)
  · have h := h.1 hc
    refine lv_aload_n hx hb dX6_off_14 rfl (lv_at hl 0 rfl) ?_
    refine gM_model_x C hP (C.2.2.2.2.2.2.1 _ wq_924) dX6_off_15 ?_
    refine lv_iconst (v := 2) hx hb dX6_off_18 (by decide) ?_
    refine lv_iconst (v := 0) hx hb dX6_off_19 (by decide) ?_
    refine scM_0 C hap (fun _ h => h) hP hS tc_2 vi_2_810 dX6_off_20 (fun H locs hP hS => ?_)
    obtain ⟨μ20, e20⟩ : ∃ z : Ar, z = updA μ6 0 (upd (μ6 0) 2 (0 : Int32)) := ⟨_, rfl⟩
    have hP : va_P D vwCl (wM Ad cy σ6 μ20) H := by rw [e20]; exact hP
    have h := h μ20 e20
    refine lv_aload_n hx hb dX6_off_21 rfl (lv_at hl 0 rfl) ?_
    refine gM_model_x C hP (C.2.2.2.2.2.2.1 _ wq_924) dX6_off_22 ?_
    refine lv_bipush (v := 10) hx hb dX6_off_25 (by decide) ?_
    refine lv_iconst (v := 0) hx hb dX6_off_27 (by decide) ?_
    refine scM_0 C hap (fun _ h => h) hP hS tc_10 vi_10_810 dX6_off_28 (fun H locs hP hS => ?_)
    obtain ⟨μ28, e28⟩ : ∃ z : Ar, z = updA μ20 0 (upd (μ20 0) 10 (0 : Int32)) := ⟨_, rfl⟩
    have hP : va_P D vwCl (wM Ad cy σ6 μ28) H := by rw [e28]; exact hP
    have h := h μ28 e28
    refine lv_iconst (v := 1) hx hb dX6_off_29 (by decide) ?_
    exact endZ C hS bz1 ⟨_, _, _, rfl, h, hP⟩ dX6_off_30
  · have h := h.2 hc
    refine lv_iconst (v := 0) hx hb dX6_off_12 (by decide) ?_
    exact endZ C hS bz0 ⟨_, _, _, rfl, h, hP⟩ dX6_off_13
abbrev rmX6_power : Room := { frames := 1, cells := 0, slots := 0, locals := 22 }
def wb_X6_power_27 (Q : Int32 → Rg → Ar → Prop) (σ : Rg) (μ : Ar) : Prop := Q (0 : Int32) σ μ
set_option maxHeartbeats 4000000 in
set_option maxRecDepth 100000 in
theorem wk_X6_power_27 {p : Program} {l : Launch} {e : Env} {s : State} {m : MethodId} {args : Array Value} {below : List Frame} {meth : Method} {c : Code} {D : va_G} {cy : ClassId} {Ad : Nat → Nat} (C : Cx p s m args meth c RX6 cX6_power 3 (some FieldType.boolean) D [(cy, .int)]) (hap : apt 8 Ad) {Q : Int32 → Rg → Ar → Prop} {σ : Rg} {μ : Ar}  {H : Heap} {locs : List Loc} {ls : Array Slot} (h : wb_X6_power_27 Q σ μ) (hP : va_P D vwCl (wM Ad cy σ μ) H) (hS : va_S (AS 8 Ad) s.heap H locs) (hl : lv_has ls 3 []) : W p l e rmX6_power s m args below meth c H locs 0 0 (MQ below (Qcg (PWi (wM Ad cy) D Q) (AS 8 Ad)) args s 0 0 (AS 8 Ad)) (F0 m 27 ls []) := by
  have hx := C.1
  have hb := C.2.1
  refine lv_iconst (v := 0) hx hb dX6_power_27 (by decide) ?_
  exact endZ C hS bz0 ⟨_, _, _, rfl, h, hP⟩ dX6_power_28
def wp_X6_power (σ : Rg) (μ : Ar) (x1 : Int32) (x2 : Int32) (Q : Int32 → Rg → Ar → Prop) : Prop := ∀ σ2 : Rg, σ2 = upd σ 0 (0 : Int32) → (wp_X6_within x1 (0 : Int32) (9999 : Int32) (fun r10 => ((r10 = 0 → wb_X6_power_27 Q σ2 μ) ∧ (¬ r10 = 0 → wp_X6_within x2 (0 : Int32) (255 : Int32) (fun r21 => ((¬ r21 = 0 → ∀ μ35 : Ar, μ35 = updA μ 0 (upd (μ 0) 4 x1) → (∀ μ42 : Ar, μ42 = updA μ35 0 (upd (μ35 0) 5 x2) → (Q (1 : Int32) σ2 μ42))) ∧ (r21 = 0 → wb_X6_power_27 Q σ2 μ)))))))
set_option maxHeartbeats 4000000 in
set_option maxRecDepth 100000 in
theorem ct_X6_power (l : Launch) (D : va_G) (cy : ClassId) (Ad : Nat → Nat) (hap : apt 8 Ad) {σ : Rg} {μ : Ar} {x1 : Int32} {x2 : Int32} {Q : Int32 → Rg → Ar → Prop} (h : wp_X6_power σ μ x1 x2 Q) : Ct l yX6_power cX6_power 3 (some FieldType.boolean) rmX6_power D [(cy, .int)] (fun H => va_P D vwCl (wM Ad cy σ μ) H) [.ref (Ad 0), .int x1, .int x2] (AS 8 Ad) (PWi (wM Ad cy) D Q) := by
  refine Ct.of (by decide) (Nat.le_of_ble_eq_true rfl) ?_
  intro p e s m below meth c ls C hP hl
  have hl : lv_has ls 3 [(0, .ref (Ad 0)), (1, .int x1), (2, .int x2)] := hl
  have hS : va_S (AS 8 Ad) s.heap s.heap [] := va_S.rf
  have hx := C.1
  have hb := C.2.1
  refine lv_aload_n hx hb dX6_power_0 rfl (lv_at hl 0 rfl) ?_
  refine lv_iconst (v := 0) hx hb dX6_power_1 (by decide) ?_
  refine pM_model_thrown C hap (fun _ h => h) hP hS (C.2.2.2.2.2.2.1 _ wq_926) dX6_power_2 (fun H locs hP hS => ?_)
  obtain ⟨σ2, e2⟩ : ∃ z : Rg, z = upd σ 0 (0 : Int32) := ⟨_, rfl⟩
  have hP : va_P D vwCl (wM Ad cy σ2 μ) H := by rw [e2]; exact hP
  have h := h σ2 e2
  refine lv_iload_n hx hb dX6_power_5 rfl (lv_at hl 1 rfl) ?_
  refine lv_iconst (v := 0) hx hb dX6_power_6 (by decide) ?_
  refine lv_sipush (v := 9999) hx hb dX6_power_7 (by decide) ?_
  refine kNi (rnS (C.none) (ct_X6_within l D h) ys_X6_within wq_974 ⟨rfl, rfl⟩ ⟨Nat.le_of_ble_eq_true rfl, Nat.le_of_ble_eq_true rfl⟩ ⟨Nat.zero_le _, Nat.zero_le _⟩ trivial hl.1 rfl rfl (Nat.le_of_ble_eq_true rfl) dX6_power_10) hS (fun _ h => h.elim) (fun r10 H locs h hk hS => ?_)
  have hP := keepN hP hk
  refine lv_if_eq (tgt := 27) hx hb dX6_power_13 (by decide) (fun hc => ?_) (fun hc => ?_)
  · have h := h.1 hc
    exact wk_X6_power_27 C hap h hP hS (lv_sub hl [] rfl)
  · have h := h.2 hc
    refine lv_iload_n hx hb dX6_power_16 rfl (lv_at hl 2 rfl) ?_
    refine lv_iconst (v := 0) hx hb dX6_power_17 (by decide) ?_
    refine lv_sipush (v := 255) hx hb dX6_power_18 (by decide) ?_
    refine kNi (rnS (C.none) (ct_X6_within l D h) ys_X6_within wq_974 ⟨rfl, rfl⟩ ⟨Nat.le_of_ble_eq_true rfl, Nat.le_of_ble_eq_true rfl⟩ ⟨Nat.zero_le _, Nat.zero_le _⟩ trivial hl.1 rfl rfl (Nat.le_of_ble_eq_true rfl) dX6_power_21) hS (fun _ h => h.elim) (fun r21 H locs h hk hS => ?_)
    have hP := keepN hP hk
    refine lv_if_ne (tgt := 29) hx hb dX6_power_24 (by decide) (fun hc => ?_) (fun hc => ?_)
    · have h := h.1 hc
      refine lv_aload_n hx hb dX6_power_29 rfl (lv_at hl 0 rfl) ?_
      refine gM_model_x C hP (C.2.2.2.2.2.2.1 _ wq_924) dX6_power_30 ?_
      refine lv_iconst (v := 4) hx hb dX6_power_33 (by decide) ?_
      refine lv_iload_n hx hb dX6_power_34 rfl (lv_at hl 1 rfl) ?_
      refine scM_0 C hap (fun _ h => h) hP hS tc_4 vi_4_810 dX6_power_35 (fun H locs hP hS => ?_)
      obtain ⟨μ35, e35⟩ : ∃ z : Ar, z = updA μ 0 (upd (μ 0) 4 x1) := ⟨_, rfl⟩
      have hP : va_P D vwCl (wM Ad cy σ2 μ35) H := by rw [e35]; exact hP
      have h := h μ35 e35
      refine lv_aload_n hx hb dX6_power_36 rfl (lv_at hl 0 rfl) ?_
      refine gM_model_x C hP (C.2.2.2.2.2.2.1 _ wq_924) dX6_power_37 ?_
      refine lv_iconst (v := 5) hx hb dX6_power_40 (by decide) ?_
      refine lv_iload_n hx hb dX6_power_41 rfl (lv_at hl 2 rfl) ?_
      refine scM_0 C hap (fun _ h => h) hP hS tc_5 vi_5_810 dX6_power_42 (fun H locs hP hS => ?_)
      obtain ⟨μ42, e42⟩ : ∃ z : Ar, z = updA μ35 0 (upd (μ35 0) 5 x2) := ⟨_, rfl⟩
      have hP : va_P D vwCl (wM Ad cy σ2 μ42) H := by rw [e42]; exact hP
      have h := h μ42 e42
      refine lv_iconst (v := 1) hx hb dX6_power_43 (by decide) ?_
      exact endZ C hS bz1 ⟨_, _, _, rfl, h, hP⟩ dX6_power_44
    · have h := h.2 hc
      exact wk_X6_power_27 C hap h hP hS (lv_sub hl [] rfl)
abbrev rmX6_rot : Room := { frames := 2, cells := 0, slots := 0, locals := 43 }
def wb_X6_rot_47 (Q : Int32 → Rg → Ar → Prop) (σ : Rg) (μ : Ar) : Prop := Q (-1 : Int32) σ μ
set_option maxHeartbeats 4000000 in
set_option maxRecDepth 100000 in
theorem wk_X6_rot_47 {p : Program} {l : Launch} {e : Env} {s : State} {m : MethodId} {args : Array Value} {below : List Frame} {meth : Method} {c : Code} {D : va_G} {cy : ClassId} {Ad : Nat → Nat} (C : Cx p s m args meth c RX6 cX6_rot 4 (some FieldType.int) D [(cy, .int)]) (hap : apt 8 Ad) {Q : Int32 → Rg → Ar → Prop} {σ : Rg} {μ : Ar}  {H : Heap} {locs : List Loc} {ls : Array Slot} (h : wb_X6_rot_47 Q σ μ) (hP : va_P D vwCl (wM Ad cy σ μ) H) (hS : va_S (AS 8 Ad) s.heap H locs) (hl : lv_has ls 4 []) : W p l e rmX6_rot s m args below meth c H locs 0 0 (MQ below (Qcg (PWi (wM Ad cy) D Q) (AS 8 Ad)) args s 0 0 (AS 8 Ad)) (F0 m 47 ls []) := by
  have hx := C.1
  have hb := C.2.1
  refine lv_iconst (v := -1) hx hb dX6_rot_47 (by decide) ?_
  exact endI C hS ⟨_, _, _, rfl, h, hP⟩ dX6_rot_48
def wp_X6_rot (σ : Rg) (μ : Ar) (x1 : Int32) (x2 : Int32) (x3 : Int32) (Q : Int32 → Rg → Ar → Prop) : Prop := ∀ σ2 : Rg, σ2 = upd σ 0 (0 : Int32) → (wp_X6_isOn σ2 μ  (fun r6 σ6 μ6 => ((¬ r6 = 0 → wb_X6_rot_47 Q σ6 μ6) ∧ (r6 = 0 → wp_X6_isSector σ6 μ6 x1 (fun r14 σ14 μ14 => ((r14 = 0 → wb_X6_rot_47 Q σ14 μ14) ∧ (¬ r14 = 0 → wp_X6_within x2 (0 : Int32) ((μ14 0 1) - (1 : Int32)) (fun r30 => ((r30 = 0 → wb_X6_rot_47 Q σ14 μ14) ∧ (¬ r30 = 0 → wp_X6_within x3 (0 : Int32) (255 : Int32) (fun r41 => ((¬ r41 = 0 → (vp_in (((42 : Int32) + ((128 : Int32) * x1)) + x2) 810) ∧ ((vp_in (((42 : Int32) + ((128 : Int32) * x1)) + x2) 810) ∧ (∀ μ67 : Ar, μ67 = updA μ14 0 (upd (μ14 0) ((((42 : Int32) + ((128 : Int32) * x1)) + x2)).toNatClampNeg ((μ14 0 ((((42 : Int32) + ((128 : Int32) * x1)) + x2)).toNatClampNeg) &&& x3)) → (wp_X6_byteAt σ14 μ67 x1 x2 (fun r71 σ71 μ71 => Q r71 σ71 μ71))))) ∧ (r41 = 0 → wb_X6_rot_47 Q σ14 μ14)))))))))))))
set_option maxHeartbeats 4000000 in
set_option maxRecDepth 100000 in
theorem ct_X6_rot (l : Launch) (D : va_G) (cy : ClassId) (Ad : Nat → Nat) (hap : apt 8 Ad) {σ : Rg} {μ : Ar} {x1 : Int32} {x2 : Int32} {x3 : Int32} {Q : Int32 → Rg → Ar → Prop} (h : wp_X6_rot σ μ x1 x2 x3 Q) : Ct l yX6_rot cX6_rot 4 (some FieldType.int) rmX6_rot D [(cy, .int)] (fun H => va_P D vwCl (wM Ad cy σ μ) H) [.ref (Ad 0), .int x1, .int x2, .int x3] (AS 8 Ad) (PWi (wM Ad cy) D Q) := by
  refine Ct.of (by decide) (Nat.le_of_ble_eq_true rfl) ?_
  intro p e s m below meth c ls C hP hl
  have hl : lv_has ls 4 [(0, .ref (Ad 0)), (1, .int x1), (2, .int x2), (3, .int x3)] := hl
  have hS : va_S (AS 8 Ad) s.heap s.heap [] := va_S.rf
  have hx := C.1
  have hb := C.2.1
  refine lv_aload_n hx hb dX6_rot_0 rfl (lv_at hl 0 rfl) ?_
  refine lv_iconst (v := 0) hx hb dX6_rot_1 (by decide) ?_
  refine pM_model_thrown C hap (fun _ h => h) hP hS (C.2.2.2.2.2.2.1 _ wq_926) dX6_rot_2 (fun H locs hP hS => ?_)
  obtain ⟨σ2, e2⟩ : ∃ z : Rg, z = upd σ 0 (0 : Int32) := ⟨_, rfl⟩
  have hP : va_P D vwCl (wM Ad cy σ2 μ) H := by rw [e2]; exact hP
  have h := h σ2 e2
  refine lv_aload_n hx hb dX6_rot_5 rfl (lv_at hl 0 rfl) ?_
  refine kWi (rnV C (ct_X6_isOn l D cy Ad hap h) yv_X6_isOn wq_981 ⟨rfl, rfl⟩ ⟨Nat.le_of_ble_eq_true rfl, Nat.le_of_ble_eq_true rfl⟩ ⟨Nat.zero_le _, Nat.zero_le _⟩ (vM_model C hP) hP hl.1 rfl rfl (Nat.le_of_ble_eq_true rfl) dX6_rot_6) hS (fun _ h => h) (fun r6 σ6 μ6 H locs h hP hk hS => ?_)
  refine lv_if_ne (tgt := 47) hx hb dX6_rot_9 (by decide) (fun hc => ?_) (fun hc => ?_)
  · have h := h.1 hc
    exact wk_X6_rot_47 C hap h hP hS (lv_sub hl [] rfl)
  · have h := h.2 hc
    refine lv_aload_n hx hb dX6_rot_12 rfl (lv_at hl 0 rfl) ?_
    refine lv_iload_n hx hb dX6_rot_13 rfl (lv_at hl 1 rfl) ?_
    refine kWi (rnV C (ct_X6_isSector l D cy Ad hap h) yv_X6_isSector wq_1084 ⟨rfl, rfl⟩ ⟨Nat.le_of_ble_eq_true rfl, Nat.le_of_ble_eq_true rfl⟩ ⟨Nat.zero_le _, Nat.zero_le _⟩ (vM_model C hP) hP hl.1 rfl rfl (Nat.le_of_ble_eq_true rfl) dX6_rot_14) hS (fun _ h => h) (fun r14 σ14 μ14 H locs h hP hk hS => ?_)
    refine lv_if_eq (tgt := 47) hx hb dX6_rot_17 (by decide) (fun hc => ?_) (fun hc => ?_)
    · have h := h.1 hc
      exact wk_X6_rot_47 C hap h hP hS (lv_sub hl [] rfl)
    · have h := h.2 hc
      refine lv_iload_n hx hb dX6_rot_20 rfl (lv_at hl 2 rfl) ?_
      refine lv_iconst (v := 0) hx hb dX6_rot_21 (by decide) ?_
      refine lv_aload_n hx hb dX6_rot_22 rfl (lv_at hl 0 rfl) ?_
      refine gM_model_x C hP (C.2.2.2.2.2.2.1 _ wq_924) dX6_rot_23 ?_
      refine lv_iconst (v := 1) hx hb dX6_rot_26 (by decide) ?_
      refine lcM_0 C hP tc_1 vi_1_810 dX6_rot_27 ?_
      refine lv_iconst (v := 1) hx hb dX6_rot_28 (by decide) ?_
      refine lv_isub hx hb dX6_rot_29 ?_
      refine kNi (rnS (C.none) (ct_X6_within l D h) ys_X6_within wq_974 ⟨rfl, rfl⟩ ⟨Nat.le_of_ble_eq_true rfl, Nat.le_of_ble_eq_true rfl⟩ ⟨Nat.zero_le _, Nat.zero_le _⟩ trivial hl.1 rfl rfl (Nat.le_of_ble_eq_true rfl) dX6_rot_30) hS (fun _ h => h.elim) (fun r30 H locs h hk hS => ?_)
      have hP := keepN hP hk
      refine lv_if_eq (tgt := 47) hx hb dX6_rot_33 (by decide) (fun hc => ?_) (fun hc => ?_)
      · have h := h.1 hc
        exact wk_X6_rot_47 C hap h hP hS (lv_sub hl [] rfl)
      · have h := h.2 hc
        refine lv_iload_n hx hb dX6_rot_36 rfl (lv_at hl 3 rfl) ?_
        refine lv_iconst (v := 0) hx hb dX6_rot_37 (by decide) ?_
        refine lv_sipush (v := 255) hx hb dX6_rot_38 (by decide) ?_
        refine kNi (rnS (C.none) (ct_X6_within l D h) ys_X6_within wq_974 ⟨rfl, rfl⟩ ⟨Nat.le_of_ble_eq_true rfl, Nat.le_of_ble_eq_true rfl⟩ ⟨Nat.zero_le _, Nat.zero_le _⟩ trivial hl.1 rfl rfl (Nat.le_of_ble_eq_true rfl) dX6_rot_41) hS (fun _ h => h.elim) (fun r41 H locs h hk hS => ?_)
        have hP := keepN hP hk
        refine lv_if_ne (tgt := 49) hx hb dX6_rot_44 (by decide) (fun hc => ?_) (fun hc => ?_)
        · have h := h.1 hc
          refine lv_aload_n hx hb dX6_rot_49 rfl (lv_at hl 0 rfl) ?_
          refine gM_model_x C hP (C.2.2.2.2.2.2.1 _ wq_924) dX6_rot_50 ?_
          refine lv_bipush (v := 42) hx hb dX6_rot_53 (by decide) ?_
          refine lv_sipush (v := 128) hx hb dX6_rot_55 (by decide) ?_
          refine lv_iload_n hx hb dX6_rot_58 rfl (lv_at hl 1 rfl) ?_
          refine lv_imul hx hb dX6_rot_59 ?_
          refine lv_iadd hx hb dX6_rot_60 ?_
          refine lv_iload_n hx hb dX6_rot_61 rfl (lv_at hl 2 rfl) ?_
          refine lv_iadd hx hb dX6_rot_62 ?_
          refine lv_dup2_11 hx hb dX6_rot_63 rfl rfl ?_
          obtain ⟨hc, h⟩ := h
          refine lM_0 C hP hc dX6_rot_64 ?_
          refine lv_iload_n hx hb dX6_rot_65 rfl (lv_at hl 3 rfl) ?_
          refine lv_iand hx hb dX6_rot_66 ?_
          obtain ⟨hc, h⟩ := h
          refine sM_0 C hap (fun _ h => h) hP hS hc dX6_rot_67 (fun H locs hP hS => ?_)
          obtain ⟨μ67, e67⟩ : ∃ z : Ar, z = updA μ14 0 (upd (μ14 0) ((((42 : Int32) + ((128 : Int32) * x1)) + x2)).toNatClampNeg ((μ14 0 ((((42 : Int32) + ((128 : Int32) * x1)) + x2)).toNatClampNeg) &&& x3)) := ⟨_, rfl⟩
          have hP : va_P D vwCl (wM Ad cy σ14 μ67) H := by rw [e67]; exact hP
          have h := h μ67 e67
          refine lv_aload_n hx hb dX6_rot_68 rfl (lv_at hl 0 rfl) ?_
          refine lv_iload_n hx hb dX6_rot_69 rfl (lv_at hl 1 rfl) ?_
          refine lv_iload_n hx hb dX6_rot_70 rfl (lv_at hl 2 rfl) ?_
          refine kWi (rnV C (ct_X6_byteAt l D cy Ad hap h) yv_X6_byteAt wq_997 ⟨rfl, rfl⟩ ⟨Nat.le_of_ble_eq_true rfl, Nat.le_of_ble_eq_true rfl⟩ ⟨Nat.zero_le _, Nat.zero_le _⟩ (vM_model C hP) hP hl.1 rfl rfl (Nat.le_of_ble_eq_true rfl) dX6_rot_71) hS (fun _ h => h) (fun r71 σ71 μ71 H locs h hP hk hS => ?_)
          exact endI C hS ⟨_, _, _, rfl, h, hP⟩ dX6_rot_74
        · have h := h.2 hc
          exact wk_X6_rot_47 C hap h hP hS (lv_sub hl [] rfl)
abbrev rmX6_lays : Room := { frames := 2, cells := 0, slots := 0, locals := 44 }
def wp_X6_lays (σ : Rg) (μ : Ar) (x1 : Int32) (Q : Rg → Ar → Prop) : Prop := wp_X6_writes σ μ (σ 5) (σ 6) x1 (fun σ10 μ10 => ∀ σ20 : Rg, σ20 = upd σ10 6 ((σ10 6) + (1 : Int32)) → (∀ σ30 : Rg, σ30 = upd σ20 7 ((σ20 7) + x1) → (Q σ30 μ10)))
set_option maxHeartbeats 4000000 in
set_option maxRecDepth 100000 in
theorem ct_X6_lays (l : Launch) (D : va_G) (cy : ClassId) (Ad : Nat → Nat) (hap : apt 8 Ad) {σ : Rg} {μ : Ar} {x1 : Int32} {Q : Rg → Ar → Prop} (h : wp_X6_lays σ μ x1 Q) : Ct l yX6_lays cX6_lays 2 (none : Option FieldType) rmX6_lays D [(cy, .int)] (fun H => va_P D vwCl (wM Ad cy σ μ) H) [.ref (Ad 0), .int x1] (AS 8 Ad) (PWv (wM Ad cy) D Q) := by
  refine Ct.of (by decide) (Nat.le_of_ble_eq_true rfl) ?_
  intro p e s m below meth c ls C hP hl
  have hl : lv_has ls 2 [(0, .ref (Ad 0)), (1, .int x1)] := hl
  have hS : va_S (AS 8 Ad) s.heap s.heap [] := va_S.rf
  have hx := C.1
  have hb := C.2.1
  refine lv_aload_n hx hb dX6_lays_0 rfl (lv_at hl 0 rfl) ?_
  refine lv_aload_n hx hb dX6_lays_1 rfl (lv_at hl 0 rfl) ?_
  refine gM_model_toSector C hP (C.2.2.2.2.2.2.1 _ wq_936) dX6_lays_2 ?_
  refine lv_aload_n hx hb dX6_lays_5 rfl (lv_at hl 0 rfl) ?_
  refine gM_model_toPlace C hP (C.2.2.2.2.2.2.1 _ wq_937) dX6_lays_6 ?_
  refine lv_iload_n hx hb dX6_lays_9 rfl (lv_at hl 1 rfl) ?_
  refine kWv (rnV C (ct_X6_writes l D cy Ad hap h) yv_X6_writes wq_1032 ⟨rfl, rfl⟩ ⟨Nat.le_of_ble_eq_true rfl, Nat.le_of_ble_eq_true rfl⟩ ⟨Nat.zero_le _, Nat.zero_le _⟩ (vM_model C hP) hP hl.1 rfl rfl (Nat.le_of_ble_eq_true rfl) dX6_lays_10) hS (fun _ h => h) (fun σ10 μ10 H locs h hP hk hS => ?_)
  refine lv_aload_n hx hb dX6_lays_13 rfl (lv_at hl 0 rfl) ?_
  refine lv_dup hx hb dX6_lays_14 rfl ?_
  refine gM_model_toPlace C hP (C.2.2.2.2.2.2.1 _ wq_937) dX6_lays_15 ?_
  refine lv_iconst (v := 1) hx hb dX6_lays_18 (by decide) ?_
  refine lv_iadd hx hb dX6_lays_19 ?_
  refine pM_model_toPlace C hap (fun _ h => h) hP hS (C.2.2.2.2.2.2.1 _ wq_937) dX6_lays_20 (fun H locs hP hS => ?_)
  obtain ⟨σ20, e20⟩ : ∃ z : Rg, z = upd σ10 6 ((σ10 6) + (1 : Int32)) := ⟨_, rfl⟩
  have hP : va_P D vwCl (wM Ad cy σ20 μ10) H := by rw [e20]; exact hP
  have h := h σ20 e20
  refine lv_aload_n hx hb dX6_lays_23 rfl (lv_at hl 0 rfl) ?_
  refine lv_dup hx hb dX6_lays_24 rfl ?_
  refine gM_model_sum C hP (C.2.2.2.2.2.2.1 _ wq_938) dX6_lays_25 ?_
  refine lv_iload_n hx hb dX6_lays_28 rfl (lv_at hl 1 rfl) ?_
  refine lv_iadd hx hb dX6_lays_29 ?_
  refine pM_model_sum C hap (fun _ h => h) hP hS (C.2.2.2.2.2.2.1 _ wq_938) dX6_lays_30 (fun H locs hP hS => ?_)
  obtain ⟨σ30, e30⟩ : ∃ z : Rg, z = upd σ20 7 ((σ20 7) + x1) := ⟨_, rfl⟩
  have hP : va_P D vwCl (wM Ad cy σ30 μ10) H := by rw [e30]; exact hP
  have h := h σ30 e30
  exact endV C hS ⟨_, _, rfl, h, hP⟩ dX6_lays_33
abbrev rmX6_laysCheck : Room := { frames := 3, cells := 0, slots := 0, locals := 65 }
def wp_X6_laysCheck (σ : Rg) (μ : Ar) (Q : Rg → Ar → Prop) : Prop := wp_X6_check (σ 7) (fun r5 => wp_X6_lays σ μ r5 (fun σ8 μ8 => Q σ8 μ8))
set_option maxHeartbeats 4000000 in
set_option maxRecDepth 100000 in
theorem ct_X6_laysCheck (l : Launch) (D : va_G) (cy : ClassId) (Ad : Nat → Nat) (hap : apt 8 Ad) {σ : Rg} {μ : Ar}  {Q : Rg → Ar → Prop} (h : wp_X6_laysCheck σ μ  Q) : Ct l yX6_laysCheck cX6_laysCheck 1 (none : Option FieldType) rmX6_laysCheck D [(cy, .int)] (fun H => va_P D vwCl (wM Ad cy σ μ) H) [.ref (Ad 0)] (AS 8 Ad) (PWv (wM Ad cy) D Q) := by
  refine Ct.of (by decide) (Nat.le_of_ble_eq_true rfl) ?_
  intro p e s m below meth c ls C hP hl
  have hl : lv_has ls 1 [(0, .ref (Ad 0))] := hl
  have hS : va_S (AS 8 Ad) s.heap s.heap [] := va_S.rf
  have hx := C.1
  have hb := C.2.1
  refine lv_aload_n hx hb dX6_laysCheck_0 rfl (lv_at hl 0 rfl) ?_
  refine lv_aload_n hx hb dX6_laysCheck_1 rfl (lv_at hl 0 rfl) ?_
  refine gM_model_sum C hP (C.2.2.2.2.2.2.1 _ wq_938) dX6_laysCheck_2 ?_
  refine kNi (rnS (C.none) (ct_X6_check l D h) ys_X6_check wq_1001 ⟨rfl, rfl⟩ ⟨Nat.le_of_ble_eq_true rfl, Nat.le_of_ble_eq_true rfl⟩ ⟨Nat.zero_le _, Nat.zero_le _⟩ trivial hl.1 rfl rfl (Nat.le_of_ble_eq_true rfl) dX6_laysCheck_5) hS (fun _ h => h.elim) (fun r5 H locs h hk hS => ?_)
  have hP := keepN hP hk
  refine kWv (rnV C (ct_X6_lays l D cy Ad hap h) yv_X6_lays wq_1147 ⟨rfl, rfl⟩ ⟨Nat.le_of_ble_eq_true rfl, Nat.le_of_ble_eq_true rfl⟩ ⟨Nat.zero_le _, Nat.zero_le _⟩ (vM_model C hP) hP hl.1 rfl rfl (Nat.le_of_ble_eq_true rfl) dX6_laysCheck_8) hS (fun _ h => h) (fun σ8 μ8 H locs h hP hk hS => ?_)
  exact endV C hS ⟨_, _, rfl, h, hP⟩ dX6_laysCheck_11
abbrev rmX6_laysSetting : Room := { frames := 4, cells := 0, slots := 0, locals := 85 }
def wb_X6_laysSetting_22 (Q : Rg → Ar → Prop) (k22 : Rg → Ar → Int64 → Int32 → Prop) (σ : Rg) (μ : Ar) (v4 : Int64) (v6 : Int32) : Prop := ((v6 < 0 → wp_X6_laysCheck σ μ  (fun σ51 μ51 => Q σ51 μ51)) ∧ (¬ v6 < 0 → wp_X6_lays σ μ (((v4 >>> ((((8 : Int32) * v6)).toInt64 &&& 63))).toInt32 &&& (255 : Int32)) (fun σ41 μ41 => ∀ y44 : Int32, y44 = v6 + (-1 : Int32) → (k22 σ41 μ41 v4 y44))))
set_option maxHeartbeats 4000000 in
set_option maxRecDepth 100000 in
theorem wk_X6_laysSetting_22 {p : Program} {l : Launch} {e : Env} {s : State} {m : MethodId} {args : Array Value} {below : List Frame} {meth : Method} {c : Code} {D : va_G} {cy : ClassId} {Ad : Nat → Nat} (C : Cx p s m args meth c RX6 cX6_laysSetting 7 (none : Option FieldType) D [(cy, .int)]) (hap : apt 8 Ad) {Q : Rg → Ar → Prop} {k22 : Rg → Ar → Int64 → Int32 → Prop} (hk22 : ∀ {σ : Rg} {μ : Ar} {v4 : Int64} {v6 : Int32} {H : Heap} {locs : List Loc} {ls : Array Slot}, k22 σ μ v4 v6 → va_P D vwCl (wM Ad cy σ μ) H → va_S (AS 8 Ad) s.heap H locs → lv_has ls 7 [(0, .ref (Ad 0)), (4, .long v4), (6, .int v6)] → W p l e rmX6_laysSetting s m args below meth c H locs 0 0 (MQ below (Qcg (PWv (wM Ad cy) D Q) (AS 8 Ad)) args s 0 0 (AS 8 Ad)) (F0 m 22 ls [])) {σ : Rg} {μ : Ar} {v4 : Int64} {v6 : Int32} {H : Heap} {locs : List Loc} {ls : Array Slot} (h : wb_X6_laysSetting_22 Q k22 σ μ v4 v6) (hP : va_P D vwCl (wM Ad cy σ μ) H) (hS : va_S (AS 8 Ad) s.heap H locs) (hl : lv_has ls 7 [(0, .ref (Ad 0)), (4, .long v4), (6, .int v6)]) : W p l e rmX6_laysSetting s m args below meth c H locs 0 0 (MQ below (Qcg (PWv (wM Ad cy) D Q) (AS 8 Ad)) args s 0 0 (AS 8 Ad)) (F0 m 22 ls []) := by
  have hx := C.1
  have hb := C.2.1
  refine lv_iload hx hb dX6_laysSetting_22 (lv_at hl 2 rfl) ?_
  refine lv_if_lt (tgt := 50) hx hb dX6_laysSetting_24 (by decide) (fun hc => ?_) (fun hc => ?_)
  · have h := h.1 hc
    refine lv_aload_n hx hb dX6_laysSetting_50 rfl (lv_at hl 0 rfl) ?_
    refine kWv (rnV C (ct_X6_laysCheck l D cy Ad hap h) yv_X6_laysCheck wq_1151 ⟨rfl, rfl⟩ ⟨Nat.le_of_ble_eq_true rfl, Nat.le_of_ble_eq_true rfl⟩ ⟨Nat.zero_le _, Nat.zero_le _⟩ (vM_model C hP) hP hl.1 rfl rfl (Nat.le_of_ble_eq_true rfl) dX6_laysSetting_51) hS (fun _ h => h) (fun σ51 μ51 H locs h hP hk hS => ?_)
    exact endV C hS ⟨_, _, rfl, h, hP⟩ dX6_laysSetting_54
  · have h := h.2 hc
    refine lv_aload_n hx hb dX6_laysSetting_27 rfl (lv_at hl 0 rfl) ?_
    refine lv_lload hx hb dX6_laysSetting_28 (lv_at hl 1 rfl) ?_
    refine lv_bipush (v := 8) hx hb dX6_laysSetting_30 (by decide) ?_
    refine lv_iload hx hb dX6_laysSetting_32 (lv_at hl 2 rfl) ?_
    refine lv_imul hx hb dX6_laysSetting_34 ?_
    refine lv_lshr hx hb dX6_laysSetting_35 rfl ?_
    refine lv_l2i hx hb dX6_laysSetting_36 rfl ?_
    refine lv_sipush (v := 255) hx hb dX6_laysSetting_37 (by decide) ?_
    refine lv_iand hx hb dX6_laysSetting_40 ?_
    refine kWv (rnV C (ct_X6_lays l D cy Ad hap h) yv_X6_lays wq_1147 ⟨rfl, rfl⟩ ⟨Nat.le_of_ble_eq_true rfl, Nat.le_of_ble_eq_true rfl⟩ ⟨Nat.zero_le _, Nat.zero_le _⟩ (vM_model C hP) hP hl.1 rfl rfl (Nat.le_of_ble_eq_true rfl) dX6_laysSetting_41) hS (fun _ h => h) (fun σ41 μ41 H locs h hP hk hS => ?_)
    obtain ⟨y44, e44⟩ : ∃ y : Int32, y = v6 + (-1 : Int32) := ⟨_, rfl⟩
    have h := h y44 e44
    refine lv_iinc (v := y44) (lv' := [(6, .int y44), (0, .ref (Ad 0)), (4, .long v4)]) hx hb dX6_laysSetting_44 hl (k := 2) rfl (by rw [e44]; rfl) (by decide) rfl (fun ls hl => ?_)
    refine lv_goto (tgt := 22) hx hb dX6_laysSetting_47 (by decide) ?_
    exact hk22 h hP hS (lv_sub hl [1, 2, 0] rfl)
def wl_X6_laysSetting_22 (Q : Rg → Ar → Prop) (n : Nat) : Rg → Ar → Int64 → Int32 → Prop := Nat.rec (motive := fun _ => Rg → Ar → Int64 → Int32 → Prop) (fun _ _ _ _ => False) (fun _ k => wb_X6_laysSetting_22 Q k) n
set_option maxHeartbeats 4000000 in
theorem wkl_X6_laysSetting_22 {p : Program} {l : Launch} {e : Env} {s : State} {m : MethodId} {args : Array Value} {below : List Frame} {meth : Method} {c : Code} {D : va_G} {cy : ClassId} {Ad : Nat → Nat} (C : Cx p s m args meth c RX6 cX6_laysSetting 7 (none : Option FieldType) D [(cy, .int)]) (hap : apt 8 Ad) {Q : Rg → Ar → Prop}  : ∀ (n : Nat) {σ : Rg} {μ : Ar} {v4 : Int64} {v6 : Int32} {H : Heap} {locs : List Loc} {ls : Array Slot} (h : wl_X6_laysSetting_22 Q  n σ μ v4 v6) (hP : va_P D vwCl (wM Ad cy σ μ) H) (hS : va_S (AS 8 Ad) s.heap H locs) (hl : lv_has ls 7 [(0, .ref (Ad 0)), (4, .long v4), (6, .int v6)]), W p l e rmX6_laysSetting s m args below meth c H locs 0 0 (MQ below (Qcg (PWv (wM Ad cy) D Q) (AS 8 Ad)) args s 0 0 (AS 8 Ad)) (F0 m 22 ls []) := by
  intro n
  induction n with
  | zero => intro σ μ v4 v6 H locs ls h; exact h.elim
  | succ n ih =>
    intro σ μ v4 v6 H locs ls h hP hS hl
    exact wk_X6_laysSetting_22 C hap (fun h hP hS hl => ih h hP hS hl) h hP hS hl
def wp_X6_laysSetting (σ : Rg) (μ : Ar) (x1 : Int32) (x2 : Int32) (x3 : Int32) (x4 : Int64) (Q : Rg → Ar → Prop) : Prop := ∀ σ2 : Rg, σ2 = upd σ 7 (0 : Int32) → (wp_X6_lays σ2 μ x2 (fun σ7 μ7 => wp_X6_lays σ7 μ7 (x1 + x3) (fun σ14 μ14 => ∀ y20 : Int32, y20 = (x3 - (1 : Int32)) → (∃ n, wl_X6_laysSetting_22 Q n σ14 μ14 x4 y20))))
set_option maxHeartbeats 4000000 in
set_option maxRecDepth 100000 in
theorem ct_X6_laysSetting (l : Launch) (D : va_G) (cy : ClassId) (Ad : Nat → Nat) (hap : apt 8 Ad) {σ : Rg} {μ : Ar} {x1 : Int32} {x2 : Int32} {x3 : Int32} {x4 : Int64} {Q : Rg → Ar → Prop} (h : wp_X6_laysSetting σ μ x1 x2 x3 x4 Q) : Ct l yX6_laysSetting cX6_laysSetting 7 (none : Option FieldType) rmX6_laysSetting D [(cy, .int)] (fun H => va_P D vwCl (wM Ad cy σ μ) H) [.ref (Ad 0), .int x1, .int x2, .int x3, .long x4] (AS 8 Ad) (PWv (wM Ad cy) D Q) := by
  refine Ct.of (by decide) (Nat.le_of_ble_eq_true rfl) ?_
  intro p e s m below meth c ls C hP hl
  have hl : lv_has ls 7 [(0, .ref (Ad 0)), (1, .int x1), (2, .int x2), (3, .int x3), (4, .long x4)] := hl
  have hS : va_S (AS 8 Ad) s.heap s.heap [] := va_S.rf
  have hx := C.1
  have hb := C.2.1
  refine lv_aload_n hx hb dX6_laysSetting_0 rfl (lv_at hl 0 rfl) ?_
  refine lv_iconst (v := 0) hx hb dX6_laysSetting_1 (by decide) ?_
  refine pM_model_sum C hap (fun _ h => h) hP hS (C.2.2.2.2.2.2.1 _ wq_938) dX6_laysSetting_2 (fun H locs hP hS => ?_)
  obtain ⟨σ2, e2⟩ : ∃ z : Rg, z = upd σ 7 (0 : Int32) := ⟨_, rfl⟩
  have hP : va_P D vwCl (wM Ad cy σ2 μ) H := by rw [e2]; exact hP
  have h := h σ2 e2
  refine lv_aload_n hx hb dX6_laysSetting_5 rfl (lv_at hl 0 rfl) ?_
  refine lv_iload_n hx hb dX6_laysSetting_6 rfl (lv_at hl 2 rfl) ?_
  refine kWv (rnV C (ct_X6_lays l D cy Ad hap h) yv_X6_lays wq_1147 ⟨rfl, rfl⟩ ⟨Nat.le_of_ble_eq_true rfl, Nat.le_of_ble_eq_true rfl⟩ ⟨Nat.zero_le _, Nat.zero_le _⟩ (vM_model C hP) hP hl.1 rfl rfl (Nat.le_of_ble_eq_true rfl) dX6_laysSetting_7) hS (fun _ h => h) (fun σ7 μ7 H locs h hP hk hS => ?_)
  refine lv_aload_n hx hb dX6_laysSetting_10 rfl (lv_at hl 0 rfl) ?_
  refine lv_iload_n hx hb dX6_laysSetting_11 rfl (lv_at hl 1 rfl) ?_
  refine lv_iload_n hx hb dX6_laysSetting_12 rfl (lv_at hl 3 rfl) ?_
  refine lv_iadd hx hb dX6_laysSetting_13 ?_
  refine kWv (rnV C (ct_X6_lays l D cy Ad hap h) yv_X6_lays wq_1147 ⟨rfl, rfl⟩ ⟨Nat.le_of_ble_eq_true rfl, Nat.le_of_ble_eq_true rfl⟩ ⟨Nat.zero_le _, Nat.zero_le _⟩ (vM_model C hP) hP hl.1 rfl rfl (Nat.le_of_ble_eq_true rfl) dX6_laysSetting_14) hS (fun _ h => h) (fun σ14 μ14 H locs h hP hk hS => ?_)
  refine lv_iload_n hx hb dX6_laysSetting_17 rfl (lv_at hl 3 rfl) ?_
  refine lv_iconst (v := 1) hx hb dX6_laysSetting_18 (by decide) ?_
  refine lv_isub hx hb dX6_laysSetting_19 ?_
  refine lv_topi (fun y20 e20 => ?_)
  have h := h y20 e20
  refine lv_istore (lv' := [(6, .int y20), (0, .ref (Ad 0)), (1, .int x1), (2, .int x2), (3, .int x3), (4, .long x4)]) hx hb dX6_laysSetting_20 hl (by decide) rfl (fun ls hl => ?_)
  obtain ⟨n, h⟩ := h
  exact wkl_X6_laysSetting_22 C hap n h hP hS (lv_sub hl [1, 5, 0] rfl)
abbrev rmX6_laysCounter : Room := { frames := 4, cells := 0, slots := 0, locals := 85 }
def wp_X6_laysCounter (σ : Rg) (μ : Ar) (x1 : Int32) (x2 : Int32) (Q : Rg → Ar → Prop) : Prop := ∀ σ2 : Rg, σ2 = upd σ 7 (0 : Int32) → (wp_X6_lays σ2 μ x1 (fun σ7 μ7 => wp_X6_lays σ7 μ7 (43 : Int32) (fun σ13 μ13 => wp_X6_lays σ13 μ13 ((x2 >>> ((16 : Int32) &&& 31)) &&& (255 : Int32)) (fun σ25 μ25 => wp_X6_lays σ25 μ25 ((x2 >>> ((8 : Int32) &&& 31)) &&& (255 : Int32)) (fun σ37 μ37 => wp_X6_lays σ37 μ37 (x2 &&& (255 : Int32)) (fun σ46 μ46 => wp_X6_laysCheck σ46 μ46  (fun σ50 μ50 => ∀ σ61 : Rg, σ61 = upd σ50 6 ((σ50 6) + (8 : Int32)) → (Q σ61 μ50))))))))
set_option maxHeartbeats 4000000 in
set_option maxRecDepth 100000 in
theorem ct_X6_laysCounter (l : Launch) (D : va_G) (cy : ClassId) (Ad : Nat → Nat) (hap : apt 8 Ad) {σ : Rg} {μ : Ar} {x1 : Int32} {x2 : Int32} {Q : Rg → Ar → Prop} (h : wp_X6_laysCounter σ μ x1 x2 Q) : Ct l yX6_laysCounter cX6_laysCounter 3 (none : Option FieldType) rmX6_laysCounter D [(cy, .int)] (fun H => va_P D vwCl (wM Ad cy σ μ) H) [.ref (Ad 0), .int x1, .int x2] (AS 8 Ad) (PWv (wM Ad cy) D Q) := by
  refine Ct.of (by decide) (Nat.le_of_ble_eq_true rfl) ?_
  intro p e s m below meth c ls C hP hl
  have hl : lv_has ls 3 [(0, .ref (Ad 0)), (1, .int x1), (2, .int x2)] := hl
  have hS : va_S (AS 8 Ad) s.heap s.heap [] := va_S.rf
  have hx := C.1
  have hb := C.2.1
  refine lv_aload_n hx hb dX6_laysCounter_0 rfl (lv_at hl 0 rfl) ?_
  refine lv_iconst (v := 0) hx hb dX6_laysCounter_1 (by decide) ?_
  refine pM_model_sum C hap (fun _ h => h) hP hS (C.2.2.2.2.2.2.1 _ wq_938) dX6_laysCounter_2 (fun H locs hP hS => ?_)
  obtain ⟨σ2, e2⟩ : ∃ z : Rg, z = upd σ 7 (0 : Int32) := ⟨_, rfl⟩
  have hP : va_P D vwCl (wM Ad cy σ2 μ) H := by rw [e2]; exact hP
  have h := h σ2 e2
  refine lv_aload_n hx hb dX6_laysCounter_5 rfl (lv_at hl 0 rfl) ?_
  refine lv_iload_n hx hb dX6_laysCounter_6 rfl (lv_at hl 1 rfl) ?_
  refine kWv (rnV C (ct_X6_lays l D cy Ad hap h) yv_X6_lays wq_1147 ⟨rfl, rfl⟩ ⟨Nat.le_of_ble_eq_true rfl, Nat.le_of_ble_eq_true rfl⟩ ⟨Nat.zero_le _, Nat.zero_le _⟩ (vM_model C hP) hP hl.1 rfl rfl (Nat.le_of_ble_eq_true rfl) dX6_laysCounter_7) hS (fun _ h => h) (fun σ7 μ7 H locs h hP hk hS => ?_)
  refine lv_aload_n hx hb dX6_laysCounter_10 rfl (lv_at hl 0 rfl) ?_
  refine lv_bipush (v := 43) hx hb dX6_laysCounter_11 (by decide) ?_
  refine kWv (rnV C (ct_X6_lays l D cy Ad hap h) yv_X6_lays wq_1147 ⟨rfl, rfl⟩ ⟨Nat.le_of_ble_eq_true rfl, Nat.le_of_ble_eq_true rfl⟩ ⟨Nat.zero_le _, Nat.zero_le _⟩ (vM_model C hP) hP hl.1 rfl rfl (Nat.le_of_ble_eq_true rfl) dX6_laysCounter_13) hS (fun _ h => h) (fun σ13 μ13 H locs h hP hk hS => ?_)
  refine lv_aload_n hx hb dX6_laysCounter_16 rfl (lv_at hl 0 rfl) ?_
  refine lv_iload_n hx hb dX6_laysCounter_17 rfl (lv_at hl 2 rfl) ?_
  refine lv_bipush (v := 16) hx hb dX6_laysCounter_18 (by decide) ?_
  refine lv_ishr hx hb dX6_laysCounter_20 ?_
  refine lv_sipush (v := 255) hx hb dX6_laysCounter_21 (by decide) ?_
  refine lv_iand hx hb dX6_laysCounter_24 ?_
  refine kWv (rnV C (ct_X6_lays l D cy Ad hap h) yv_X6_lays wq_1147 ⟨rfl, rfl⟩ ⟨Nat.le_of_ble_eq_true rfl, Nat.le_of_ble_eq_true rfl⟩ ⟨Nat.zero_le _, Nat.zero_le _⟩ (vM_model C hP) hP hl.1 rfl rfl (Nat.le_of_ble_eq_true rfl) dX6_laysCounter_25) hS (fun _ h => h) (fun σ25 μ25 H locs h hP hk hS => ?_)
  refine lv_aload_n hx hb dX6_laysCounter_28 rfl (lv_at hl 0 rfl) ?_
  refine lv_iload_n hx hb dX6_laysCounter_29 rfl (lv_at hl 2 rfl) ?_
  refine lv_bipush (v := 8) hx hb dX6_laysCounter_30 (by decide) ?_
  refine lv_ishr hx hb dX6_laysCounter_32 ?_
  refine lv_sipush (v := 255) hx hb dX6_laysCounter_33 (by decide) ?_
  refine lv_iand hx hb dX6_laysCounter_36 ?_
  refine kWv (rnV C (ct_X6_lays l D cy Ad hap h) yv_X6_lays wq_1147 ⟨rfl, rfl⟩ ⟨Nat.le_of_ble_eq_true rfl, Nat.le_of_ble_eq_true rfl⟩ ⟨Nat.zero_le _, Nat.zero_le _⟩ (vM_model C hP) hP hl.1 rfl rfl (Nat.le_of_ble_eq_true rfl) dX6_laysCounter_37) hS (fun _ h => h) (fun σ37 μ37 H locs h hP hk hS => ?_)
  refine lv_aload_n hx hb dX6_laysCounter_40 rfl (lv_at hl 0 rfl) ?_
  refine lv_iload_n hx hb dX6_laysCounter_41 rfl (lv_at hl 2 rfl) ?_
  refine lv_sipush (v := 255) hx hb dX6_laysCounter_42 (by decide) ?_
  refine lv_iand hx hb dX6_laysCounter_45 ?_
  refine kWv (rnV C (ct_X6_lays l D cy Ad hap h) yv_X6_lays wq_1147 ⟨rfl, rfl⟩ ⟨Nat.le_of_ble_eq_true rfl, Nat.le_of_ble_eq_true rfl⟩ ⟨Nat.zero_le _, Nat.zero_le _⟩ (vM_model C hP) hP hl.1 rfl rfl (Nat.le_of_ble_eq_true rfl) dX6_laysCounter_46) hS (fun _ h => h) (fun σ46 μ46 H locs h hP hk hS => ?_)
  refine lv_aload_n hx hb dX6_laysCounter_49 rfl (lv_at hl 0 rfl) ?_
  refine kWv (rnV C (ct_X6_laysCheck l D cy Ad hap h) yv_X6_laysCheck wq_1151 ⟨rfl, rfl⟩ ⟨Nat.le_of_ble_eq_true rfl, Nat.le_of_ble_eq_true rfl⟩ ⟨Nat.zero_le _, Nat.zero_le _⟩ (vM_model C hP) hP hl.1 rfl rfl (Nat.le_of_ble_eq_true rfl) dX6_laysCounter_50) hS (fun _ h => h) (fun σ50 μ50 H locs h hP hk hS => ?_)
  refine lv_aload_n hx hb dX6_laysCounter_53 rfl (lv_at hl 0 rfl) ?_
  refine lv_dup hx hb dX6_laysCounter_54 rfl ?_
  refine gM_model_toPlace C hP (C.2.2.2.2.2.2.1 _ wq_937) dX6_laysCounter_55 ?_
  refine lv_bipush (v := 8) hx hb dX6_laysCounter_58 (by decide) ?_
  refine lv_iadd hx hb dX6_laysCounter_60 ?_
  refine pM_model_toPlace C hap (fun _ h => h) hP hS (C.2.2.2.2.2.2.1 _ wq_937) dX6_laysCounter_61 (fun H locs hP hS => ?_)
  obtain ⟨σ61, e61⟩ : ∃ z : Rg, z = upd σ50 6 ((σ50 6) + (8 : Int32)) := ⟨_, rfl⟩
  have hP : va_P D vwCl (wM Ad cy σ61 μ50) H := by rw [e61]; exact hP
  have h := h σ61 e61
  exact endV C hS ⟨_, _, rfl, h, hP⟩ dX6_laysCounter_64
abbrev rmX6_sizeNext : Room := { frames := 3, cells := 0, slots := 0, locals := 66 }
def wb_X6_sizeNext_55 (Q : Int32 → Rg → Ar → Prop) (k4 : Rg → Ar → Int32 → Int32 → Int32 → Prop) (σ : Rg) (μ : Ar) (v1 : Int32) (v2 : Int32) (v3 : Int32) : Prop := ∀ y55 : Int32, y55 = v3 + (1 : Int32) → (k4 σ μ v1 v2 y55)
set_option maxHeartbeats 4000000 in
set_option maxRecDepth 100000 in
theorem wk_X6_sizeNext_55 {p : Program} {l : Launch} {e : Env} {s : State} {m : MethodId} {args : Array Value} {below : List Frame} {meth : Method} {c : Code} {D : va_G} {cy : ClassId} {Ad : Nat → Nat} (C : Cx p s m args meth c RX6 cX6_sizeNext 4 (some FieldType.int) D [(cy, .int)]) (hap : apt 8 Ad) {Q : Int32 → Rg → Ar → Prop} {k4 : Rg → Ar → Int32 → Int32 → Int32 → Prop} (hk4 : ∀ {σ : Rg} {μ : Ar} {v1 : Int32} {v2 : Int32} {v3 : Int32} {H : Heap} {locs : List Loc} {ls : Array Slot}, k4 σ μ v1 v2 v3 → va_P D vwCl (wM Ad cy σ μ) H → va_S (AS 8 Ad) s.heap H locs → lv_has ls 4 [(0, .ref (Ad 0)), (1, .int v1), (2, .int v2), (3, .int v3)] → W p l e rmX6_sizeNext s m args below meth c H locs 0 0 (MQ below (Qcg (PWi (wM Ad cy) D Q) (AS 8 Ad)) args s 0 0 (AS 8 Ad)) (F0 m 4 ls [])) {σ : Rg} {μ : Ar} {v1 : Int32} {v2 : Int32} {v3 : Int32} {H : Heap} {locs : List Loc} {ls : Array Slot} (h : wb_X6_sizeNext_55 Q k4 σ μ v1 v2 v3) (hP : va_P D vwCl (wM Ad cy σ μ) H) (hS : va_S (AS 8 Ad) s.heap H locs) (hl : lv_has ls 4 [(0, .ref (Ad 0)), (1, .int v1), (2, .int v2), (3, .int v3)]) : W p l e rmX6_sizeNext s m args below meth c H locs 0 0 (MQ below (Qcg (PWi (wM Ad cy) D Q) (AS 8 Ad)) args s 0 0 (AS 8 Ad)) (F0 m 55 ls []) := by
  have hx := C.1
  have hb := C.2.1
  obtain ⟨y55, e55⟩ : ∃ y : Int32, y = v3 + (1 : Int32) := ⟨_, rfl⟩
  have h := h y55 e55
  refine lv_iinc (v := y55) (lv' := [(3, .int y55), (0, .ref (Ad 0)), (1, .int v1), (2, .int v2)]) hx hb dX6_sizeNext_55 hl (k := 3) rfl (by rw [e55]; rfl) (by decide) rfl (fun ls hl => ?_)
  refine lv_goto (tgt := 4) hx hb dX6_sizeNext_58 (by decide) ?_
  exact hk4 h hP hS (lv_sub hl [1, 2, 3, 0] rfl)
def wb_X6_sizeNext_53 (Q : Int32 → Rg → Ar → Prop) (k4 : Rg → Ar → Int32 → Int32 → Int32 → Prop) (σ : Rg) (μ : Ar) (v1 : Int32) (v3 : Int32) (t0 : Int32) (t1 : Int32) : Prop := ∀ y54 : Int32, y54 = (t1 + t0) → (wb_X6_sizeNext_55 Q k4 σ μ v1 y54 v3)
set_option maxHeartbeats 4000000 in
set_option maxRecDepth 100000 in
theorem wk_X6_sizeNext_53 {p : Program} {l : Launch} {e : Env} {s : State} {m : MethodId} {args : Array Value} {below : List Frame} {meth : Method} {c : Code} {D : va_G} {cy : ClassId} {Ad : Nat → Nat} (C : Cx p s m args meth c RX6 cX6_sizeNext 4 (some FieldType.int) D [(cy, .int)]) (hap : apt 8 Ad) {Q : Int32 → Rg → Ar → Prop} {k4 : Rg → Ar → Int32 → Int32 → Int32 → Prop} (hk4 : ∀ {σ : Rg} {μ : Ar} {v1 : Int32} {v2 : Int32} {v3 : Int32} {H : Heap} {locs : List Loc} {ls : Array Slot}, k4 σ μ v1 v2 v3 → va_P D vwCl (wM Ad cy σ μ) H → va_S (AS 8 Ad) s.heap H locs → lv_has ls 4 [(0, .ref (Ad 0)), (1, .int v1), (2, .int v2), (3, .int v3)] → W p l e rmX6_sizeNext s m args below meth c H locs 0 0 (MQ below (Qcg (PWi (wM Ad cy) D Q) (AS 8 Ad)) args s 0 0 (AS 8 Ad)) (F0 m 4 ls [])) {σ : Rg} {μ : Ar} {v1 : Int32} {v3 : Int32} {t0 : Int32} {t1 : Int32} {H : Heap} {locs : List Loc} {ls : Array Slot} (h : wb_X6_sizeNext_53 Q k4 σ μ v1 v3 t0 t1) (hP : va_P D vwCl (wM Ad cy σ μ) H) (hS : va_S (AS 8 Ad) s.heap H locs) (hl : lv_has ls 4 [(0, .ref (Ad 0)), (1, .int v1), (3, .int v3)]) : W p l e rmX6_sizeNext s m args below meth c H locs 0 0 (MQ below (Qcg (PWi (wM Ad cy) D Q) (AS 8 Ad)) args s 0 0 (AS 8 Ad)) (F0 m 53 ls [.int t0, .int t1]) := by
  have hx := C.1
  have hb := C.2.1
  refine lv_iadd hx hb dX6_sizeNext_53 ?_
  refine lv_topi (fun y54 e54 => ?_)
  have h := h y54 e54
  refine lv_istore_n (lv' := [(2, .int y54), (0, .ref (Ad 0)), (1, .int v1), (3, .int v3)]) hx hb dX6_sizeNext_54 rfl hl (by decide) rfl (fun ls hl => ?_)
  exact wk_X6_sizeNext_55 C hap hk4 h hP hS (lv_sub hl [1, 2, 0, 3] rfl)
def wb_X6_sizeNext_4 (Q : Int32 → Rg → Ar → Prop) (k4 : Rg → Ar → Int32 → Int32 → Int32 → Prop) (σ : Rg) (μ : Ar) (v1 : Int32) (v2 : Int32) (v3 : Int32) : Prop := (((48 : Int32) ≤ v3 → Q v2 σ μ) ∧ (¬ (48 : Int32) ≤ v3 → wp_X6_hasValue σ μ v1 v3 (fun r13 σ13 μ13 => ((r13 = 0 → wb_X6_sizeNext_55 Q k4 σ13 μ13 v1 v2 v3) ∧ (¬ r13 = 0 → (vp_in v3 48) ∧ ((vp_in (μ13 6 (v3).toNatClampNeg) 64) ∧ (((¬ (μ13 3 ((μ13 6 (v3).toNatClampNeg)).toNatClampNeg) = (1 : Int32) → (vp_in v3 48) ∧ (wp_X6_lengthOf σ13 μ13 v1 (μ13 6 (v3).toNatClampNeg) (fun r49 σ49 μ49 => wb_X6_sizeNext_53 Q k4 σ49 μ49 v1 v3 ((3 : Int32) + r49) v2))) ∧ ((μ13 3 ((μ13 6 (v3).toNatClampNeg)).toNatClampNeg) = (1 : Int32) → wb_X6_sizeNext_53 Q k4 σ13 μ13 v1 v3 (14 : Int32) v2)))))))))
set_option maxHeartbeats 4000000 in
set_option maxRecDepth 100000 in
theorem wk_X6_sizeNext_4 {p : Program} {l : Launch} {e : Env} {s : State} {m : MethodId} {args : Array Value} {below : List Frame} {meth : Method} {c : Code} {D : va_G} {cy : ClassId} {Ad : Nat → Nat} (C : Cx p s m args meth c RX6 cX6_sizeNext 4 (some FieldType.int) D [(cy, .int)]) (hap : apt 8 Ad) {Q : Int32 → Rg → Ar → Prop} {k4 : Rg → Ar → Int32 → Int32 → Int32 → Prop} (hk4 : ∀ {σ : Rg} {μ : Ar} {v1 : Int32} {v2 : Int32} {v3 : Int32} {H : Heap} {locs : List Loc} {ls : Array Slot}, k4 σ μ v1 v2 v3 → va_P D vwCl (wM Ad cy σ μ) H → va_S (AS 8 Ad) s.heap H locs → lv_has ls 4 [(0, .ref (Ad 0)), (1, .int v1), (2, .int v2), (3, .int v3)] → W p l e rmX6_sizeNext s m args below meth c H locs 0 0 (MQ below (Qcg (PWi (wM Ad cy) D Q) (AS 8 Ad)) args s 0 0 (AS 8 Ad)) (F0 m 4 ls [])) {σ : Rg} {μ : Ar} {v1 : Int32} {v2 : Int32} {v3 : Int32} {H : Heap} {locs : List Loc} {ls : Array Slot} (h : wb_X6_sizeNext_4 Q k4 σ μ v1 v2 v3) (hP : va_P D vwCl (wM Ad cy σ μ) H) (hS : va_S (AS 8 Ad) s.heap H locs) (hl : lv_has ls 4 [(0, .ref (Ad 0)), (1, .int v1), (2, .int v2), (3, .int v3)]) : W p l e rmX6_sizeNext s m args below meth c H locs 0 0 (MQ below (Qcg (PWi (wM Ad cy) D Q) (AS 8 Ad)) args s 0 0 (AS 8 Ad)) (F0 m 4 ls []) := by
  have hx := C.1
  have hb := C.2.1
  refine lv_iload_n hx hb dX6_sizeNext_4 rfl (lv_at hl 3 rfl) ?_
  refine lv_bipush (v := 48) hx hb dX6_sizeNext_5 (by decide) ?_
  refine lv_icmp_ge (tgt := 61) hx hb dX6_sizeNext_7 (by decide) (fun hc => ?_) (fun hc => ?_)
  · have h := h.1 hc
    refine lv_iload_n hx hb dX6_sizeNext_61 rfl (lv_at hl 2 rfl) ?_
    exact endI C hS ⟨_, _, _, rfl, h, hP⟩ dX6_sizeNext_62
  · have h := h.2 hc
    refine lv_aload_n hx hb dX6_sizeNext_10 rfl (lv_at hl 0 rfl) ?_
    refine lv_iload_n hx hb dX6_sizeNext_11 rfl (lv_at hl 1 rfl) ?_
    refine lv_iload_n hx hb dX6_sizeNext_12 rfl (lv_at hl 3 rfl) ?_
    refine kWi (rnV C (ct_X6_hasValue l D cy Ad hap h) yv_X6_hasValue wq_1064 ⟨rfl, rfl⟩ ⟨Nat.le_of_ble_eq_true rfl, Nat.le_of_ble_eq_true rfl⟩ ⟨Nat.zero_le _, Nat.zero_le _⟩ (vM_model C hP) hP hl.1 rfl rfl (Nat.le_of_ble_eq_true rfl) dX6_sizeNext_13) hS (fun _ h => h) (fun r13 σ13 μ13 H locs h hP hk hS => ?_)
    refine lv_if_eq (tgt := 55) hx hb dX6_sizeNext_16 (by decide) (fun hc => ?_) (fun hc => ?_)
    · have h := h.1 hc
      exact wk_X6_sizeNext_55 C hap hk4 h hP hS (lv_sub hl [0, 1, 2, 3] rfl)
    · have h := h.2 hc
      refine lv_iload_n hx hb dX6_sizeNext_19 rfl (lv_at hl 2 rfl) ?_
      refine lv_aload_n hx hb dX6_sizeNext_20 rfl (lv_at hl 0 rfl) ?_
      refine gM_model_sort C hP (C.2.2.2.2.2.2.1 _ wq_932) dX6_sizeNext_21 ?_
      refine lv_aload_n hx hb dX6_sizeNext_24 rfl (lv_at hl 0 rfl) ?_
      refine gM_model_newest C hP (C.2.2.2.2.2.2.1 _ wq_935) dX6_sizeNext_25 ?_
      refine lv_iload_n hx hb dX6_sizeNext_28 rfl (lv_at hl 3 rfl) ?_
      obtain ⟨hc, h⟩ := h
      refine lM_6 C hP hc dX6_sizeNext_29 ?_
      obtain ⟨hc, h⟩ := h
      refine lM_3 C hP hc dX6_sizeNext_30 ?_
      refine lv_iconst (v := 1) hx hb dX6_sizeNext_31 (by decide) ?_
      refine lv_icmp_ne (tgt := 40) hx hb dX6_sizeNext_32 (by decide) (fun hc => ?_) (fun hc => ?_)
      · have h := h.1 hc
        refine lv_iconst (v := 3) hx hb dX6_sizeNext_40 (by decide) ?_
        refine lv_aload_n hx hb dX6_sizeNext_41 rfl (lv_at hl 0 rfl) ?_
        refine lv_iload_n hx hb dX6_sizeNext_42 rfl (lv_at hl 1 rfl) ?_
        refine lv_aload_n hx hb dX6_sizeNext_43 rfl (lv_at hl 0 rfl) ?_
        refine gM_model_newest C hP (C.2.2.2.2.2.2.1 _ wq_935) dX6_sizeNext_44 ?_
        refine lv_iload_n hx hb dX6_sizeNext_47 rfl (lv_at hl 3 rfl) ?_
        obtain ⟨hc, h⟩ := h
        refine lM_6 C hP hc dX6_sizeNext_48 ?_
        refine kWi (rnV C (ct_X6_lengthOf l D cy Ad hap h) yv_X6_lengthOf wq_1068 ⟨rfl, rfl⟩ ⟨Nat.le_of_ble_eq_true rfl, Nat.le_of_ble_eq_true rfl⟩ ⟨Nat.zero_le _, Nat.zero_le _⟩ (vM_model C hP) hP hl.1 rfl rfl (Nat.le_of_ble_eq_true rfl) dX6_sizeNext_49) hS (fun _ h => h) (fun r49 σ49 μ49 H locs h hP hk hS => ?_)
        refine lv_iadd hx hb dX6_sizeNext_52 ?_
        exact wk_X6_sizeNext_53 C hap hk4 h hP hS (lv_sub hl [0, 1, 3] rfl)
      · have h := h.2 hc
        refine lv_bipush (v := 14) hx hb dX6_sizeNext_35 (by decide) ?_
        refine lv_goto (tgt := 53) hx hb dX6_sizeNext_37 (by decide) ?_
        exact wk_X6_sizeNext_53 C hap hk4 h hP hS (lv_sub hl [0, 1, 3] rfl)
def wl_X6_sizeNext_4 (Q : Int32 → Rg → Ar → Prop) (n : Nat) : Rg → Ar → Int32 → Int32 → Int32 → Prop := Nat.rec (motive := fun _ => Rg → Ar → Int32 → Int32 → Int32 → Prop) (fun _ _ _ _ _ => False) (fun _ k => wb_X6_sizeNext_4 Q k) n
set_option maxHeartbeats 4000000 in
theorem wkl_X6_sizeNext_4 {p : Program} {l : Launch} {e : Env} {s : State} {m : MethodId} {args : Array Value} {below : List Frame} {meth : Method} {c : Code} {D : va_G} {cy : ClassId} {Ad : Nat → Nat} (C : Cx p s m args meth c RX6 cX6_sizeNext 4 (some FieldType.int) D [(cy, .int)]) (hap : apt 8 Ad) {Q : Int32 → Rg → Ar → Prop}  : ∀ (n : Nat) {σ : Rg} {μ : Ar} {v1 : Int32} {v2 : Int32} {v3 : Int32} {H : Heap} {locs : List Loc} {ls : Array Slot} (h : wl_X6_sizeNext_4 Q  n σ μ v1 v2 v3) (hP : va_P D vwCl (wM Ad cy σ μ) H) (hS : va_S (AS 8 Ad) s.heap H locs) (hl : lv_has ls 4 [(0, .ref (Ad 0)), (1, .int v1), (2, .int v2), (3, .int v3)]), W p l e rmX6_sizeNext s m args below meth c H locs 0 0 (MQ below (Qcg (PWi (wM Ad cy) D Q) (AS 8 Ad)) args s 0 0 (AS 8 Ad)) (F0 m 4 ls []) := by
  intro n
  induction n with
  | zero => intro σ μ v1 v2 v3 H locs ls h; exact h.elim
  | succ n ih =>
    intro σ μ v1 v2 v3 H locs ls h hP hS hl
    exact wk_X6_sizeNext_4 C hap (fun h hP hS hl => ih h hP hS hl) h hP hS hl
def wp_X6_sizeNext (σ : Rg) (μ : Ar) (x1 : Int32) (Q : Int32 → Rg → Ar → Prop) : Prop := ∃ n, wl_X6_sizeNext_4 Q n σ μ x1 (4 : Int32) (0 : Int32)
set_option maxHeartbeats 4000000 in
set_option maxRecDepth 100000 in
theorem ct_X6_sizeNext (l : Launch) (D : va_G) (cy : ClassId) (Ad : Nat → Nat) (hap : apt 8 Ad) {σ : Rg} {μ : Ar} {x1 : Int32} {Q : Int32 → Rg → Ar → Prop} (h : wp_X6_sizeNext σ μ x1 Q) : Ct l yX6_sizeNext cX6_sizeNext 4 (some FieldType.int) rmX6_sizeNext D [(cy, .int)] (fun H => va_P D vwCl (wM Ad cy σ μ) H) [.ref (Ad 0), .int x1] (AS 8 Ad) (PWi (wM Ad cy) D Q) := by
  refine Ct.of (by decide) (Nat.le_of_ble_eq_true rfl) ?_
  intro p e s m below meth c ls C hP hl
  have hl : lv_has ls 4 [(0, .ref (Ad 0)), (1, .int x1)] := hl
  have hS : va_S (AS 8 Ad) s.heap s.heap [] := va_S.rf
  have hx := C.1
  have hb := C.2.1
  refine lv_iconst (v := 4) hx hb dX6_sizeNext_0 (by decide) ?_
  refine lv_istore_n (lv' := [(2, .int (4 : Int32)), (0, .ref (Ad 0)), (1, .int x1)]) hx hb dX6_sizeNext_1 rfl hl (by decide) rfl (fun ls hl => ?_)
  refine lv_iconst (v := 0) hx hb dX6_sizeNext_2 (by decide) ?_
  refine lv_istore_n (lv' := [(3, .int (0 : Int32)), (2, .int (4 : Int32)), (0, .ref (Ad 0)), (1, .int x1)]) hx hb dX6_sizeNext_3 rfl hl (by decide) rfl (fun ls hl => ?_)
  obtain ⟨n, h⟩ := h
  exact wkl_X6_sizeNext_4 C hap n h hP hS (lv_sub hl [2, 3, 1, 0] rfl)
abbrev rmX6_handsOver : Room := { frames := 5, cells := 0, slots := 0, locals := 111 }
def wb_X6_handsOver_133 (Q : Rg → Ar → Prop) (k59 : Rg → Ar → Int32 → Int32 → Int32 → Prop) (σ : Rg) (μ : Ar) (v1 : Int32) (v2 : Int32) (v3 : Int32) : Prop := ∀ y133 : Int32, y133 = v3 + (1 : Int32) → (k59 σ μ v1 v2 y133)
set_option maxHeartbeats 4000000 in
set_option maxRecDepth 100000 in
theorem wk_X6_handsOver_133 {p : Program} {l : Launch} {e : Env} {s : State} {m : MethodId} {args : Array Value} {below : List Frame} {meth : Method} {c : Code} {D : va_G} {cy : ClassId} {Ad : Nat → Nat} (C : Cx p s m args meth c RX6 cX6_handsOver 5 (none : Option FieldType) D [(cy, .int)]) (hap : apt 8 Ad) {Q : Rg → Ar → Prop} {k59 : Rg → Ar → Int32 → Int32 → Int32 → Prop} (hk59 : ∀ {σ : Rg} {μ : Ar} {v1 : Int32} {v2 : Int32} {v3 : Int32} {H : Heap} {locs : List Loc} {ls : Array Slot}, k59 σ μ v1 v2 v3 → va_P D vwCl (wM Ad cy σ μ) H → va_S (AS 8 Ad) s.heap H locs → lv_has ls 5 [(0, .ref (Ad 0)), (1, .int v1), (2, .int v2), (3, .int v3)] → W p l e rmX6_handsOver s m args below meth c H locs 0 0 (MQ below (Qcg (PWv (wM Ad cy) D Q) (AS 8 Ad)) args s 0 0 (AS 8 Ad)) (F0 m 59 ls [])) {σ : Rg} {μ : Ar} {v1 : Int32} {v2 : Int32} {v3 : Int32} {H : Heap} {locs : List Loc} {ls : Array Slot} (h : wb_X6_handsOver_133 Q k59 σ μ v1 v2 v3) (hP : va_P D vwCl (wM Ad cy σ μ) H) (hS : va_S (AS 8 Ad) s.heap H locs) (hl : lv_has ls 5 [(0, .ref (Ad 0)), (1, .int v1), (2, .int v2), (3, .int v3)]) : W p l e rmX6_handsOver s m args below meth c H locs 0 0 (MQ below (Qcg (PWv (wM Ad cy) D Q) (AS 8 Ad)) args s 0 0 (AS 8 Ad)) (F0 m 133 ls []) := by
  have hx := C.1
  have hb := C.2.1
  obtain ⟨y133, e133⟩ : ∃ y : Int32, y = v3 + (1 : Int32) := ⟨_, rfl⟩
  have h := h y133 e133
  refine lv_iinc (v := y133) (lv' := [(3, .int y133), (0, .ref (Ad 0)), (1, .int v1), (2, .int v2)]) hx hb dX6_handsOver_133 hl (k := 3) rfl (by rw [e133]; rfl) (by decide) rfl (fun ls hl => ?_)
  refine lv_goto (tgt := 59) hx hb dX6_handsOver_136 (by decide) ?_
  exact hk59 h hP hS (lv_sub hl [1, 2, 3, 0] rfl)
def wb_X6_handsOver_59 (Q : Rg → Ar → Prop) (k59 : Rg → Ar → Int32 → Int32 → Int32 → Prop) (σ : Rg) (μ : Ar) (v1 : Int32) (v2 : Int32) (v3 : Int32) : Prop := (((48 : Int32) ≤ v3 → wp_X6_writes σ μ v2 (0 : Int32) (63 : Int32) (fun σ144 μ144 => wp_X6_erases σ144 μ144 v1 (fun σ149 μ149 => (((σ149 1) = 0 → ∀ μ166 : Ar, μ166 = updA μ149 0 (upd (μ149 0) 3 v2) → (∀ μ177 : Ar, μ177 = updA μ166 0 (upd (μ166 0) 7 ((μ166 0 7) + (1 : Int32))) → (Q σ149 μ177))) ∧ (¬ (σ149 1) = 0 → Q σ149 μ149))))) ∧ (¬ (48 : Int32) ≤ v3 → wp_X6_hasValue σ μ v1 v3 (fun r68 σ68 μ68 => ((¬ r68 = 0 → (vp_in v3 48) ∧ (∀ y83 : Int32, y83 = (μ68 6 (v3).toNatClampNeg) → ((vp_in y83 64) ∧ (((¬ (μ68 3 (y83).toNatClampNeg) = (1 : Int32) → wp_X6_lengthOf σ68 μ68 v1 y83 (fun r120 σ120 μ120 => wp_X6_valueOf σ120 μ120 v1 y83 (fun r127 σ127 μ127 => wp_X6_laysSetting σ127 μ127 (16 : Int32) v3 r120 r127 (fun σ130 μ130 => wb_X6_handsOver_133 Q k59 σ130 μ130 v1 v2 v3)))) ∧ ((μ68 3 (y83).toNatClampNeg) = (1 : Int32) → wp_X6_valueOf σ68 μ68 v1 y83 (fun r102 σ102 μ102 => wp_X6_laysCounter σ102 μ102 v3 (r102).toInt32 (fun σ106 μ106 => wb_X6_handsOver_133 Q k59 σ106 μ106 v1 v2 v3)))))))) ∧ (r68 = 0 → wb_X6_handsOver_133 Q k59 σ68 μ68 v1 v2 v3)))))
set_option maxHeartbeats 4000000 in
set_option maxRecDepth 100000 in
theorem wk_X6_handsOver_59 {p : Program} {l : Launch} {e : Env} {s : State} {m : MethodId} {args : Array Value} {below : List Frame} {meth : Method} {c : Code} {D : va_G} {cy : ClassId} {Ad : Nat → Nat} (C : Cx p s m args meth c RX6 cX6_handsOver 5 (none : Option FieldType) D [(cy, .int)]) (hap : apt 8 Ad) {Q : Rg → Ar → Prop} {k59 : Rg → Ar → Int32 → Int32 → Int32 → Prop} (hk59 : ∀ {σ : Rg} {μ : Ar} {v1 : Int32} {v2 : Int32} {v3 : Int32} {H : Heap} {locs : List Loc} {ls : Array Slot}, k59 σ μ v1 v2 v3 → va_P D vwCl (wM Ad cy σ μ) H → va_S (AS 8 Ad) s.heap H locs → lv_has ls 5 [(0, .ref (Ad 0)), (1, .int v1), (2, .int v2), (3, .int v3)] → W p l e rmX6_handsOver s m args below meth c H locs 0 0 (MQ below (Qcg (PWv (wM Ad cy) D Q) (AS 8 Ad)) args s 0 0 (AS 8 Ad)) (F0 m 59 ls [])) {σ : Rg} {μ : Ar} {v1 : Int32} {v2 : Int32} {v3 : Int32} {H : Heap} {locs : List Loc} {ls : Array Slot} (h : wb_X6_handsOver_59 Q k59 σ μ v1 v2 v3) (hP : va_P D vwCl (wM Ad cy σ μ) H) (hS : va_S (AS 8 Ad) s.heap H locs) (hl : lv_has ls 5 [(0, .ref (Ad 0)), (1, .int v1), (2, .int v2), (3, .int v3)]) : W p l e rmX6_handsOver s m args below meth c H locs 0 0 (MQ below (Qcg (PWv (wM Ad cy) D Q) (AS 8 Ad)) args s 0 0 (AS 8 Ad)) (F0 m 59 ls []) := by
  have hx := C.1
  have hb := C.2.1
  refine lv_iload_n hx hb dX6_handsOver_59 rfl (lv_at hl 3 rfl) ?_
  refine lv_bipush (v := 48) hx hb dX6_handsOver_60 (by decide) ?_
  refine lv_icmp_ge (tgt := 139) hx hb dX6_handsOver_62 (by decide) (fun hc => ?_) (fun hc => ?_)
  · have h := h.1 hc
    refine lv_aload_n hx hb dX6_handsOver_139 rfl (lv_at hl 0 rfl) ?_
    refine lv_iload_n hx hb dX6_handsOver_140 rfl (lv_at hl 2 rfl) ?_
    refine lv_iconst (v := 0) hx hb dX6_handsOver_141 (by decide) ?_
    refine lv_bipush (v := 63) hx hb dX6_handsOver_142 (by decide) ?_
    refine kWv (rnV C (ct_X6_writes l D cy Ad hap h) yv_X6_writes wq_1032 ⟨rfl, rfl⟩ ⟨Nat.le_of_ble_eq_true rfl, Nat.le_of_ble_eq_true rfl⟩ ⟨Nat.zero_le _, Nat.zero_le _⟩ (vM_model C hP) hP hl.1 rfl rfl (Nat.le_of_ble_eq_true rfl) dX6_handsOver_144) hS (fun _ h => h) (fun σ144 μ144 H locs h hP hk hS => ?_)
    refine lv_aload_n hx hb dX6_handsOver_147 rfl (lv_at hl 0 rfl) ?_
    refine lv_iload_n hx hb dX6_handsOver_148 rfl (lv_at hl 1 rfl) ?_
    refine kWv (rnV C (ct_X6_erases l D cy Ad hap h) yv_X6_erases wq_1016 ⟨rfl, rfl⟩ ⟨Nat.le_of_ble_eq_true rfl, Nat.le_of_ble_eq_true rfl⟩ ⟨Nat.zero_le _, Nat.zero_le _⟩ (vM_model C hP) hP hl.1 rfl rfl (Nat.le_of_ble_eq_true rfl) dX6_handsOver_149) hS (fun _ h => h) (fun σ149 μ149 H locs h hP hk hS => ?_)
    refine lv_aload_n hx hb dX6_handsOver_152 rfl (lv_at hl 0 rfl) ?_
    refine gM_model_isGone C hP (C.2.2.2.2.2.2.1 _ wq_927) dX6_handsOver_153 ?_
    refine lv_if_eq (tgt := 160) hx hb dX6_handsOver_156 (by decide) (fun hc => ?_) (fun hc => ?_)
    · have h := h.1 hc
      refine lv_aload_n hx hb dX6_handsOver_160 rfl (lv_at hl 0 rfl) ?_
      refine gM_model_x C hP (C.2.2.2.2.2.2.1 _ wq_924) dX6_handsOver_161 ?_
      refine lv_iconst (v := 3) hx hb dX6_handsOver_164 (by decide) ?_
      refine lv_iload_n hx hb dX6_handsOver_165 rfl (lv_at hl 2 rfl) ?_
      refine scM_0 C hap (fun _ h => h) hP hS tc_3 vi_3_810 dX6_handsOver_166 (fun H locs hP hS => ?_)
      obtain ⟨μ166, e166⟩ : ∃ z : Ar, z = updA μ149 0 (upd (μ149 0) 3 v2) := ⟨_, rfl⟩
      have hP : va_P D vwCl (wM Ad cy σ149 μ166) H := by rw [e166]; exact hP
      have h := h μ166 e166
      refine lv_aload_n hx hb dX6_handsOver_167 rfl (lv_at hl 0 rfl) ?_
      refine gM_model_x C hP (C.2.2.2.2.2.2.1 _ wq_924) dX6_handsOver_168 ?_
      refine lv_bipush (v := 7) hx hb dX6_handsOver_171 (by decide) ?_
      refine lv_dup2_11 hx hb dX6_handsOver_173 rfl rfl ?_
      refine lcM_0 C hP tc_7 vi_7_810 dX6_handsOver_174 ?_
      refine lv_iconst (v := 1) hx hb dX6_handsOver_175 (by decide) ?_
      refine lv_iadd hx hb dX6_handsOver_176 ?_
      refine scM_0 C hap (fun _ h => h) hP hS tc_7 vi_7_810 dX6_handsOver_177 (fun H locs hP hS => ?_)
      obtain ⟨μ177, e177⟩ : ∃ z : Ar, z = updA μ166 0 (upd (μ166 0) 7 ((μ166 0 7) + (1 : Int32))) := ⟨_, rfl⟩
      have hP : va_P D vwCl (wM Ad cy σ149 μ177) H := by rw [e177]; exact hP
      have h := h μ177 e177
      exact endV C hS ⟨_, _, rfl, h, hP⟩ dX6_handsOver_178
    · have h := h.2 hc
      exact endV C hS ⟨_, _, rfl, h, hP⟩ dX6_handsOver_159
  · have h := h.2 hc
    refine lv_aload_n hx hb dX6_handsOver_65 rfl (lv_at hl 0 rfl) ?_
    refine lv_iload_n hx hb dX6_handsOver_66 rfl (lv_at hl 1 rfl) ?_
    refine lv_iload_n hx hb dX6_handsOver_67 rfl (lv_at hl 3 rfl) ?_
    refine kWi (rnV C (ct_X6_hasValue l D cy Ad hap h) yv_X6_hasValue wq_1064 ⟨rfl, rfl⟩ ⟨Nat.le_of_ble_eq_true rfl, Nat.le_of_ble_eq_true rfl⟩ ⟨Nat.zero_le _, Nat.zero_le _⟩ (vM_model C hP) hP hl.1 rfl rfl (Nat.le_of_ble_eq_true rfl) dX6_handsOver_68) hS (fun _ h => h) (fun r68 σ68 μ68 H locs h hP hk hS => ?_)
    refine lv_if_ne (tgt := 77) hx hb dX6_handsOver_71 (by decide) (fun hc => ?_) (fun hc => ?_)
    · have h := h.1 hc
      refine lv_aload_n hx hb dX6_handsOver_77 rfl (lv_at hl 0 rfl) ?_
      refine gM_model_newest C hP (C.2.2.2.2.2.2.1 _ wq_935) dX6_handsOver_78 ?_
      refine lv_iload_n hx hb dX6_handsOver_81 rfl (lv_at hl 3 rfl) ?_
      obtain ⟨hc, h⟩ := h
      refine lM_6 C hP hc dX6_handsOver_82 ?_
      refine lv_topi (fun y83 e83 => ?_)
      have h := h y83 e83
      refine lv_istore (lv' := [(4, .int y83), (0, .ref (Ad 0)), (1, .int v1), (2, .int v2), (3, .int v3)]) hx hb dX6_handsOver_83 hl (by decide) rfl (fun ls hl => ?_)
      refine lv_aload_n hx hb dX6_handsOver_85 rfl (lv_at hl 1 rfl) ?_
      refine gM_model_sort C hP (C.2.2.2.2.2.2.1 _ wq_932) dX6_handsOver_86 ?_
      refine lv_iload hx hb dX6_handsOver_89 (lv_at hl 0 rfl) ?_
      obtain ⟨hc, h⟩ := h
      refine lM_3 C hP hc dX6_handsOver_91 ?_
      refine lv_iconst (v := 1) hx hb dX6_handsOver_92 (by decide) ?_
      refine lv_icmp_ne (tgt := 112) hx hb dX6_handsOver_93 (by decide) (fun hc => ?_) (fun hc => ?_)
      · have h := h.1 hc
        refine lv_aload_n hx hb dX6_handsOver_112 rfl (lv_at hl 1 rfl) ?_
        refine lv_bipush (v := 16) hx hb dX6_handsOver_113 (by decide) ?_
        refine lv_iload_n hx hb dX6_handsOver_115 rfl (lv_at hl 4 rfl) ?_
        refine lv_aload_n hx hb dX6_handsOver_116 rfl (lv_at hl 1 rfl) ?_
        refine lv_iload_n hx hb dX6_handsOver_117 rfl (lv_at hl 2 rfl) ?_
        refine lv_iload hx hb dX6_handsOver_118 (lv_at hl 0 rfl) ?_
        refine kWi (rnV C (ct_X6_lengthOf l D cy Ad hap h) yv_X6_lengthOf wq_1068 ⟨rfl, rfl⟩ ⟨Nat.le_of_ble_eq_true rfl, Nat.le_of_ble_eq_true rfl⟩ ⟨Nat.zero_le _, Nat.zero_le _⟩ (vM_model C hP) hP hl.1 rfl rfl (Nat.le_of_ble_eq_true rfl) dX6_handsOver_120) hS (fun _ h => h) (fun r120 σ120 μ120 H locs h hP hk hS => ?_)
        refine lv_aload_n hx hb dX6_handsOver_123 rfl (lv_at hl 1 rfl) ?_
        refine lv_iload_n hx hb dX6_handsOver_124 rfl (lv_at hl 2 rfl) ?_
        refine lv_iload hx hb dX6_handsOver_125 (lv_at hl 0 rfl) ?_
        refine kWl (rnV C (ct_X6_valueOf l D cy Ad hap h) yv_X6_valueOf wq_1129 ⟨rfl, rfl⟩ ⟨Nat.le_of_ble_eq_true rfl, Nat.le_of_ble_eq_true rfl⟩ ⟨Nat.zero_le _, Nat.zero_le _⟩ (vM_model C hP) hP hl.1 rfl rfl (Nat.le_of_ble_eq_true rfl) dX6_handsOver_127) hS (fun _ h => h) (fun r127 σ127 μ127 H locs h hP hk hS => ?_)
        refine kWv (rnV C (ct_X6_laysSetting l D cy Ad hap h) yv_X6_laysSetting wq_1155 ⟨rfl, rfl⟩ ⟨Nat.le_of_ble_eq_true rfl, Nat.le_of_ble_eq_true rfl⟩ ⟨Nat.zero_le _, Nat.zero_le _⟩ (vM_model C hP) hP hl.1 rfl rfl (Nat.le_of_ble_eq_true rfl) dX6_handsOver_130) hS (fun _ h => h) (fun σ130 μ130 H locs h hP hk hS => ?_)
        exact wk_X6_handsOver_133 C hap hk59 h hP hS (lv_sub hl [1, 2, 3, 4] rfl)
      · have h := h.2 hc
        refine lv_aload_n hx hb dX6_handsOver_96 rfl (lv_at hl 1 rfl) ?_
        refine lv_iload_n hx hb dX6_handsOver_97 rfl (lv_at hl 4 rfl) ?_
        refine lv_aload_n hx hb dX6_handsOver_98 rfl (lv_at hl 1 rfl) ?_
        refine lv_iload_n hx hb dX6_handsOver_99 rfl (lv_at hl 2 rfl) ?_
        refine lv_iload hx hb dX6_handsOver_100 (lv_at hl 0 rfl) ?_
        refine kWl (rnV C (ct_X6_valueOf l D cy Ad hap h) yv_X6_valueOf wq_1129 ⟨rfl, rfl⟩ ⟨Nat.le_of_ble_eq_true rfl, Nat.le_of_ble_eq_true rfl⟩ ⟨Nat.zero_le _, Nat.zero_le _⟩ (vM_model C hP) hP hl.1 rfl rfl (Nat.le_of_ble_eq_true rfl) dX6_handsOver_102) hS (fun _ h => h) (fun r102 σ102 μ102 H locs h hP hk hS => ?_)
        refine lv_l2i hx hb dX6_handsOver_105 rfl ?_
        refine kWv (rnV C (ct_X6_laysCounter l D cy Ad hap h) yv_X6_laysCounter wq_1143 ⟨rfl, rfl⟩ ⟨Nat.le_of_ble_eq_true rfl, Nat.le_of_ble_eq_true rfl⟩ ⟨Nat.zero_le _, Nat.zero_le _⟩ (vM_model C hP) hP hl.1 rfl rfl (Nat.le_of_ble_eq_true rfl) dX6_handsOver_106) hS (fun _ h => h) (fun σ106 μ106 H locs h hP hk hS => ?_)
        refine lv_goto (tgt := 133) hx hb dX6_handsOver_109 (by decide) ?_
        exact wk_X6_handsOver_133 C hap hk59 h hP hS (lv_sub hl [1, 2, 3, 4] rfl)
    · have h := h.2 hc
      refine lv_goto (tgt := 133) hx hb dX6_handsOver_74 (by decide) ?_
      exact wk_X6_handsOver_133 C hap hk59 h hP hS (lv_sub hl [0, 1, 2, 3] rfl)
def wl_X6_handsOver_59 (Q : Rg → Ar → Prop) (n : Nat) : Rg → Ar → Int32 → Int32 → Int32 → Prop := Nat.rec (motive := fun _ => Rg → Ar → Int32 → Int32 → Int32 → Prop) (fun _ _ _ _ _ => False) (fun _ k => wb_X6_handsOver_59 Q k) n
set_option maxHeartbeats 4000000 in
theorem wkl_X6_handsOver_59 {p : Program} {l : Launch} {e : Env} {s : State} {m : MethodId} {args : Array Value} {below : List Frame} {meth : Method} {c : Code} {D : va_G} {cy : ClassId} {Ad : Nat → Nat} (C : Cx p s m args meth c RX6 cX6_handsOver 5 (none : Option FieldType) D [(cy, .int)]) (hap : apt 8 Ad) {Q : Rg → Ar → Prop}  : ∀ (n : Nat) {σ : Rg} {μ : Ar} {v1 : Int32} {v2 : Int32} {v3 : Int32} {H : Heap} {locs : List Loc} {ls : Array Slot} (h : wl_X6_handsOver_59 Q  n σ μ v1 v2 v3) (hP : va_P D vwCl (wM Ad cy σ μ) H) (hS : va_S (AS 8 Ad) s.heap H locs) (hl : lv_has ls 5 [(0, .ref (Ad 0)), (1, .int v1), (2, .int v2), (3, .int v3)]), W p l e rmX6_handsOver s m args below meth c H locs 0 0 (MQ below (Qcg (PWv (wM Ad cy) D Q) (AS 8 Ad)) args s 0 0 (AS 8 Ad)) (F0 m 59 ls []) := by
  intro n
  induction n with
  | zero => intro σ μ v1 v2 v3 H locs ls h; exact h.elim
  | succ n ih =>
    intro σ μ v1 v2 v3 H locs ls h hP hS hl
    exact wk_X6_handsOver_59 C hap (fun h hP hS hl => ih h hP hS hl) h hP hS hl
def wb_X6_handsOver_27 (Q : Rg → Ar → Prop) (σ : Rg) (μ : Ar) (v1 : Int32) (v2 : Int32) : Prop := wp_X6_numberOf σ μ v1 (fun r31 σ31 μ31 => wp_X6_makesReady σ31 μ31 v2 ((r31 + (1 : Int32)) - (r31 + (1 : Int32)) / (65536 : Int32) * (65536 : Int32)) (fun σ39 μ39 => wp_X6_reads σ39 μ39 v1 (fun σ44 μ44 => ∀ σ49 : Rg, σ49 = upd σ44 5 v2 → (∀ σ54 : Rg, σ54 = upd σ49 6 (4 : Int32) → (∃ n, wl_X6_handsOver_59 Q n σ54 μ44 v1 v2 (0 : Int32))))))
set_option maxHeartbeats 4000000 in
set_option maxRecDepth 100000 in
theorem wk_X6_handsOver_27 {p : Program} {l : Launch} {e : Env} {s : State} {m : MethodId} {args : Array Value} {below : List Frame} {meth : Method} {c : Code} {D : va_G} {cy : ClassId} {Ad : Nat → Nat} (C : Cx p s m args meth c RX6 cX6_handsOver 5 (none : Option FieldType) D [(cy, .int)]) (hap : apt 8 Ad) {Q : Rg → Ar → Prop} {σ : Rg} {μ : Ar} {v1 : Int32} {v2 : Int32} {H : Heap} {locs : List Loc} {ls : Array Slot} (h : wb_X6_handsOver_27 Q σ μ v1 v2) (hP : va_P D vwCl (wM Ad cy σ μ) H) (hS : va_S (AS 8 Ad) s.heap H locs) (hl : lv_has ls 5 [(0, .ref (Ad 0)), (1, .int v1), (2, .int v2)]) : W p l e rmX6_handsOver s m args below meth c H locs 0 0 (MQ below (Qcg (PWv (wM Ad cy) D Q) (AS 8 Ad)) args s 0 0 (AS 8 Ad)) (F0 m 27 ls []) := by
  have hx := C.1
  have hb := C.2.1
  refine lv_aload_n hx hb dX6_handsOver_27 rfl (lv_at hl 0 rfl) ?_
  refine lv_iload_n hx hb dX6_handsOver_28 rfl (lv_at hl 2 rfl) ?_
  refine lv_aload_n hx hb dX6_handsOver_29 rfl (lv_at hl 0 rfl) ?_
  refine lv_iload_n hx hb dX6_handsOver_30 rfl (lv_at hl 1 rfl) ?_
  refine kWi (rnV C (ct_X6_numberOf l D cy Ad hap h) yv_X6_numberOf wq_1004 ⟨rfl, rfl⟩ ⟨Nat.le_of_ble_eq_true rfl, Nat.le_of_ble_eq_true rfl⟩ ⟨Nat.zero_le _, Nat.zero_le _⟩ (vM_model C hP) hP hl.1 rfl rfl (Nat.le_of_ble_eq_true rfl) dX6_handsOver_31) hS (fun _ h => h) (fun r31 σ31 μ31 H locs h hP hk hS => ?_)
  refine lv_iconst (v := 1) hx hb dX6_handsOver_34 (by decide) ?_
  refine lv_iadd hx hb dX6_handsOver_35 ?_
  refine lv_ldc hx hb C.2.2.2.1 (C.2.2.2.2.2.2.1 _ wq_1128) dX6_handsOver_36 ?_
  refine lv_irem hx hb dX6_handsOver_38 (by decide) ?_
  refine kWv (rnV C (ct_X6_makesReady l D cy Ad hap h) yv_X6_makesReady wq_1028 ⟨rfl, rfl⟩ ⟨Nat.le_of_ble_eq_true rfl, Nat.le_of_ble_eq_true rfl⟩ ⟨Nat.zero_le _, Nat.zero_le _⟩ (vM_model C hP) hP hl.1 rfl rfl (Nat.le_of_ble_eq_true rfl) dX6_handsOver_39) hS (fun _ h => h) (fun σ39 μ39 H locs h hP hk hS => ?_)
  refine lv_aload_n hx hb dX6_handsOver_42 rfl (lv_at hl 0 rfl) ?_
  refine lv_iload_n hx hb dX6_handsOver_43 rfl (lv_at hl 1 rfl) ?_
  refine kWv (rnV C (ct_X6_reads l D cy Ad hap h) yv_X6_reads wq_1036 ⟨rfl, rfl⟩ ⟨Nat.le_of_ble_eq_true rfl, Nat.le_of_ble_eq_true rfl⟩ ⟨Nat.zero_le _, Nat.zero_le _⟩ (vM_model C hP) hP hl.1 rfl rfl (Nat.le_of_ble_eq_true rfl) dX6_handsOver_44) hS (fun _ h => h) (fun σ44 μ44 H locs h hP hk hS => ?_)
  refine lv_aload_n hx hb dX6_handsOver_47 rfl (lv_at hl 0 rfl) ?_
  refine lv_iload_n hx hb dX6_handsOver_48 rfl (lv_at hl 2 rfl) ?_
  refine pM_model_toSector C hap (fun _ h => h) hP hS (C.2.2.2.2.2.2.1 _ wq_936) dX6_handsOver_49 (fun H locs hP hS => ?_)
  obtain ⟨σ49, e49⟩ : ∃ z : Rg, z = upd σ44 5 v2 := ⟨_, rfl⟩
  have hP : va_P D vwCl (wM Ad cy σ49 μ44) H := by rw [e49]; exact hP
  have h := h σ49 e49
  refine lv_aload_n hx hb dX6_handsOver_52 rfl (lv_at hl 0 rfl) ?_
  refine lv_iconst (v := 4) hx hb dX6_handsOver_53 (by decide) ?_
  refine pM_model_toPlace C hap (fun _ h => h) hP hS (C.2.2.2.2.2.2.1 _ wq_937) dX6_handsOver_54 (fun H locs hP hS => ?_)
  obtain ⟨σ54, e54⟩ : ∃ z : Rg, z = upd σ49 6 (4 : Int32) := ⟨_, rfl⟩
  have hP : va_P D vwCl (wM Ad cy σ54 μ44) H := by rw [e54]; exact hP
  have h := h σ54 e54
  refine lv_iconst (v := 0) hx hb dX6_handsOver_57 (by decide) ?_
  refine lv_istore_n (lv' := [(3, .int (0 : Int32)), (0, .ref (Ad 0)), (1, .int v1), (2, .int v2)]) hx hb dX6_handsOver_58 rfl hl (by decide) rfl (fun ls hl => ?_)
  obtain ⟨n, h⟩ := h
  exact wkl_X6_handsOver_59 C hap n h hP hS (lv_sub hl [1, 2, 3, 0] rfl)
def wp_X6_handsOver (σ : Rg) (μ : Ar) (Q : Rg → Ar → Prop) : Prop := ∀ y6 : Int32, y6 = (μ 0 3) → (wp_X6_leastErased σ μ y6 (fun r9 σ9 μ9 => wp_X6_isBlank σ9 μ9 r9 (0 : Int32) (fun r16 σ16 μ16 => ((¬ r16 = 0 → wb_X6_handsOver_27 Q σ16 μ16 y6 r9) ∧ (r16 = 0 → wp_X6_erases σ16 μ16 r9 (fun σ24 μ24 => wb_X6_handsOver_27 Q σ24 μ24 y6 r9))))))
set_option maxHeartbeats 4000000 in
set_option maxRecDepth 100000 in
theorem ct_X6_handsOver (l : Launch) (D : va_G) (cy : ClassId) (Ad : Nat → Nat) (hap : apt 8 Ad) {σ : Rg} {μ : Ar}  {Q : Rg → Ar → Prop} (h : wp_X6_handsOver σ μ  Q) : Ct l yX6_handsOver cX6_handsOver 5 (none : Option FieldType) rmX6_handsOver D [(cy, .int)] (fun H => va_P D vwCl (wM Ad cy σ μ) H) [.ref (Ad 0)] (AS 8 Ad) (PWv (wM Ad cy) D Q) := by
  refine Ct.of (by decide) (Nat.le_of_ble_eq_true rfl) ?_
  intro p e s m below meth c ls C hP hl
  have hl : lv_has ls 5 [(0, .ref (Ad 0))] := hl
  have hS : va_S (AS 8 Ad) s.heap s.heap [] := va_S.rf
  have hx := C.1
  have hb := C.2.1
  refine lv_aload_n hx hb dX6_handsOver_0 rfl (lv_at hl 0 rfl) ?_
  refine gM_model_x C hP (C.2.2.2.2.2.2.1 _ wq_924) dX6_handsOver_1 ?_
  refine lv_iconst (v := 3) hx hb dX6_handsOver_4 (by decide) ?_
  refine lcM_0 C hP tc_3 vi_3_810 dX6_handsOver_5 ?_
  refine lv_topi (fun y6 e6 => ?_)
  have h := h y6 e6
  refine lv_istore_n (lv' := [(1, .int y6), (0, .ref (Ad 0))]) hx hb dX6_handsOver_6 rfl hl (by decide) rfl (fun ls hl => ?_)
  refine lv_aload_n hx hb dX6_handsOver_7 rfl (lv_at hl 1 rfl) ?_
  refine lv_iload_n hx hb dX6_handsOver_8 rfl (lv_at hl 0 rfl) ?_
  refine kWi (rnV C (ct_X6_leastErased l D cy Ad hap h) yv_X6_leastErased wq_1024 ⟨rfl, rfl⟩ ⟨Nat.le_of_ble_eq_true rfl, Nat.le_of_ble_eq_true rfl⟩ ⟨Nat.zero_le _, Nat.zero_le _⟩ (vM_model C hP) hP hl.1 rfl rfl (Nat.le_of_ble_eq_true rfl) dX6_handsOver_9) hS (fun _ h => h) (fun r9 σ9 μ9 H locs h hP hk hS => ?_)
  refine lv_istore_n (lv' := [(2, .int r9), (1, .int y6), (0, .ref (Ad 0))]) hx hb dX6_handsOver_12 rfl hl (by decide) rfl (fun ls hl => ?_)
  refine lv_aload_n hx hb dX6_handsOver_13 rfl (lv_at hl 2 rfl) ?_
  refine lv_iload_n hx hb dX6_handsOver_14 rfl (lv_at hl 0 rfl) ?_
  refine lv_iconst (v := 0) hx hb dX6_handsOver_15 (by decide) ?_
  refine kWi (rnV C (ct_X6_isBlank l D cy Ad hap h) yv_X6_isBlank wq_1012 ⟨rfl, rfl⟩ ⟨Nat.le_of_ble_eq_true rfl, Nat.le_of_ble_eq_true rfl⟩ ⟨Nat.zero_le _, Nat.zero_le _⟩ (vM_model C hP) hP hl.1 rfl rfl (Nat.le_of_ble_eq_true rfl) dX6_handsOver_16) hS (fun _ h => h) (fun r16 σ16 μ16 H locs h hP hk hS => ?_)
  refine lv_if_ne (tgt := 27) hx hb dX6_handsOver_19 (by decide) (fun hc => ?_) (fun hc => ?_)
  · have h := h.1 hc
    exact wk_X6_handsOver_27 C hap h hP hS (lv_sub hl [2, 1, 0] rfl)
  · have h := h.2 hc
    refine lv_aload_n hx hb dX6_handsOver_22 rfl (lv_at hl 2 rfl) ?_
    refine lv_iload_n hx hb dX6_handsOver_23 rfl (lv_at hl 0 rfl) ?_
    refine kWv (rnV C (ct_X6_erases l D cy Ad hap h) yv_X6_erases wq_1016 ⟨rfl, rfl⟩ ⟨Nat.le_of_ble_eq_true rfl, Nat.le_of_ble_eq_true rfl⟩ ⟨Nat.zero_le _, Nat.zero_le _⟩ (vM_model C hP) hP hl.1 rfl rfl (Nat.le_of_ble_eq_true rfl) dX6_handsOver_24) hS (fun _ h => h) (fun σ24 μ24 H locs h hP hk hS => ?_)
    exact wk_X6_handsOver_27 C hap h hP hS (lv_sub hl [2, 1, 0] rfl)
abbrev rmX6_freeNow : Room := { frames := 3, cells := 0, slots := 0, locals := 72 }
def wp_X6_freeNow (σ : Rg) (μ : Ar) (Q : Int32 → Rg → Ar → Prop) : Prop := wp_X6_reads σ μ (μ 0 3) (fun σ7 μ7 => Q ((μ7 0 1) - (σ7 3)) σ7 μ7)
set_option maxHeartbeats 4000000 in
set_option maxRecDepth 100000 in
theorem ct_X6_freeNow (l : Launch) (D : va_G) (cy : ClassId) (Ad : Nat → Nat) (hap : apt 8 Ad) {σ : Rg} {μ : Ar}  {Q : Int32 → Rg → Ar → Prop} (h : wp_X6_freeNow σ μ  Q) : Ct l yX6_freeNow cX6_freeNow 1 (some FieldType.int) rmX6_freeNow D [(cy, .int)] (fun H => va_P D vwCl (wM Ad cy σ μ) H) [.ref (Ad 0)] (AS 8 Ad) (PWi (wM Ad cy) D Q) := by
  refine Ct.of (by decide) (Nat.le_of_ble_eq_true rfl) ?_
  intro p e s m below meth c ls C hP hl
  have hl : lv_has ls 1 [(0, .ref (Ad 0))] := hl
  have hS : va_S (AS 8 Ad) s.heap s.heap [] := va_S.rf
  have hx := C.1
  have hb := C.2.1
  refine lv_aload_n hx hb dX6_freeNow_0 rfl (lv_at hl 0 rfl) ?_
  refine lv_aload_n hx hb dX6_freeNow_1 rfl (lv_at hl 0 rfl) ?_
  refine gM_model_x C hP (C.2.2.2.2.2.2.1 _ wq_924) dX6_freeNow_2 ?_
  refine lv_iconst (v := 3) hx hb dX6_freeNow_5 (by decide) ?_
  refine lcM_0 C hP tc_3 vi_3_810 dX6_freeNow_6 ?_
  refine kWv (rnV C (ct_X6_reads l D cy Ad hap h) yv_X6_reads wq_1036 ⟨rfl, rfl⟩ ⟨Nat.le_of_ble_eq_true rfl, Nat.le_of_ble_eq_true rfl⟩ ⟨Nat.zero_le _, Nat.zero_le _⟩ (vM_model C hP) hP hl.1 rfl rfl (Nat.le_of_ble_eq_true rfl) dX6_freeNow_7) hS (fun _ h => h) (fun σ7 μ7 H locs h hP hk hS => ?_)
  refine lv_aload_n hx hb dX6_freeNow_10 rfl (lv_at hl 0 rfl) ?_
  refine gM_model_x C hP (C.2.2.2.2.2.2.1 _ wq_924) dX6_freeNow_11 ?_
  refine lv_iconst (v := 1) hx hb dX6_freeNow_14 (by decide) ?_
  refine lcM_0 C hP tc_1 vi_1_810 dX6_freeNow_15 ?_
  refine lv_aload_n hx hb dX6_freeNow_16 rfl (lv_at hl 0 rfl) ?_
  refine gM_model_free C hP (C.2.2.2.2.2.2.1 _ wq_929) dX6_freeNow_17 ?_
  refine lv_isub hx hb dX6_freeNow_20 ?_
  exact endI C hS ⟨_, _, _, rfl, h, hP⟩ dX6_freeNow_21
abbrev rmX6_freeThen : Room := { frames := 4, cells := 0, slots := 0, locals := 89 }
def wp_X6_freeThen (σ : Rg) (μ : Ar) (Q : Int32 → Rg → Ar → Prop) : Prop := wp_X6_reads σ μ (μ 0 3) (fun σ7 μ7 => wp_X6_sizeNext σ7 μ7 (μ7 0 3) (fun r23 σ23 μ23 => Q ((μ7 0 1) - r23) σ23 μ23))
set_option maxHeartbeats 4000000 in
set_option maxRecDepth 100000 in
theorem ct_X6_freeThen (l : Launch) (D : va_G) (cy : ClassId) (Ad : Nat → Nat) (hap : apt 8 Ad) {σ : Rg} {μ : Ar}  {Q : Int32 → Rg → Ar → Prop} (h : wp_X6_freeThen σ μ  Q) : Ct l yX6_freeThen cX6_freeThen 1 (some FieldType.int) rmX6_freeThen D [(cy, .int)] (fun H => va_P D vwCl (wM Ad cy σ μ) H) [.ref (Ad 0)] (AS 8 Ad) (PWi (wM Ad cy) D Q) := by
  refine Ct.of (by decide) (Nat.le_of_ble_eq_true rfl) ?_
  intro p e s m below meth c ls C hP hl
  have hl : lv_has ls 1 [(0, .ref (Ad 0))] := hl
  have hS : va_S (AS 8 Ad) s.heap s.heap [] := va_S.rf
  have hx := C.1
  have hb := C.2.1
  refine lv_aload_n hx hb dX6_freeThen_0 rfl (lv_at hl 0 rfl) ?_
  refine lv_aload_n hx hb dX6_freeThen_1 rfl (lv_at hl 0 rfl) ?_
  refine gM_model_x C hP (C.2.2.2.2.2.2.1 _ wq_924) dX6_freeThen_2 ?_
  refine lv_iconst (v := 3) hx hb dX6_freeThen_5 (by decide) ?_
  refine lcM_0 C hP tc_3 vi_3_810 dX6_freeThen_6 ?_
  refine kWv (rnV C (ct_X6_reads l D cy Ad hap h) yv_X6_reads wq_1036 ⟨rfl, rfl⟩ ⟨Nat.le_of_ble_eq_true rfl, Nat.le_of_ble_eq_true rfl⟩ ⟨Nat.zero_le _, Nat.zero_le _⟩ (vM_model C hP) hP hl.1 rfl rfl (Nat.le_of_ble_eq_true rfl) dX6_freeThen_7) hS (fun _ h => h) (fun σ7 μ7 H locs h hP hk hS => ?_)
  refine lv_aload_n hx hb dX6_freeThen_10 rfl (lv_at hl 0 rfl) ?_
  refine gM_model_x C hP (C.2.2.2.2.2.2.1 _ wq_924) dX6_freeThen_11 ?_
  refine lv_iconst (v := 1) hx hb dX6_freeThen_14 (by decide) ?_
  refine lcM_0 C hP tc_1 vi_1_810 dX6_freeThen_15 ?_
  refine lv_aload_n hx hb dX6_freeThen_16 rfl (lv_at hl 0 rfl) ?_
  refine lv_aload_n hx hb dX6_freeThen_17 rfl (lv_at hl 0 rfl) ?_
  refine gM_model_x C hP (C.2.2.2.2.2.2.1 _ wq_924) dX6_freeThen_18 ?_
  refine lv_iconst (v := 3) hx hb dX6_freeThen_21 (by decide) ?_
  refine lcM_0 C hP tc_3 vi_3_810 dX6_freeThen_22 ?_
  refine kWi (rnV C (ct_X6_sizeNext l D cy Ad hap h) yv_X6_sizeNext wq_1120 ⟨rfl, rfl⟩ ⟨Nat.le_of_ble_eq_true rfl, Nat.le_of_ble_eq_true rfl⟩ ⟨Nat.zero_le _, Nat.zero_le _⟩ (vM_model C hP) hP hl.1 rfl rfl (Nat.le_of_ble_eq_true rfl) dX6_freeThen_23) hS (fun _ h => h) (fun r23 σ23 μ23 H locs h hP hk hS => ?_)
  refine lv_isub hx hb dX6_freeThen_26 ?_
  exact endI C hS ⟨_, _, _, rfl, h, hP⟩ dX6_freeThen_27
abbrev rmX6_makesRoom : Room := { frames := 6, cells := 0, slots := 0, locals := 135 }
def wb_X6_makesRoom_22 (Q : Int32 → Rg → Ar → Prop) (σ : Rg) (μ : Ar) : Prop := (((σ 1) = 0 → wp_X6_reads σ μ (μ 0 3) (fun σ38 μ38 => ∀ σ48 : Rg, σ48 = upd σ38 5 (μ38 0 3) → (∀ σ56 : Rg, σ56 = upd σ48 6 (σ48 3) → (Q (1 : Int32) σ56 μ38)))) ∧ (¬ (σ 1) = 0 → Q (1 : Int32) σ μ))
set_option maxHeartbeats 4000000 in
set_option maxRecDepth 100000 in
theorem wk_X6_makesRoom_22 {p : Program} {l : Launch} {e : Env} {s : State} {m : MethodId} {args : Array Value} {below : List Frame} {meth : Method} {c : Code} {D : va_G} {cy : ClassId} {Ad : Nat → Nat} (C : Cx p s m args meth c RX6 cX6_makesRoom 2 (some FieldType.boolean) D [(cy, .int)]) (hap : apt 8 Ad) {Q : Int32 → Rg → Ar → Prop} {σ : Rg} {μ : Ar}  {H : Heap} {locs : List Loc} {ls : Array Slot} (h : wb_X6_makesRoom_22 Q σ μ) (hP : va_P D vwCl (wM Ad cy σ μ) H) (hS : va_S (AS 8 Ad) s.heap H locs) (hl : lv_has ls 2 [(0, .ref (Ad 0))]) : W p l e rmX6_makesRoom s m args below meth c H locs 0 0 (MQ below (Qcg (PWi (wM Ad cy) D Q) (AS 8 Ad)) args s 0 0 (AS 8 Ad)) (F0 m 22 ls []) := by
  have hx := C.1
  have hb := C.2.1
  refine lv_aload_n hx hb dX6_makesRoom_22 rfl (lv_at hl 0 rfl) ?_
  refine gM_model_isGone C hP (C.2.2.2.2.2.2.1 _ wq_927) dX6_makesRoom_23 ?_
  refine lv_if_eq (tgt := 31) hx hb dX6_makesRoom_26 (by decide) (fun hc => ?_) (fun hc => ?_)
  · have h := h.1 hc
    refine lv_aload_n hx hb dX6_makesRoom_31 rfl (lv_at hl 0 rfl) ?_
    refine lv_aload_n hx hb dX6_makesRoom_32 rfl (lv_at hl 0 rfl) ?_
    refine gM_model_x C hP (C.2.2.2.2.2.2.1 _ wq_924) dX6_makesRoom_33 ?_
    refine lv_iconst (v := 3) hx hb dX6_makesRoom_36 (by decide) ?_
    refine lcM_0 C hP tc_3 vi_3_810 dX6_makesRoom_37 ?_
    refine kWv (rnV C (ct_X6_reads l D cy Ad hap h) yv_X6_reads wq_1036 ⟨rfl, rfl⟩ ⟨Nat.le_of_ble_eq_true rfl, Nat.le_of_ble_eq_true rfl⟩ ⟨Nat.zero_le _, Nat.zero_le _⟩ (vM_model C hP) hP hl.1 rfl rfl (Nat.le_of_ble_eq_true rfl) dX6_makesRoom_38) hS (fun _ h => h) (fun σ38 μ38 H locs h hP hk hS => ?_)
    refine lv_aload_n hx hb dX6_makesRoom_41 rfl (lv_at hl 0 rfl) ?_
    refine lv_aload_n hx hb dX6_makesRoom_42 rfl (lv_at hl 0 rfl) ?_
    refine gM_model_x C hP (C.2.2.2.2.2.2.1 _ wq_924) dX6_makesRoom_43 ?_
    refine lv_iconst (v := 3) hx hb dX6_makesRoom_46 (by decide) ?_
    refine lcM_0 C hP tc_3 vi_3_810 dX6_makesRoom_47 ?_
    refine pM_model_toSector C hap (fun _ h => h) hP hS (C.2.2.2.2.2.2.1 _ wq_936) dX6_makesRoom_48 (fun H locs hP hS => ?_)
    obtain ⟨σ48, e48⟩ : ∃ z : Rg, z = upd σ38 5 (μ38 0 3) := ⟨_, rfl⟩
    have hP : va_P D vwCl (wM Ad cy σ48 μ38) H := by rw [e48]; exact hP
    have h := h σ48 e48
    refine lv_aload_n hx hb dX6_makesRoom_51 rfl (lv_at hl 0 rfl) ?_
    refine lv_aload_n hx hb dX6_makesRoom_52 rfl (lv_at hl 0 rfl) ?_
    refine gM_model_free C hP (C.2.2.2.2.2.2.1 _ wq_929) dX6_makesRoom_53 ?_
    refine pM_model_toPlace C hap (fun _ h => h) hP hS (C.2.2.2.2.2.2.1 _ wq_937) dX6_makesRoom_56 (fun H locs hP hS => ?_)
    obtain ⟨σ56, e56⟩ : ∃ z : Rg, z = upd σ48 6 (σ48 3) := ⟨_, rfl⟩
    have hP : va_P D vwCl (wM Ad cy σ56 μ38) H := by rw [e56]; exact hP
    have h := h σ56 e56
    refine lv_iconst (v := 1) hx hb dX6_makesRoom_59 (by decide) ?_
    exact endZ C hS bz1 ⟨_, _, _, rfl, h, hP⟩ dX6_makesRoom_60
  · have h := h.2 hc
    refine lv_iconst (v := 1) hx hb dX6_makesRoom_29 (by decide) ?_
    exact endZ C hS bz1 ⟨_, _, _, rfl, h, hP⟩ dX6_makesRoom_30
def wp_X6_makesRoom (σ : Rg) (μ : Ar) (x1 : Int32) (Q : Int32 → Rg → Ar → Prop) : Prop := wp_X6_freeNow σ μ  (fun r1 σ1 μ1 => ((x1 ≤ r1 → wb_X6_makesRoom_22 Q σ1 μ1) ∧ (¬ x1 ≤ r1 → wp_X6_freeThen σ1 μ1  (fun r9 σ9 μ9 => ((x1 ≤ r9 → wp_X6_handsOver σ9 μ9  (fun σ19 μ19 => wb_X6_makesRoom_22 Q σ19 μ19)) ∧ (¬ x1 ≤ r9 → Q (0 : Int32) σ9 μ9))))))
set_option maxHeartbeats 4000000 in
set_option maxRecDepth 100000 in
theorem ct_X6_makesRoom (l : Launch) (D : va_G) (cy : ClassId) (Ad : Nat → Nat) (hap : apt 8 Ad) {σ : Rg} {μ : Ar} {x1 : Int32} {Q : Int32 → Rg → Ar → Prop} (h : wp_X6_makesRoom σ μ x1 Q) : Ct l yX6_makesRoom cX6_makesRoom 2 (some FieldType.boolean) rmX6_makesRoom D [(cy, .int)] (fun H => va_P D vwCl (wM Ad cy σ μ) H) [.ref (Ad 0), .int x1] (AS 8 Ad) (PWi (wM Ad cy) D Q) := by
  refine Ct.of (by decide) (Nat.le_of_ble_eq_true rfl) ?_
  intro p e s m below meth c ls C hP hl
  have hl : lv_has ls 2 [(0, .ref (Ad 0)), (1, .int x1)] := hl
  have hS : va_S (AS 8 Ad) s.heap s.heap [] := va_S.rf
  have hx := C.1
  have hb := C.2.1
  refine lv_aload_n hx hb dX6_makesRoom_0 rfl (lv_at hl 0 rfl) ?_
  refine kWi (rnV C (ct_X6_freeNow l D cy Ad hap h) yv_X6_freeNow wq_1112 ⟨rfl, rfl⟩ ⟨Nat.le_of_ble_eq_true rfl, Nat.le_of_ble_eq_true rfl⟩ ⟨Nat.zero_le _, Nat.zero_le _⟩ (vM_model C hP) hP hl.1 rfl rfl (Nat.le_of_ble_eq_true rfl) dX6_makesRoom_1) hS (fun _ h => h) (fun r1 σ1 μ1 H locs h hP hk hS => ?_)
  refine lv_iload_n hx hb dX6_makesRoom_4 rfl (lv_at hl 1 rfl) ?_
  refine lv_icmp_ge (tgt := 22) hx hb dX6_makesRoom_5 (by decide) (fun hc => ?_) (fun hc => ?_)
  · have h := h.1 hc
    exact wk_X6_makesRoom_22 C hap h hP hS (lv_sub hl [0] rfl)
  · have h := h.2 hc
    refine lv_aload_n hx hb dX6_makesRoom_8 rfl (lv_at hl 0 rfl) ?_
    refine kWi (rnV C (ct_X6_freeThen l D cy Ad hap h) yv_X6_freeThen wq_1116 ⟨rfl, rfl⟩ ⟨Nat.le_of_ble_eq_true rfl, Nat.le_of_ble_eq_true rfl⟩ ⟨Nat.zero_le _, Nat.zero_le _⟩ (vM_model C hP) hP hl.1 rfl rfl (Nat.le_of_ble_eq_true rfl) dX6_makesRoom_9) hS (fun _ h => h) (fun r9 σ9 μ9 H locs h hP hk hS => ?_)
    refine lv_iload_n hx hb dX6_makesRoom_12 rfl (lv_at hl 1 rfl) ?_
    refine lv_icmp_ge (tgt := 18) hx hb dX6_makesRoom_13 (by decide) (fun hc => ?_) (fun hc => ?_)
    · have h := h.1 hc
      refine lv_aload_n hx hb dX6_makesRoom_18 rfl (lv_at hl 0 rfl) ?_
      refine kWv (rnV C (ct_X6_handsOver l D cy Ad hap h) yv_X6_handsOver wq_1124 ⟨rfl, rfl⟩ ⟨Nat.le_of_ble_eq_true rfl, Nat.le_of_ble_eq_true rfl⟩ ⟨Nat.zero_le _, Nat.zero_le _⟩ (vM_model C hP) hP hl.1 rfl rfl (Nat.le_of_ble_eq_true rfl) dX6_makesRoom_19) hS (fun _ h => h) (fun σ19 μ19 H locs h hP hk hS => ?_)
      exact wk_X6_makesRoom_22 C hap h hP hS (lv_sub hl [0] rfl)
    · have h := h.2 hc
      refine lv_iconst (v := 0) hx hb dX6_makesRoom_16 (by decide) ?_
      exact endZ C hS bz0 ⟨_, _, _, rfl, h, hP⟩ dX6_makesRoom_17
abbrev rmX6_inChange : Room := { frames := 0, cells := 0, slots := 0, locals := 0 }
def wb_X6_inChange_2 (Q : Int32 → Rg → Ar → Prop) (k2 : Rg → Ar → Int32 → Int32 → Prop) (σ : Rg) (μ : Ar) (v1 : Int32) (v2 : Int32) : Prop := (((μ 0 11) ≤ v2 → Q (-1 : Int32) σ μ) ∧ (¬ (μ 0 11) ≤ v2 → (vp_in ((12 : Int32) + v2) 810) ∧ (((¬ (μ 0 (((12 : Int32) + v2)).toNatClampNeg) = v1 → ∀ y28 : Int32, y28 = v2 + (1 : Int32) → (k2 σ μ v1 y28)) ∧ ((μ 0 (((12 : Int32) + v2)).toNatClampNeg) = v1 → Q v2 σ μ)))))
set_option maxHeartbeats 4000000 in
set_option maxRecDepth 100000 in
theorem wk_X6_inChange_2 {p : Program} {l : Launch} {e : Env} {s : State} {m : MethodId} {args : Array Value} {below : List Frame} {meth : Method} {c : Code} {D : va_G} {cy : ClassId} {Ad : Nat → Nat} (C : Cx p s m args meth c RX6 cX6_inChange 3 (some FieldType.int) D [(cy, .int)]) (hap : apt 8 Ad) {Q : Int32 → Rg → Ar → Prop} {k2 : Rg → Ar → Int32 → Int32 → Prop} (hk2 : ∀ {σ : Rg} {μ : Ar} {v1 : Int32} {v2 : Int32} {H : Heap} {locs : List Loc} {ls : Array Slot}, k2 σ μ v1 v2 → va_P D vwCl (wM Ad cy σ μ) H → va_S (AS 8 Ad) s.heap H locs → lv_has ls 3 [(0, .ref (Ad 0)), (1, .int v1), (2, .int v2)] → W p l e rmX6_inChange s m args below meth c H locs 0 0 (MQ below (Qcg (PWi (wM Ad cy) D Q) (AS 8 Ad)) args s 0 0 (AS 8 Ad)) (F0 m 2 ls [])) {σ : Rg} {μ : Ar} {v1 : Int32} {v2 : Int32} {H : Heap} {locs : List Loc} {ls : Array Slot} (h : wb_X6_inChange_2 Q k2 σ μ v1 v2) (hP : va_P D vwCl (wM Ad cy σ μ) H) (hS : va_S (AS 8 Ad) s.heap H locs) (hl : lv_has ls 3 [(0, .ref (Ad 0)), (1, .int v1), (2, .int v2)]) : W p l e rmX6_inChange s m args below meth c H locs 0 0 (MQ below (Qcg (PWi (wM Ad cy) D Q) (AS 8 Ad)) args s 0 0 (AS 8 Ad)) (F0 m 2 ls []) := by
  have hx := C.1
  have hb := C.2.1
  refine lv_iload_n hx hb dX6_inChange_2 rfl (lv_at hl 2 rfl) ?_
  refine lv_aload_n hx hb dX6_inChange_3 rfl (lv_at hl 0 rfl) ?_
  refine gM_model_x C hP (C.2.2.2.2.2.2.1 _ wq_924) dX6_inChange_4 ?_
  refine lv_bipush (v := 11) hx hb dX6_inChange_7 (by decide) ?_
  refine lcM_0 C hP tc_11 vi_11_810 dX6_inChange_9 ?_
  refine lv_icmp_ge (tgt := 34) hx hb dX6_inChange_10 (by decide) (fun hc => ?_) (fun hc => ?_)
  · have h := h.1 hc
    refine lv_iconst (v := -1) hx hb dX6_inChange_34 (by decide) ?_
    exact endI C hS ⟨_, _, _, rfl, h, hP⟩ dX6_inChange_35
  · have h := h.2 hc
    refine lv_aload_n hx hb dX6_inChange_13 rfl (lv_at hl 0 rfl) ?_
    refine gM_model_x C hP (C.2.2.2.2.2.2.1 _ wq_924) dX6_inChange_14 ?_
    refine lv_bipush (v := 12) hx hb dX6_inChange_17 (by decide) ?_
    refine lv_iload_n hx hb dX6_inChange_19 rfl (lv_at hl 2 rfl) ?_
    refine lv_iadd hx hb dX6_inChange_20 ?_
    obtain ⟨hc, h⟩ := h
    refine lM_0 C hP hc dX6_inChange_21 ?_
    refine lv_iload_n hx hb dX6_inChange_22 rfl (lv_at hl 1 rfl) ?_
    refine lv_icmp_ne (tgt := 28) hx hb dX6_inChange_23 (by decide) (fun hc => ?_) (fun hc => ?_)
    · have h := h.1 hc
      obtain ⟨y28, e28⟩ : ∃ y : Int32, y = v2 + (1 : Int32) := ⟨_, rfl⟩
      have h := h y28 e28
      refine lv_iinc (v := y28) (lv' := [(2, .int y28), (0, .ref (Ad 0)), (1, .int v1)]) hx hb dX6_inChange_28 hl (k := 2) rfl (by rw [e28]; rfl) (by decide) rfl (fun ls hl => ?_)
      refine lv_goto (tgt := 2) hx hb dX6_inChange_31 (by decide) ?_
      exact hk2 h hP hS (lv_sub hl [1, 2, 0] rfl)
    · have h := h.2 hc
      refine lv_iload_n hx hb dX6_inChange_26 rfl (lv_at hl 2 rfl) ?_
      exact endI C hS ⟨_, _, _, rfl, h, hP⟩ dX6_inChange_27
def wl_X6_inChange_2 (Q : Int32 → Rg → Ar → Prop) (n : Nat) : Rg → Ar → Int32 → Int32 → Prop := Nat.rec (motive := fun _ => Rg → Ar → Int32 → Int32 → Prop) (fun _ _ _ _ => False) (fun _ k => wb_X6_inChange_2 Q k) n
set_option maxHeartbeats 4000000 in
theorem wkl_X6_inChange_2 {p : Program} {l : Launch} {e : Env} {s : State} {m : MethodId} {args : Array Value} {below : List Frame} {meth : Method} {c : Code} {D : va_G} {cy : ClassId} {Ad : Nat → Nat} (C : Cx p s m args meth c RX6 cX6_inChange 3 (some FieldType.int) D [(cy, .int)]) (hap : apt 8 Ad) {Q : Int32 → Rg → Ar → Prop}  : ∀ (n : Nat) {σ : Rg} {μ : Ar} {v1 : Int32} {v2 : Int32} {H : Heap} {locs : List Loc} {ls : Array Slot} (h : wl_X6_inChange_2 Q  n σ μ v1 v2) (hP : va_P D vwCl (wM Ad cy σ μ) H) (hS : va_S (AS 8 Ad) s.heap H locs) (hl : lv_has ls 3 [(0, .ref (Ad 0)), (1, .int v1), (2, .int v2)]), W p l e rmX6_inChange s m args below meth c H locs 0 0 (MQ below (Qcg (PWi (wM Ad cy) D Q) (AS 8 Ad)) args s 0 0 (AS 8 Ad)) (F0 m 2 ls []) := by
  intro n
  induction n with
  | zero => intro σ μ v1 v2 H locs ls h; exact h.elim
  | succ n ih =>
    intro σ μ v1 v2 H locs ls h hP hS hl
    exact wk_X6_inChange_2 C hap (fun h hP hS hl => ih h hP hS hl) h hP hS hl
def wp_X6_inChange (σ : Rg) (μ : Ar) (x1 : Int32) (Q : Int32 → Rg → Ar → Prop) : Prop := ∃ n, wl_X6_inChange_2 Q n σ μ x1 (0 : Int32)
set_option maxHeartbeats 4000000 in
set_option maxRecDepth 100000 in
theorem ct_X6_inChange (l : Launch) (D : va_G) (cy : ClassId) (Ad : Nat → Nat) (hap : apt 8 Ad) {σ : Rg} {μ : Ar} {x1 : Int32} {Q : Int32 → Rg → Ar → Prop} (h : wp_X6_inChange σ μ x1 Q) : Ct l yX6_inChange cX6_inChange 3 (some FieldType.int) rmX6_inChange D [(cy, .int)] (fun H => va_P D vwCl (wM Ad cy σ μ) H) [.ref (Ad 0), .int x1] (AS 8 Ad) (PWi (wM Ad cy) D Q) := by
  refine Ct.of (by decide) (Nat.le_of_ble_eq_true rfl) ?_
  intro p e s m below meth c ls C hP hl
  have hl : lv_has ls 3 [(0, .ref (Ad 0)), (1, .int x1)] := hl
  have hS : va_S (AS 8 Ad) s.heap s.heap [] := va_S.rf
  have hx := C.1
  have hb := C.2.1
  refine lv_iconst (v := 0) hx hb dX6_inChange_0 (by decide) ?_
  refine lv_istore_n (lv' := [(2, .int (0 : Int32)), (0, .ref (Ad 0)), (1, .int x1)]) hx hb dX6_inChange_1 rfl hl (by decide) rfl (fun ls hl => ?_)
  obtain ⟨n, h⟩ := h
  exact wkl_X6_inChange_2 C hap n h hP hS (lv_sub hl [1, 2, 0] rfl)
abbrev rmX6_tells : Room := { frames := 1, cells := 0, slots := 0, locals := 22 }
def wb_X6_tells_46 (Q : Int32 → Rg → Ar → Prop) (σ : Rg) (μ : Ar) (v1 : Int32) (v2 : Int32) (v3 : Int32) (v4 : Int32) : Prop := (vp_in ((12 : Int32) + v4) 810) ∧ (∀ μ56 : Ar, μ56 = updA μ 0 (upd (μ 0) (((12 : Int32) + v4)).toNatClampNeg v1) → ((vp_in ((20 : Int32) + v4) 810) ∧ (∀ μ67 : Ar, μ67 = updA μ56 0 (upd (μ56 0) (((20 : Int32) + v4)).toNatClampNeg v2) → ((vp_in ((28 : Int32) + v4) 810) ∧ (∀ μ78 : Ar, μ78 = updA μ67 0 (upd (μ67 0) (((28 : Int32) + v4)).toNatClampNeg v3) → (Q (0 : Int32) σ μ78))))))
set_option maxHeartbeats 4000000 in
set_option maxRecDepth 100000 in
theorem wk_X6_tells_46 {p : Program} {l : Launch} {e : Env} {s : State} {m : MethodId} {args : Array Value} {below : List Frame} {meth : Method} {c : Code} {D : va_G} {cy : ClassId} {Ad : Nat → Nat} (C : Cx p s m args meth c RX6 cX6_tells 5 (some FieldType.int) D [(cy, .int)]) (hap : apt 8 Ad) {Q : Int32 → Rg → Ar → Prop} {σ : Rg} {μ : Ar} {v1 : Int32} {v2 : Int32} {v3 : Int32} {v4 : Int32} {H : Heap} {locs : List Loc} {ls : Array Slot} (h : wb_X6_tells_46 Q σ μ v1 v2 v3 v4) (hP : va_P D vwCl (wM Ad cy σ μ) H) (hS : va_S (AS 8 Ad) s.heap H locs) (hl : lv_has ls 5 [(0, .ref (Ad 0)), (1, .int v1), (2, .int v2), (3, .int v3), (4, .int v4)]) : W p l e rmX6_tells s m args below meth c H locs 0 0 (MQ below (Qcg (PWi (wM Ad cy) D Q) (AS 8 Ad)) args s 0 0 (AS 8 Ad)) (F0 m 46 ls []) := by
  have hx := C.1
  have hb := C.2.1
  refine lv_aload_n hx hb dX6_tells_46 rfl (lv_at hl 0 rfl) ?_
  refine gM_model_x C hP (C.2.2.2.2.2.2.1 _ wq_924) dX6_tells_47 ?_
  refine lv_bipush (v := 12) hx hb dX6_tells_50 (by decide) ?_
  refine lv_iload hx hb dX6_tells_52 (lv_at hl 4 rfl) ?_
  refine lv_iadd hx hb dX6_tells_54 ?_
  refine lv_iload_n hx hb dX6_tells_55 rfl (lv_at hl 1 rfl) ?_
  obtain ⟨hc, h⟩ := h
  refine sM_0 C hap (fun _ h => h) hP hS hc dX6_tells_56 (fun H locs hP hS => ?_)
  obtain ⟨μ56, e56⟩ : ∃ z : Ar, z = updA μ 0 (upd (μ 0) (((12 : Int32) + v4)).toNatClampNeg v1) := ⟨_, rfl⟩
  have hP : va_P D vwCl (wM Ad cy σ μ56) H := by rw [e56]; exact hP
  have h := h μ56 e56
  refine lv_aload_n hx hb dX6_tells_57 rfl (lv_at hl 0 rfl) ?_
  refine gM_model_x C hP (C.2.2.2.2.2.2.1 _ wq_924) dX6_tells_58 ?_
  refine lv_bipush (v := 20) hx hb dX6_tells_61 (by decide) ?_
  refine lv_iload hx hb dX6_tells_63 (lv_at hl 4 rfl) ?_
  refine lv_iadd hx hb dX6_tells_65 ?_
  refine lv_iload_n hx hb dX6_tells_66 rfl (lv_at hl 2 rfl) ?_
  obtain ⟨hc, h⟩ := h
  refine sM_0 C hap (fun _ h => h) hP hS hc dX6_tells_67 (fun H locs hP hS => ?_)
  obtain ⟨μ67, e67⟩ : ∃ z : Ar, z = updA μ56 0 (upd (μ56 0) (((20 : Int32) + v4)).toNatClampNeg v2) := ⟨_, rfl⟩
  have hP : va_P D vwCl (wM Ad cy σ μ67) H := by rw [e67]; exact hP
  have h := h μ67 e67
  refine lv_aload_n hx hb dX6_tells_68 rfl (lv_at hl 0 rfl) ?_
  refine gM_model_x C hP (C.2.2.2.2.2.2.1 _ wq_924) dX6_tells_69 ?_
  refine lv_bipush (v := 28) hx hb dX6_tells_72 (by decide) ?_
  refine lv_iload hx hb dX6_tells_74 (lv_at hl 4 rfl) ?_
  refine lv_iadd hx hb dX6_tells_76 ?_
  refine lv_iload_n hx hb dX6_tells_77 rfl (lv_at hl 3 rfl) ?_
  obtain ⟨hc, h⟩ := h
  refine sM_0 C hap (fun _ h => h) hP hS hc dX6_tells_78 (fun H locs hP hS => ?_)
  obtain ⟨μ78, e78⟩ : ∃ z : Ar, z = updA μ67 0 (upd (μ67 0) (((28 : Int32) + v4)).toNatClampNeg v3) := ⟨_, rfl⟩
  have hP : va_P D vwCl (wM Ad cy σ μ78) H := by rw [e78]; exact hP
  have h := h μ78 e78
  refine lv_iconst (v := 0) hx hb dX6_tells_79 (by decide) ?_
  exact endI C hS ⟨_, _, _, rfl, h, hP⟩ dX6_tells_80
def wp_X6_tells (σ : Rg) (μ : Ar) (x1 : Int32) (x2 : Int32) (x3 : Int32) (Q : Int32 → Rg → Ar → Prop) : Prop := wp_X6_inChange σ μ x1 (fun r2 σ2 μ2 => ((0 ≤ r2 → wb_X6_tells_46 Q σ2 μ2 x1 x2 x3 r2) ∧ (¬ 0 ≤ r2 → ((¬ (μ2 0 11) = (8 : Int32) → ∀ y33 : Int32, y33 = (μ2 0 11) → (∀ μ45 : Ar, μ45 = updA μ2 0 (upd (μ2 0) 11 ((μ2 0 11) + (1 : Int32))) → (wb_X6_tells_46 Q σ2 μ45 x1 x2 x3 y33))) ∧ ((μ2 0 11) = (8 : Int32) → Q (-1 : Int32) σ2 μ2)))))
set_option maxHeartbeats 4000000 in
set_option maxRecDepth 100000 in
theorem ct_X6_tells (l : Launch) (D : va_G) (cy : ClassId) (Ad : Nat → Nat) (hap : apt 8 Ad) {σ : Rg} {μ : Ar} {x1 : Int32} {x2 : Int32} {x3 : Int32} {Q : Int32 → Rg → Ar → Prop} (h : wp_X6_tells σ μ x1 x2 x3 Q) : Ct l yX6_tells cX6_tells 5 (some FieldType.int) rmX6_tells D [(cy, .int)] (fun H => va_P D vwCl (wM Ad cy σ μ) H) [.ref (Ad 0), .int x1, .int x2, .int x3] (AS 8 Ad) (PWi (wM Ad cy) D Q) := by
  refine Ct.of (by decide) (Nat.le_of_ble_eq_true rfl) ?_
  intro p e s m below meth c ls C hP hl
  have hl : lv_has ls 5 [(0, .ref (Ad 0)), (1, .int x1), (2, .int x2), (3, .int x3)] := hl
  have hS : va_S (AS 8 Ad) s.heap s.heap [] := va_S.rf
  have hx := C.1
  have hb := C.2.1
  refine lv_aload_n hx hb dX6_tells_0 rfl (lv_at hl 0 rfl) ?_
  refine lv_iload_n hx hb dX6_tells_1 rfl (lv_at hl 1 rfl) ?_
  refine kWi (rnV C (ct_X6_inChange l D cy Ad hap h) yv_X6_inChange wq_1104 ⟨rfl, rfl⟩ ⟨Nat.le_of_ble_eq_true rfl, Nat.le_of_ble_eq_true rfl⟩ ⟨Nat.zero_le _, Nat.zero_le _⟩ (vM_model C hP) hP hl.1 rfl rfl (Nat.le_of_ble_eq_true rfl) dX6_tells_2) hS (fun _ h => h) (fun r2 σ2 μ2 H locs h hP hk hS => ?_)
  refine lv_istore (lv' := [(4, .int r2), (0, .ref (Ad 0)), (1, .int x1), (2, .int x2), (3, .int x3)]) hx hb dX6_tells_5 hl (by decide) rfl (fun ls hl => ?_)
  refine lv_iload hx hb dX6_tells_7 (lv_at hl 0 rfl) ?_
  refine lv_if_ge (tgt := 46) hx hb dX6_tells_9 (by decide) (fun hc => ?_) (fun hc => ?_)
  · have h := h.1 hc
    exact wk_X6_tells_46 C hap h hP hS (lv_sub hl [1, 2, 3, 4, 0] rfl)
  · have h := h.2 hc
    refine lv_aload_n hx hb dX6_tells_12 rfl (lv_at hl 1 rfl) ?_
    refine gM_model_x C hP (C.2.2.2.2.2.2.1 _ wq_924) dX6_tells_13 ?_
    refine lv_bipush (v := 11) hx hb dX6_tells_16 (by decide) ?_
    refine lcM_0 C hP tc_11 vi_11_810 dX6_tells_18 ?_
    refine lv_bipush (v := 8) hx hb dX6_tells_19 (by decide) ?_
    refine lv_icmp_ne (tgt := 26) hx hb dX6_tells_21 (by decide) (fun hc => ?_) (fun hc => ?_)
    · have h := h.1 hc
      refine lv_aload_n hx hb dX6_tells_26 rfl (lv_at hl 1 rfl) ?_
      refine gM_model_x C hP (C.2.2.2.2.2.2.1 _ wq_924) dX6_tells_27 ?_
      refine lv_bipush (v := 11) hx hb dX6_tells_30 (by decide) ?_
      refine lcM_0 C hP tc_11 vi_11_810 dX6_tells_32 ?_
      refine lv_topi (fun y33 e33 => ?_)
      have h := h y33 e33
      refine lv_istore (lv' := [(4, .int y33), (0, .ref (Ad 0)), (1, .int x1), (2, .int x2), (3, .int x3)]) hx hb dX6_tells_33 hl (by decide) rfl (fun ls hl => ?_)
      refine lv_aload_n hx hb dX6_tells_35 rfl (lv_at hl 1 rfl) ?_
      refine gM_model_x C hP (C.2.2.2.2.2.2.1 _ wq_924) dX6_tells_36 ?_
      refine lv_bipush (v := 11) hx hb dX6_tells_39 (by decide) ?_
      refine lv_dup2_11 hx hb dX6_tells_41 rfl rfl ?_
      refine lcM_0 C hP tc_11 vi_11_810 dX6_tells_42 ?_
      refine lv_iconst (v := 1) hx hb dX6_tells_43 (by decide) ?_
      refine lv_iadd hx hb dX6_tells_44 ?_
      refine scM_0 C hap (fun _ h => h) hP hS tc_11 vi_11_810 dX6_tells_45 (fun H locs hP hS => ?_)
      obtain ⟨μ45, e45⟩ : ∃ z : Ar, z = updA μ2 0 (upd (μ2 0) 11 ((μ2 0 11) + (1 : Int32))) := ⟨_, rfl⟩
      have hP : va_P D vwCl (wM Ad cy σ2 μ45) H := by rw [e45]; exact hP
      have h := h μ45 e45
      exact wk_X6_tells_46 C hap h hP hS (lv_sub hl [1, 2, 3, 4, 0] rfl)
    · have h := h.2 hc
      refine lv_iconst (v := -1) hx hb dX6_tells_24 (by decide) ?_
      exact endI C hS ⟨_, _, _, rfl, h, hP⟩ dX6_tells_25
abbrev rmX6_sets : Room := { frames := 7, cells := 0, slots := 0, locals := 156 }
def wp_X6_sets (σ : Rg) (μ : Ar) (x1 : Int32) (x2 : Int32) (x3 : Int32) (Q : Int32 → Rg → Ar → Prop) : Prop := ((¬ (μ 0 10) = (1 : Int32) → wp_X6_begins σ μ  (fun σ20 μ20 => wp_X6_makesRoom σ20 μ20 ((3 : Int32) + x3) (fun r27 σ27 μ27 => ((¬ r27 = 0 → wp_X6_laysSetting σ27 μ27 (16 : Int32) x1 x3 (x2).toInt64 (fun σ43 μ43 => wp_X6_told σ43 μ43  (fun r47 σ47 μ47 => Q r47 σ47 μ47))) ∧ (r27 = 0 → Q (-2 : Int32) σ27 μ27))))) ∧ ((μ 0 10) = (1 : Int32) → wp_X6_tells σ μ x1 x2 x3 (fun r15 σ15 μ15 => Q r15 σ15 μ15)))
set_option maxHeartbeats 4000000 in
set_option maxRecDepth 100000 in
theorem ct_X6_sets (l : Launch) (D : va_G) (cy : ClassId) (Ad : Nat → Nat) (hap : apt 8 Ad) {σ : Rg} {μ : Ar} {x1 : Int32} {x2 : Int32} {x3 : Int32} {Q : Int32 → Rg → Ar → Prop} (h : wp_X6_sets σ μ x1 x2 x3 Q) : Ct l yX6_sets cX6_sets 4 (some FieldType.int) rmX6_sets D [(cy, .int)] (fun H => va_P D vwCl (wM Ad cy σ μ) H) [.ref (Ad 0), .int x1, .int x2, .int x3] (AS 8 Ad) (PWi (wM Ad cy) D Q) := by
  refine Ct.of (by decide) (Nat.le_of_ble_eq_true rfl) ?_
  intro p e s m below meth c ls C hP hl
  have hl : lv_has ls 4 [(0, .ref (Ad 0)), (1, .int x1), (2, .int x2), (3, .int x3)] := hl
  have hS : va_S (AS 8 Ad) s.heap s.heap [] := va_S.rf
  have hx := C.1
  have hb := C.2.1
  refine lv_aload_n hx hb dX6_sets_0 rfl (lv_at hl 0 rfl) ?_
  refine gM_model_x C hP (C.2.2.2.2.2.2.1 _ wq_924) dX6_sets_1 ?_
  refine lv_bipush (v := 10) hx hb dX6_sets_4 (by decide) ?_
  refine lcM_0 C hP tc_10 vi_10_810 dX6_sets_6 ?_
  refine lv_iconst (v := 1) hx hb dX6_sets_7 (by decide) ?_
  refine lv_icmp_ne (tgt := 19) hx hb dX6_sets_8 (by decide) (fun hc => ?_) (fun hc => ?_)
  · have h := h.1 hc
    refine lv_aload_n hx hb dX6_sets_19 rfl (lv_at hl 0 rfl) ?_
    refine kWv (rnV C (ct_X6_begins l D cy Ad hap h) yv_X6_begins wq_985 ⟨rfl, rfl⟩ ⟨Nat.le_of_ble_eq_true rfl, Nat.le_of_ble_eq_true rfl⟩ ⟨Nat.zero_le _, Nat.zero_le _⟩ (vM_model C hP) hP hl.1 rfl rfl (Nat.le_of_ble_eq_true rfl) dX6_sets_20) hS (fun _ h => h) (fun σ20 μ20 H locs h hP hk hS => ?_)
    refine lv_aload_n hx hb dX6_sets_23 rfl (lv_at hl 0 rfl) ?_
    refine lv_iconst (v := 3) hx hb dX6_sets_24 (by decide) ?_
    refine lv_iload_n hx hb dX6_sets_25 rfl (lv_at hl 3 rfl) ?_
    refine lv_iadd hx hb dX6_sets_26 ?_
    refine kWi (rnV C (ct_X6_makesRoom l D cy Ad hap h) yv_X6_makesRoom wq_1108 ⟨rfl, rfl⟩ ⟨Nat.le_of_ble_eq_true rfl, Nat.le_of_ble_eq_true rfl⟩ ⟨Nat.zero_le _, Nat.zero_le _⟩ (vM_model C hP) hP hl.1 rfl rfl (Nat.le_of_ble_eq_true rfl) dX6_sets_27) hS (fun _ h => h) (fun r27 σ27 μ27 H locs h hP hk hS => ?_)
    refine lv_if_ne (tgt := 36) hx hb dX6_sets_30 (by decide) (fun hc => ?_) (fun hc => ?_)
    · have h := h.1 hc
      refine lv_aload_n hx hb dX6_sets_36 rfl (lv_at hl 0 rfl) ?_
      refine lv_bipush (v := 16) hx hb dX6_sets_37 (by decide) ?_
      refine lv_iload_n hx hb dX6_sets_39 rfl (lv_at hl 1 rfl) ?_
      refine lv_iload_n hx hb dX6_sets_40 rfl (lv_at hl 3 rfl) ?_
      refine lv_iload_n hx hb dX6_sets_41 rfl (lv_at hl 2 rfl) ?_
      refine lv_i2l hx hb dX6_sets_42 rfl ?_
      refine kWv (rnV C (ct_X6_laysSetting l D cy Ad hap h) yv_X6_laysSetting wq_1155 ⟨rfl, rfl⟩ ⟨Nat.le_of_ble_eq_true rfl, Nat.le_of_ble_eq_true rfl⟩ ⟨Nat.zero_le _, Nat.zero_le _⟩ (vM_model C hP) hP hl.1 rfl rfl (Nat.le_of_ble_eq_true rfl) dX6_sets_43) hS (fun _ h => h) (fun σ43 μ43 H locs h hP hk hS => ?_)
      refine lv_aload_n hx hb dX6_sets_46 rfl (lv_at hl 0 rfl) ?_
      refine kWi (rnV C (ct_X6_told l D cy Ad hap h) yv_X6_told wq_1159 ⟨rfl, rfl⟩ ⟨Nat.le_of_ble_eq_true rfl, Nat.le_of_ble_eq_true rfl⟩ ⟨Nat.zero_le _, Nat.zero_le _⟩ (vM_model C hP) hP hl.1 rfl rfl (Nat.le_of_ble_eq_true rfl) dX6_sets_47) hS (fun _ h => h) (fun r47 σ47 μ47 H locs h hP hk hS => ?_)
      exact endI C hS ⟨_, _, _, rfl, h, hP⟩ dX6_sets_50
    · have h := h.2 hc
      refine lv_bipush (v := -2) hx hb dX6_sets_33 (by decide) ?_
      exact endI C hS ⟨_, _, _, rfl, h, hP⟩ dX6_sets_35
  · have h := h.2 hc
    refine lv_aload_n hx hb dX6_sets_11 rfl (lv_at hl 0 rfl) ?_
    refine lv_iload_n hx hb dX6_sets_12 rfl (lv_at hl 1 rfl) ?_
    refine lv_iload_n hx hb dX6_sets_13 rfl (lv_at hl 2 rfl) ?_
    refine lv_iload_n hx hb dX6_sets_14 rfl (lv_at hl 3 rfl) ?_
    refine kWi (rnV C (ct_X6_tells l D cy Ad hap h) yv_X6_tells wq_1100 ⟨rfl, rfl⟩ ⟨Nat.le_of_ble_eq_true rfl, Nat.le_of_ble_eq_true rfl⟩ ⟨Nat.zero_le _, Nat.zero_le _⟩ (vM_model C hP) hP hl.1 rfl rfl (Nat.le_of_ble_eq_true rfl) dX6_sets_15) hS (fun _ h => h) (fun r15 σ15 μ15 H locs h hP hk hS => ?_)
    exact endI C hS ⟨_, _, _, rfl, h, hP⟩ dX6_sets_18
abbrev rmX6_isSetting : Room := { frames := 1, cells := 0, slots := 0, locals := 22 }
def wb_X6_isSetting_31 (Q : Int32 → Rg → Ar → Prop) (σ : Rg) (μ : Ar) (t0 : Int32) : Prop := (bz t0) ∧ (Q t0 σ μ)
set_option maxHeartbeats 4000000 in
set_option maxRecDepth 100000 in
theorem wk_X6_isSetting_31 {p : Program} {l : Launch} {e : Env} {s : State} {m : MethodId} {args : Array Value} {below : List Frame} {meth : Method} {c : Code} {D : va_G} {cy : ClassId} {Ad : Nat → Nat} (C : Cx p s m args meth c RX6 cX6_isSetting 3 (some FieldType.boolean) D [(cy, .int)]) (hap : apt 8 Ad) {Q : Int32 → Rg → Ar → Prop} {σ : Rg} {μ : Ar} {t0 : Int32} {H : Heap} {locs : List Loc} {ls : Array Slot} (h : wb_X6_isSetting_31 Q σ μ t0) (hP : va_P D vwCl (wM Ad cy σ μ) H) (hS : va_S (AS 8 Ad) s.heap H locs) (hl : lv_has ls 3 []) : W p l e rmX6_isSetting s m args below meth c H locs 0 0 (MQ below (Qcg (PWi (wM Ad cy) D Q) (AS 8 Ad)) args s 0 0 (AS 8 Ad)) (F0 m 31 ls [.int t0]) := by
  have hx := C.1
  have hb := C.2.1
  obtain ⟨hc, h⟩ := h
  exact endZ C hS hc ⟨_, _, _, rfl, h, hP⟩ dX6_isSetting_31
def wb_X6_isSetting_30 (Q : Int32 → Rg → Ar → Prop) (σ : Rg) (μ : Ar) : Prop := wb_X6_isSetting_31 Q σ μ (0 : Int32)
set_option maxHeartbeats 4000000 in
set_option maxRecDepth 100000 in
theorem wk_X6_isSetting_30 {p : Program} {l : Launch} {e : Env} {s : State} {m : MethodId} {args : Array Value} {below : List Frame} {meth : Method} {c : Code} {D : va_G} {cy : ClassId} {Ad : Nat → Nat} (C : Cx p s m args meth c RX6 cX6_isSetting 3 (some FieldType.boolean) D [(cy, .int)]) (hap : apt 8 Ad) {Q : Int32 → Rg → Ar → Prop} {σ : Rg} {μ : Ar}  {H : Heap} {locs : List Loc} {ls : Array Slot} (h : wb_X6_isSetting_30 Q σ μ) (hP : va_P D vwCl (wM Ad cy σ μ) H) (hS : va_S (AS 8 Ad) s.heap H locs) (hl : lv_has ls 3 []) : W p l e rmX6_isSetting s m args below meth c H locs 0 0 (MQ below (Qcg (PWi (wM Ad cy) D Q) (AS 8 Ad)) args s 0 0 (AS 8 Ad)) (F0 m 30 ls []) := by
  have hx := C.1
  have hb := C.2.1
  refine lv_iconst (v := 0) hx hb dX6_isSetting_30 (by decide) ?_
  exact wk_X6_isSetting_31 C hap h hP hS (lv_sub hl [] rfl)
def wp_X6_isSetting (σ : Rg) (μ : Ar) (x1 : Int32) (x2 : Int32) (Q : Int32 → Rg → Ar → Prop) : Prop := wp_X6_isOn σ μ  (fun r1 σ1 μ1 => ((r1 = 0 → wb_X6_isSetting_30 Q σ1 μ1) ∧ (¬ r1 = 0 → wp_X6_within x1 (0 : Int32) (31 : Int32) (fun r11 => ((r11 = 0 → wb_X6_isSetting_30 Q σ1 μ1) ∧ (¬ r11 = 0 → wp_X6_within x2 (1 : Int32) (4 : Int32) (fun r20 => ((r20 = 0 → wb_X6_isSetting_30 Q σ1 μ1) ∧ (¬ r20 = 0 → wb_X6_isSetting_31 Q σ1 μ1 (1 : Int32))))))))))
set_option maxHeartbeats 4000000 in
set_option maxRecDepth 100000 in
theorem ct_X6_isSetting (l : Launch) (D : va_G) (cy : ClassId) (Ad : Nat → Nat) (hap : apt 8 Ad) {σ : Rg} {μ : Ar} {x1 : Int32} {x2 : Int32} {Q : Int32 → Rg → Ar → Prop} (h : wp_X6_isSetting σ μ x1 x2 Q) : Ct l yX6_isSetting cX6_isSetting 3 (some FieldType.boolean) rmX6_isSetting D [(cy, .int)] (fun H => va_P D vwCl (wM Ad cy σ μ) H) [.ref (Ad 0), .int x1, .int x2] (AS 8 Ad) (PWi (wM Ad cy) D Q) := by
  refine Ct.of (by decide) (Nat.le_of_ble_eq_true rfl) ?_
  intro p e s m below meth c ls C hP hl
  have hl : lv_has ls 3 [(0, .ref (Ad 0)), (1, .int x1), (2, .int x2)] := hl
  have hS : va_S (AS 8 Ad) s.heap s.heap [] := va_S.rf
  have hx := C.1
  have hb := C.2.1
  refine lv_aload_n hx hb dX6_isSetting_0 rfl (lv_at hl 0 rfl) ?_
  refine kWi (rnV C (ct_X6_isOn l D cy Ad hap h) yv_X6_isOn wq_981 ⟨rfl, rfl⟩ ⟨Nat.le_of_ble_eq_true rfl, Nat.le_of_ble_eq_true rfl⟩ ⟨Nat.zero_le _, Nat.zero_le _⟩ (vM_model C hP) hP hl.1 rfl rfl (Nat.le_of_ble_eq_true rfl) dX6_isSetting_1) hS (fun _ h => h) (fun r1 σ1 μ1 H locs h hP hk hS => ?_)
  refine lv_if_eq (tgt := 30) hx hb dX6_isSetting_4 (by decide) (fun hc => ?_) (fun hc => ?_)
  · have h := h.1 hc
    exact wk_X6_isSetting_30 C hap h hP hS (lv_sub hl [] rfl)
  · have h := h.2 hc
    refine lv_iload_n hx hb dX6_isSetting_7 rfl (lv_at hl 1 rfl) ?_
    refine lv_iconst (v := 0) hx hb dX6_isSetting_8 (by decide) ?_
    refine lv_bipush (v := 31) hx hb dX6_isSetting_9 (by decide) ?_
    refine kNi (rnS (C.none) (ct_X6_within l D h) ys_X6_within wq_974 ⟨rfl, rfl⟩ ⟨Nat.le_of_ble_eq_true rfl, Nat.le_of_ble_eq_true rfl⟩ ⟨Nat.zero_le _, Nat.zero_le _⟩ trivial hl.1 rfl rfl (Nat.le_of_ble_eq_true rfl) dX6_isSetting_11) hS (fun _ h => h.elim) (fun r11 H locs h hk hS => ?_)
    have hP := keepN hP hk
    refine lv_if_eq (tgt := 30) hx hb dX6_isSetting_14 (by decide) (fun hc => ?_) (fun hc => ?_)
    · have h := h.1 hc
      exact wk_X6_isSetting_30 C hap h hP hS (lv_sub hl [] rfl)
    · have h := h.2 hc
      refine lv_iload_n hx hb dX6_isSetting_17 rfl (lv_at hl 2 rfl) ?_
      refine lv_iconst (v := 1) hx hb dX6_isSetting_18 (by decide) ?_
      refine lv_iconst (v := 4) hx hb dX6_isSetting_19 (by decide) ?_
      refine kNi (rnS (C.none) (ct_X6_within l D h) ys_X6_within wq_974 ⟨rfl, rfl⟩ ⟨Nat.le_of_ble_eq_true rfl, Nat.le_of_ble_eq_true rfl⟩ ⟨Nat.zero_le _, Nat.zero_le _⟩ trivial hl.1 rfl rfl (Nat.le_of_ble_eq_true rfl) dX6_isSetting_20) hS (fun _ h => h.elim) (fun r20 H locs h hk hS => ?_)
      have hP := keepN hP hk
      refine lv_if_eq (tgt := 30) hx hb dX6_isSetting_23 (by decide) (fun hc => ?_) (fun hc => ?_)
      · have h := h.1 hc
        exact wk_X6_isSetting_30 C hap h hP hS (lv_sub hl [] rfl)
      · have h := h.2 hc
        refine lv_iconst (v := 1) hx hb dX6_isSetting_26 (by decide) ?_
        refine lv_goto (tgt := 31) hx hb dX6_isSetting_27 (by decide) ?_
        exact wk_X6_isSetting_31 C hap h hP hS (lv_sub hl [] rfl)
abbrev rmX6_set : Room := { frames := 8, cells := 0, slots := 0, locals := 179 }
def wb_X6_set_25 (Q : Int32 → Rg → Ar → Prop) (σ : Rg) (μ : Ar) (t0 : Int32) : Prop := Q t0 σ μ
set_option maxHeartbeats 4000000 in
set_option maxRecDepth 100000 in
theorem wk_X6_set_25 {p : Program} {l : Launch} {e : Env} {s : State} {m : MethodId} {args : Array Value} {below : List Frame} {meth : Method} {c : Code} {D : va_G} {cy : ClassId} {Ad : Nat → Nat} (C : Cx p s m args meth c RX6 cX6_set 4 (some FieldType.int) D [(cy, .int)]) (hap : apt 8 Ad) {Q : Int32 → Rg → Ar → Prop} {σ : Rg} {μ : Ar} {t0 : Int32} {H : Heap} {locs : List Loc} {ls : Array Slot} (h : wb_X6_set_25 Q σ μ t0) (hP : va_P D vwCl (wM Ad cy σ μ) H) (hS : va_S (AS 8 Ad) s.heap H locs) (hl : lv_has ls 4 []) : W p l e rmX6_set s m args below meth c H locs 0 0 (MQ below (Qcg (PWi (wM Ad cy) D Q) (AS 8 Ad)) args s 0 0 (AS 8 Ad)) (F0 m 25 ls [.int t0]) := by
  have hx := C.1
  have hb := C.2.1
  exact endI C hS ⟨_, _, _, rfl, h, hP⟩ dX6_set_25
def wp_X6_set (σ : Rg) (μ : Ar) (x1 : Int32) (x2 : Int32) (x3 : Int32) (Q : Int32 → Rg → Ar → Prop) : Prop := ∀ σ2 : Rg, σ2 = upd σ 0 (0 : Int32) → (wp_X6_isSetting σ2 μ x1 x3 (fun r8 σ8 μ8 => ((r8 = 0 → wb_X6_set_25 Q σ8 μ8 (-1 : Int32)) ∧ (¬ r8 = 0 → wp_X6_sets σ8 μ8 x1 x2 x3 (fun r18 σ18 μ18 => wb_X6_set_25 Q σ18 μ18 r18)))))
set_option maxHeartbeats 4000000 in
set_option maxRecDepth 100000 in
theorem ct_X6_set (l : Launch) (D : va_G) (cy : ClassId) (Ad : Nat → Nat) (hap : apt 8 Ad) {σ : Rg} {μ : Ar} {x1 : Int32} {x2 : Int32} {x3 : Int32} {Q : Int32 → Rg → Ar → Prop} (h : wp_X6_set σ μ x1 x2 x3 Q) : Ct l yX6_set cX6_set 4 (some FieldType.int) rmX6_set D [(cy, .int)] (fun H => va_P D vwCl (wM Ad cy σ μ) H) [.ref (Ad 0), .int x1, .int x2, .int x3] (AS 8 Ad) (PWi (wM Ad cy) D Q) := by
  refine Ct.of (by decide) (Nat.le_of_ble_eq_true rfl) ?_
  intro p e s m below meth c ls C hP hl
  have hl : lv_has ls 4 [(0, .ref (Ad 0)), (1, .int x1), (2, .int x2), (3, .int x3)] := hl
  have hS : va_S (AS 8 Ad) s.heap s.heap [] := va_S.rf
  have hx := C.1
  have hb := C.2.1
  refine lv_aload_n hx hb dX6_set_0 rfl (lv_at hl 0 rfl) ?_
  refine lv_iconst (v := 0) hx hb dX6_set_1 (by decide) ?_
  refine pM_model_thrown C hap (fun _ h => h) hP hS (C.2.2.2.2.2.2.1 _ wq_926) dX6_set_2 (fun H locs hP hS => ?_)
  obtain ⟨σ2, e2⟩ : ∃ z : Rg, z = upd σ 0 (0 : Int32) := ⟨_, rfl⟩
  have hP : va_P D vwCl (wM Ad cy σ2 μ) H := by rw [e2]; exact hP
  have h := h σ2 e2
  refine lv_aload_n hx hb dX6_set_5 rfl (lv_at hl 0 rfl) ?_
  refine lv_iload_n hx hb dX6_set_6 rfl (lv_at hl 1 rfl) ?_
  refine lv_iload_n hx hb dX6_set_7 rfl (lv_at hl 3 rfl) ?_
  refine kWi (rnV C (ct_X6_isSetting l D cy Ad hap h) yv_X6_isSetting wq_1092 ⟨rfl, rfl⟩ ⟨Nat.le_of_ble_eq_true rfl, Nat.le_of_ble_eq_true rfl⟩ ⟨Nat.zero_le _, Nat.zero_le _⟩ (vM_model C hP) hP hl.1 rfl rfl (Nat.le_of_ble_eq_true rfl) dX6_set_8) hS (fun _ h => h) (fun r8 σ8 μ8 H locs h hP hk hS => ?_)
  refine lv_if_eq (tgt := 24) hx hb dX6_set_11 (by decide) (fun hc => ?_) (fun hc => ?_)
  · have h := h.1 hc
    refine lv_iconst (v := -1) hx hb dX6_set_24 (by decide) ?_
    exact wk_X6_set_25 C hap h hP hS (lv_sub hl [] rfl)
  · have h := h.2 hc
    refine lv_aload_n hx hb dX6_set_14 rfl (lv_at hl 0 rfl) ?_
    refine lv_iload_n hx hb dX6_set_15 rfl (lv_at hl 1 rfl) ?_
    refine lv_iload_n hx hb dX6_set_16 rfl (lv_at hl 2 rfl) ?_
    refine lv_iload_n hx hb dX6_set_17 rfl (lv_at hl 3 rfl) ?_
    refine kWi (rnV C (ct_X6_sets l D cy Ad hap h) yv_X6_sets wq_1096 ⟨rfl, rfl⟩ ⟨Nat.le_of_ble_eq_true rfl, Nat.le_of_ble_eq_true rfl⟩ ⟨Nat.zero_le _, Nat.zero_le _⟩ (vM_model C hP) hP hl.1 rfl rfl (Nat.le_of_ble_eq_true rfl) dX6_set_18) hS (fun _ h => h) (fun r18 σ18 μ18 H locs h hP hk hS => ?_)
    refine lv_goto (tgt := 25) hx hb dX6_set_21 (by decide) ?_
    exact wk_X6_set_25 C hap h hP hS (lv_sub hl [] rfl)
abbrev rmX6_drop : Room := { frames := 8, cells := 0, slots := 0, locals := 179 }
def wb_X6_drop_22 (Q : Int32 → Rg → Ar → Prop) (σ : Rg) (μ : Ar) : Prop := Q (-1 : Int32) σ μ
set_option maxHeartbeats 4000000 in
set_option maxRecDepth 100000 in
theorem wk_X6_drop_22 {p : Program} {l : Launch} {e : Env} {s : State} {m : MethodId} {args : Array Value} {below : List Frame} {meth : Method} {c : Code} {D : va_G} {cy : ClassId} {Ad : Nat → Nat} (C : Cx p s m args meth c RX6 cX6_drop 4 (some FieldType.int) D [(cy, .int)]) (hap : apt 8 Ad) {Q : Int32 → Rg → Ar → Prop} {σ : Rg} {μ : Ar}  {H : Heap} {locs : List Loc} {ls : Array Slot} (h : wb_X6_drop_22 Q σ μ) (hP : va_P D vwCl (wM Ad cy σ μ) H) (hS : va_S (AS 8 Ad) s.heap H locs) (hl : lv_has ls 4 []) : W p l e rmX6_drop s m args below meth c H locs 0 0 (MQ below (Qcg (PWi (wM Ad cy) D Q) (AS 8 Ad)) args s 0 0 (AS 8 Ad)) (F0 m 22 ls []) := by
  have hx := C.1
  have hb := C.2.1
  refine lv_iconst (v := -1) hx hb dX6_drop_22 (by decide) ?_
  exact endI C hS ⟨_, _, _, rfl, h, hP⟩ dX6_drop_23
def wb_X6_drop_106 (Q : Int32 → Rg → Ar → Prop) (σ : Rg) (μ : Ar) (t0 : Int32) : Prop := Q t0 σ μ
set_option maxHeartbeats 4000000 in
set_option maxRecDepth 100000 in
theorem wk_X6_drop_106 {p : Program} {l : Launch} {e : Env} {s : State} {m : MethodId} {args : Array Value} {below : List Frame} {meth : Method} {c : Code} {D : va_G} {cy : ClassId} {Ad : Nat → Nat} (C : Cx p s m args meth c RX6 cX6_drop 4 (some FieldType.int) D [(cy, .int)]) (hap : apt 8 Ad) {Q : Int32 → Rg → Ar → Prop} {σ : Rg} {μ : Ar} {t0 : Int32} {H : Heap} {locs : List Loc} {ls : Array Slot} (h : wb_X6_drop_106 Q σ μ t0) (hP : va_P D vwCl (wM Ad cy σ μ) H) (hS : va_S (AS 8 Ad) s.heap H locs) (hl : lv_has ls 4 []) : W p l e rmX6_drop s m args below meth c H locs 0 0 (MQ below (Qcg (PWi (wM Ad cy) D Q) (AS 8 Ad)) args s 0 0 (AS 8 Ad)) (F0 m 106 ls [.int t0]) := by
  have hx := C.1
  have hb := C.2.1
  exact endI C hS ⟨_, _, _, rfl, h, hP⟩ dX6_drop_106
def wb_X6_drop_90 (Q : Int32 → Rg → Ar → Prop) (σ : Rg) (μ : Ar) (v1 : Int32) (t0 : Int32) : Prop := ((t0 = 0 → wb_X6_drop_106 Q σ μ (-1 : Int32)) ∧ (¬ t0 = 0 → wp_X6_sets σ μ v1 (0 : Int32) (0 : Int32) (fun r99 σ99 μ99 => wb_X6_drop_106 Q σ99 μ99 r99)))
set_option maxHeartbeats 4000000 in
set_option maxRecDepth 100000 in
theorem wk_X6_drop_90 {p : Program} {l : Launch} {e : Env} {s : State} {m : MethodId} {args : Array Value} {below : List Frame} {meth : Method} {c : Code} {D : va_G} {cy : ClassId} {Ad : Nat → Nat} (C : Cx p s m args meth c RX6 cX6_drop 4 (some FieldType.int) D [(cy, .int)]) (hap : apt 8 Ad) {Q : Int32 → Rg → Ar → Prop} {σ : Rg} {μ : Ar} {v1 : Int32} {t0 : Int32} {H : Heap} {locs : List Loc} {ls : Array Slot} (h : wb_X6_drop_90 Q σ μ v1 t0) (hP : va_P D vwCl (wM Ad cy σ μ) H) (hS : va_S (AS 8 Ad) s.heap H locs) (hl : lv_has ls 4 [(0, .ref (Ad 0)), (1, .int v1)]) : W p l e rmX6_drop s m args below meth c H locs 0 0 (MQ below (Qcg (PWi (wM Ad cy) D Q) (AS 8 Ad)) args s 0 0 (AS 8 Ad)) (F0 m 90 ls [.int t0]) := by
  have hx := C.1
  have hb := C.2.1
  refine lv_istore_n (lv' := [(3, .int t0), (0, .ref (Ad 0)), (1, .int v1)]) hx hb dX6_drop_90 rfl hl (by decide) rfl (fun ls hl => ?_)
  refine lv_iload_n hx hb dX6_drop_91 rfl (lv_at hl 0 rfl) ?_
  refine lv_if_eq (tgt := 105) hx hb dX6_drop_92 (by decide) (fun hc => ?_) (fun hc => ?_)
  · have h := h.1 hc
    refine lv_iconst (v := -1) hx hb dX6_drop_105 (by decide) ?_
    exact wk_X6_drop_106 C hap h hP hS (lv_sub hl [] rfl)
  · have h := h.2 hc
    refine lv_aload_n hx hb dX6_drop_95 rfl (lv_at hl 1 rfl) ?_
    refine lv_iload_n hx hb dX6_drop_96 rfl (lv_at hl 2 rfl) ?_
    refine lv_iconst (v := 0) hx hb dX6_drop_97 (by decide) ?_
    refine lv_iconst (v := 0) hx hb dX6_drop_98 (by decide) ?_
    refine kWi (rnV C (ct_X6_sets l D cy Ad hap h) yv_X6_sets wq_1096 ⟨rfl, rfl⟩ ⟨Nat.le_of_ble_eq_true rfl, Nat.le_of_ble_eq_true rfl⟩ ⟨Nat.zero_le _, Nat.zero_le _⟩ (vM_model C hP) hP hl.1 rfl rfl (Nat.le_of_ble_eq_true rfl) dX6_drop_99) hS (fun _ h => h) (fun r99 σ99 μ99 H locs h hP hk hS => ?_)
    refine lv_goto (tgt := 106) hx hb dX6_drop_102 (by decide) ?_
    exact wk_X6_drop_106 C hap h hP hS (lv_sub hl [] rfl)
def wb_X6_drop_54 (Q : Int32 → Rg → Ar → Prop) (σ : Rg) (μ : Ar) (v1 : Int32) (t0 : Int32) : Prop := ((t0 < 0 → wp_X6_hasValue σ μ (μ 0 3) v1 (fun r87 σ87 μ87 => wb_X6_drop_90 Q σ87 μ87 v1 r87)) ∧ (¬ t0 < 0 → (vp_in ((28 : Int32) + t0) 810) ∧ ((((μ 0 (((28 : Int32) + t0)).toNatClampNeg) ≤ 0 → wb_X6_drop_90 Q σ μ v1 (0 : Int32)) ∧ (¬ (μ 0 (((28 : Int32) + t0)).toNatClampNeg) ≤ 0 → wb_X6_drop_90 Q σ μ v1 (1 : Int32))))))
set_option maxHeartbeats 4000000 in
set_option maxRecDepth 100000 in
theorem wk_X6_drop_54 {p : Program} {l : Launch} {e : Env} {s : State} {m : MethodId} {args : Array Value} {below : List Frame} {meth : Method} {c : Code} {D : va_G} {cy : ClassId} {Ad : Nat → Nat} (C : Cx p s m args meth c RX6 cX6_drop 4 (some FieldType.int) D [(cy, .int)]) (hap : apt 8 Ad) {Q : Int32 → Rg → Ar → Prop} {σ : Rg} {μ : Ar} {v1 : Int32} {t0 : Int32} {H : Heap} {locs : List Loc} {ls : Array Slot} (h : wb_X6_drop_54 Q σ μ v1 t0) (hP : va_P D vwCl (wM Ad cy σ μ) H) (hS : va_S (AS 8 Ad) s.heap H locs) (hl : lv_has ls 4 [(0, .ref (Ad 0)), (1, .int v1)]) : W p l e rmX6_drop s m args below meth c H locs 0 0 (MQ below (Qcg (PWi (wM Ad cy) D Q) (AS 8 Ad)) args s 0 0 (AS 8 Ad)) (F0 m 54 ls [.int t0]) := by
  have hx := C.1
  have hb := C.2.1
  refine lv_istore_n (lv' := [(2, .int t0), (0, .ref (Ad 0)), (1, .int v1)]) hx hb dX6_drop_54 rfl hl (by decide) rfl (fun ls hl => ?_)
  refine lv_iload_n hx hb dX6_drop_55 rfl (lv_at hl 0 rfl) ?_
  refine lv_if_lt (tgt := 79) hx hb dX6_drop_56 (by decide) (fun hc => ?_) (fun hc => ?_)
  · have h := h.1 hc
    refine lv_aload_n hx hb dX6_drop_79 rfl (lv_at hl 1 rfl) ?_
    refine lv_aload_n hx hb dX6_drop_80 rfl (lv_at hl 1 rfl) ?_
    refine gM_model_x C hP (C.2.2.2.2.2.2.1 _ wq_924) dX6_drop_81 ?_
    refine lv_iconst (v := 3) hx hb dX6_drop_84 (by decide) ?_
    refine lcM_0 C hP tc_3 vi_3_810 dX6_drop_85 ?_
    refine lv_iload_n hx hb dX6_drop_86 rfl (lv_at hl 2 rfl) ?_
    refine kWi (rnV C (ct_X6_hasValue l D cy Ad hap h) yv_X6_hasValue wq_1064 ⟨rfl, rfl⟩ ⟨Nat.le_of_ble_eq_true rfl, Nat.le_of_ble_eq_true rfl⟩ ⟨Nat.zero_le _, Nat.zero_le _⟩ (vM_model C hP) hP hl.1 rfl rfl (Nat.le_of_ble_eq_true rfl) dX6_drop_87) hS (fun _ h => h) (fun r87 σ87 μ87 H locs h hP hk hS => ?_)
    exact wk_X6_drop_90 C hap h hP hS (lv_sub hl [1, 2] rfl)
  · have h := h.2 hc
    refine lv_aload_n hx hb dX6_drop_59 rfl (lv_at hl 1 rfl) ?_
    refine gM_model_x C hP (C.2.2.2.2.2.2.1 _ wq_924) dX6_drop_60 ?_
    refine lv_bipush (v := 28) hx hb dX6_drop_63 (by decide) ?_
    refine lv_iload_n hx hb dX6_drop_65 rfl (lv_at hl 0 rfl) ?_
    refine lv_iadd hx hb dX6_drop_66 ?_
    obtain ⟨hc, h⟩ := h
    refine lM_0 C hP hc dX6_drop_67 ?_
    refine lv_if_le (tgt := 75) hx hb dX6_drop_68 (by decide) (fun hc => ?_) (fun hc => ?_)
    · have h := h.1 hc
      refine lv_iconst (v := 0) hx hb dX6_drop_75 (by decide) ?_
      refine lv_goto (tgt := 90) hx hb dX6_drop_76 (by decide) ?_
      exact wk_X6_drop_90 C hap h hP hS (lv_sub hl [1, 2] rfl)
    · have h := h.2 hc
      refine lv_iconst (v := 1) hx hb dX6_drop_71 (by decide) ?_
      refine lv_goto (tgt := 90) hx hb dX6_drop_72 (by decide) ?_
      exact wk_X6_drop_90 C hap h hP hS (lv_sub hl [1, 2] rfl)
def wp_X6_drop (σ : Rg) (μ : Ar) (x1 : Int32) (Q : Int32 → Rg → Ar → Prop) : Prop := ∀ σ2 : Rg, σ2 = upd σ 0 (0 : Int32) → (wp_X6_isOn σ2 μ  (fun r6 σ6 μ6 => ((r6 = 0 → wb_X6_drop_22 Q σ6 μ6) ∧ (¬ r6 = 0 → wp_X6_within x1 (0 : Int32) (31 : Int32) (fun r16 => ((¬ r16 = 0 → wp_X6_reads σ6 μ6 (μ6 0 3) (fun σ31 μ31 => ((¬ (μ31 0 10) = (1 : Int32) → wb_X6_drop_54 Q σ31 μ31 x1 (-1 : Int32)) ∧ ((μ31 0 10) = (1 : Int32) → wp_X6_inChange σ31 μ31 x1 (fun r47 σ47 μ47 => wb_X6_drop_54 Q σ47 μ47 x1 r47))))) ∧ (r16 = 0 → wb_X6_drop_22 Q σ6 μ6)))))))
set_option maxHeartbeats 4000000 in
set_option maxRecDepth 100000 in
theorem ct_X6_drop (l : Launch) (D : va_G) (cy : ClassId) (Ad : Nat → Nat) (hap : apt 8 Ad) {σ : Rg} {μ : Ar} {x1 : Int32} {Q : Int32 → Rg → Ar → Prop} (h : wp_X6_drop σ μ x1 Q) : Ct l yX6_drop cX6_drop 4 (some FieldType.int) rmX6_drop D [(cy, .int)] (fun H => va_P D vwCl (wM Ad cy σ μ) H) [.ref (Ad 0), .int x1] (AS 8 Ad) (PWi (wM Ad cy) D Q) := by
  refine Ct.of (by decide) (Nat.le_of_ble_eq_true rfl) ?_
  intro p e s m below meth c ls C hP hl
  have hl : lv_has ls 4 [(0, .ref (Ad 0)), (1, .int x1)] := hl
  have hS : va_S (AS 8 Ad) s.heap s.heap [] := va_S.rf
  have hx := C.1
  have hb := C.2.1
  refine lv_aload_n hx hb dX6_drop_0 rfl (lv_at hl 0 rfl) ?_
  refine lv_iconst (v := 0) hx hb dX6_drop_1 (by decide) ?_
  refine pM_model_thrown C hap (fun _ h => h) hP hS (C.2.2.2.2.2.2.1 _ wq_926) dX6_drop_2 (fun H locs hP hS => ?_)
  obtain ⟨σ2, e2⟩ : ∃ z : Rg, z = upd σ 0 (0 : Int32) := ⟨_, rfl⟩
  have hP : va_P D vwCl (wM Ad cy σ2 μ) H := by rw [e2]; exact hP
  have h := h σ2 e2
  refine lv_aload_n hx hb dX6_drop_5 rfl (lv_at hl 0 rfl) ?_
  refine kWi (rnV C (ct_X6_isOn l D cy Ad hap h) yv_X6_isOn wq_981 ⟨rfl, rfl⟩ ⟨Nat.le_of_ble_eq_true rfl, Nat.le_of_ble_eq_true rfl⟩ ⟨Nat.zero_le _, Nat.zero_le _⟩ (vM_model C hP) hP hl.1 rfl rfl (Nat.le_of_ble_eq_true rfl) dX6_drop_6) hS (fun _ h => h) (fun r6 σ6 μ6 H locs h hP hk hS => ?_)
  refine lv_if_eq (tgt := 22) hx hb dX6_drop_9 (by decide) (fun hc => ?_) (fun hc => ?_)
  · have h := h.1 hc
    exact wk_X6_drop_22 C hap h hP hS (lv_sub hl [] rfl)
  · have h := h.2 hc
    refine lv_iload_n hx hb dX6_drop_12 rfl (lv_at hl 1 rfl) ?_
    refine lv_iconst (v := 0) hx hb dX6_drop_13 (by decide) ?_
    refine lv_bipush (v := 31) hx hb dX6_drop_14 (by decide) ?_
    refine kNi (rnS (C.none) (ct_X6_within l D h) ys_X6_within wq_974 ⟨rfl, rfl⟩ ⟨Nat.le_of_ble_eq_true rfl, Nat.le_of_ble_eq_true rfl⟩ ⟨Nat.zero_le _, Nat.zero_le _⟩ trivial hl.1 rfl rfl (Nat.le_of_ble_eq_true rfl) dX6_drop_16) hS (fun _ h => h.elim) (fun r16 H locs h hk hS => ?_)
    have hP := keepN hP hk
    refine lv_if_ne (tgt := 24) hx hb dX6_drop_19 (by decide) (fun hc => ?_) (fun hc => ?_)
    · have h := h.1 hc
      refine lv_aload_n hx hb dX6_drop_24 rfl (lv_at hl 0 rfl) ?_
      refine lv_aload_n hx hb dX6_drop_25 rfl (lv_at hl 0 rfl) ?_
      refine gM_model_x C hP (C.2.2.2.2.2.2.1 _ wq_924) dX6_drop_26 ?_
      refine lv_iconst (v := 3) hx hb dX6_drop_29 (by decide) ?_
      refine lcM_0 C hP tc_3 vi_3_810 dX6_drop_30 ?_
      refine kWv (rnV C (ct_X6_reads l D cy Ad hap h) yv_X6_reads wq_1036 ⟨rfl, rfl⟩ ⟨Nat.le_of_ble_eq_true rfl, Nat.le_of_ble_eq_true rfl⟩ ⟨Nat.zero_le _, Nat.zero_le _⟩ (vM_model C hP) hP hl.1 rfl rfl (Nat.le_of_ble_eq_true rfl) dX6_drop_31) hS (fun _ h => h) (fun σ31 μ31 H locs h hP hk hS => ?_)
      refine lv_aload_n hx hb dX6_drop_34 rfl (lv_at hl 0 rfl) ?_
      refine gM_model_x C hP (C.2.2.2.2.2.2.1 _ wq_924) dX6_drop_35 ?_
      refine lv_bipush (v := 10) hx hb dX6_drop_38 (by decide) ?_
      refine lcM_0 C hP tc_10 vi_10_810 dX6_drop_40 ?_
      refine lv_iconst (v := 1) hx hb dX6_drop_41 (by decide) ?_
      refine lv_icmp_ne (tgt := 53) hx hb dX6_drop_42 (by decide) (fun hc => ?_) (fun hc => ?_)
      · have h := h.1 hc
        refine lv_iconst (v := -1) hx hb dX6_drop_53 (by decide) ?_
        exact wk_X6_drop_54 C hap h hP hS (lv_sub hl [0, 1] rfl)
      · have h := h.2 hc
        refine lv_aload_n hx hb dX6_drop_45 rfl (lv_at hl 0 rfl) ?_
        refine lv_iload_n hx hb dX6_drop_46 rfl (lv_at hl 1 rfl) ?_
        refine kWi (rnV C (ct_X6_inChange l D cy Ad hap h) yv_X6_inChange wq_1104 ⟨rfl, rfl⟩ ⟨Nat.le_of_ble_eq_true rfl, Nat.le_of_ble_eq_true rfl⟩ ⟨Nat.zero_le _, Nat.zero_le _⟩ (vM_model C hP) hP hl.1 rfl rfl (Nat.le_of_ble_eq_true rfl) dX6_drop_47) hS (fun _ h => h) (fun r47 σ47 μ47 H locs h hP hk hS => ?_)
        refine lv_goto (tgt := 54) hx hb dX6_drop_50 (by decide) ?_
        exact wk_X6_drop_54 C hap h hP hS (lv_sub hl [0, 1] rfl)
    · have h := h.2 hc
      exact wk_X6_drop_22 C hap h hP hS (lv_sub hl [] rfl)
abbrev rmX6_goesUp : Room := { frames := 2, cells := 0, slots := 0, locals := 44 }
def wb_X6_goesUp_2 (Q : Int32 → Rg → Ar → Prop) (k2 : Rg → Ar → Int32 → Int32 → Int32 → Prop) (σ : Rg) (μ : Ar) (v1 : Int32) (v2 : Int32) (v3 : Int32) : Prop := (((v2 + (8 : Int32)) ≤ v3 → Q (0 : Int32) σ μ) ∧ (¬ (v2 + (8 : Int32)) ≤ v3 → wp_X6_byteAt σ μ v1 v3 (fun r13 σ13 μ13 => ((¬ r13 = 0 → wp_J6_highestOneBit_0f7a4 r13 (fun r33 => wp_X6_writes σ13 μ13 v1 v3 (r13 &&& (r33 ^^^ (-1 : Int32))) (fun σ39 μ39 => Q (1 : Int32) σ39 μ39))) ∧ (r13 = 0 → ∀ y44 : Int32, y44 = v3 + (1 : Int32) → (k2 σ13 μ13 v1 v2 y44))))))
set_option maxHeartbeats 4000000 in
set_option maxRecDepth 100000 in
theorem wk_X6_goesUp_2 {p : Program} {l : Launch} {e : Env} {s : State} {m : MethodId} {args : Array Value} {below : List Frame} {meth : Method} {c : Code} {D : va_G} {cy : ClassId} {Ad : Nat → Nat} (C : Cx p s m args meth c RX6 cX6_goesUp 5 (some FieldType.boolean) D [(cy, .int)]) (hap : apt 8 Ad) {Q : Int32 → Rg → Ar → Prop} {k2 : Rg → Ar → Int32 → Int32 → Int32 → Prop} (hk2 : ∀ {σ : Rg} {μ : Ar} {v1 : Int32} {v2 : Int32} {v3 : Int32} {H : Heap} {locs : List Loc} {ls : Array Slot}, k2 σ μ v1 v2 v3 → va_P D vwCl (wM Ad cy σ μ) H → va_S (AS 8 Ad) s.heap H locs → lv_has ls 5 [(0, .ref (Ad 0)), (1, .int v1), (2, .int v2), (3, .int v3)] → W p l e rmX6_goesUp s m args below meth c H locs 0 0 (MQ below (Qcg (PWi (wM Ad cy) D Q) (AS 8 Ad)) args s 0 0 (AS 8 Ad)) (F0 m 2 ls [])) {σ : Rg} {μ : Ar} {v1 : Int32} {v2 : Int32} {v3 : Int32} {H : Heap} {locs : List Loc} {ls : Array Slot} (h : wb_X6_goesUp_2 Q k2 σ μ v1 v2 v3) (hP : va_P D vwCl (wM Ad cy σ μ) H) (hS : va_S (AS 8 Ad) s.heap H locs) (hl : lv_has ls 5 [(0, .ref (Ad 0)), (1, .int v1), (2, .int v2), (3, .int v3)]) : W p l e rmX6_goesUp s m args below meth c H locs 0 0 (MQ below (Qcg (PWi (wM Ad cy) D Q) (AS 8 Ad)) args s 0 0 (AS 8 Ad)) (F0 m 2 ls []) := by
  have hx := C.1
  have hb := C.2.1
  refine lv_iload_n hx hb dX6_goesUp_2 rfl (lv_at hl 3 rfl) ?_
  refine lv_iload_n hx hb dX6_goesUp_3 rfl (lv_at hl 2 rfl) ?_
  refine lv_bipush (v := 8) hx hb dX6_goesUp_4 (by decide) ?_
  refine lv_iadd hx hb dX6_goesUp_6 ?_
  refine lv_icmp_ge (tgt := 50) hx hb dX6_goesUp_7 (by decide) (fun hc => ?_) (fun hc => ?_)
  · have h := h.1 hc
    refine lv_iconst (v := 0) hx hb dX6_goesUp_50 (by decide) ?_
    exact endZ C hS bz0 ⟨_, _, _, rfl, h, hP⟩ dX6_goesUp_51
  · have h := h.2 hc
    refine lv_aload_n hx hb dX6_goesUp_10 rfl (lv_at hl 0 rfl) ?_
    refine lv_iload_n hx hb dX6_goesUp_11 rfl (lv_at hl 1 rfl) ?_
    refine lv_iload_n hx hb dX6_goesUp_12 rfl (lv_at hl 3 rfl) ?_
    refine kWi (rnV C (ct_X6_byteAt l D cy Ad hap h) yv_X6_byteAt wq_997 ⟨rfl, rfl⟩ ⟨Nat.le_of_ble_eq_true rfl, Nat.le_of_ble_eq_true rfl⟩ ⟨Nat.zero_le _, Nat.zero_le _⟩ (vM_model C hP) hP hl.1 rfl rfl (Nat.le_of_ble_eq_true rfl) dX6_goesUp_13) hS (fun _ h => h) (fun r13 σ13 μ13 H locs h hP hk hS => ?_)
    refine lv_istore (lv' := [(4, .int r13), (0, .ref (Ad 0)), (1, .int v1), (2, .int v2), (3, .int v3)]) hx hb dX6_goesUp_16 hl (by decide) rfl (fun ls hl => ?_)
    refine lv_iload hx hb dX6_goesUp_18 (lv_at hl 0 rfl) ?_
    refine lv_if_ne (tgt := 26) hx hb dX6_goesUp_20 (by decide) (fun hc => ?_) (fun hc => ?_)
    · have h := h.1 hc
      refine lv_aload_n hx hb dX6_goesUp_26 rfl (lv_at hl 1 rfl) ?_
      refine lv_iload_n hx hb dX6_goesUp_27 rfl (lv_at hl 2 rfl) ?_
      refine lv_iload_n hx hb dX6_goesUp_28 rfl (lv_at hl 4 rfl) ?_
      refine lv_iload hx hb dX6_goesUp_29 (lv_at hl 0 rfl) ?_
      refine lv_iload hx hb dX6_goesUp_31 (lv_at hl 0 rfl) ?_
      refine kNi (rnS (C.none) (ct_J6_highestOneBit_0f7a4 l D h) ys_J6_highestOneBit_0f7a4 wq_1176 ⟨rfl, rfl⟩ ⟨Nat.le_of_ble_eq_true rfl, Nat.le_of_ble_eq_true rfl⟩ ⟨Nat.zero_le _, Nat.zero_le _⟩ trivial hl.1 rfl rfl (Nat.le_of_ble_eq_true rfl) dX6_goesUp_33) hS (fun _ h => h.elim) (fun r33 H locs h hk hS => ?_)
      have hP := keepN hP hk
      refine lv_iconst (v := -1) hx hb dX6_goesUp_36 (by decide) ?_
      refine lv_ixor hx hb dX6_goesUp_37 ?_
      refine lv_iand hx hb dX6_goesUp_38 ?_
      refine kWv (rnV C (ct_X6_writes l D cy Ad hap h) yv_X6_writes wq_1032 ⟨rfl, rfl⟩ ⟨Nat.le_of_ble_eq_true rfl, Nat.le_of_ble_eq_true rfl⟩ ⟨Nat.zero_le _, Nat.zero_le _⟩ (vM_model C hP) hP hl.1 rfl rfl (Nat.le_of_ble_eq_true rfl) dX6_goesUp_39) hS (fun _ h => h) (fun σ39 μ39 H locs h hP hk hS => ?_)
      refine lv_iconst (v := 1) hx hb dX6_goesUp_42 (by decide) ?_
      exact endZ C hS bz1 ⟨_, _, _, rfl, h, hP⟩ dX6_goesUp_43
    · have h := h.2 hc
      refine lv_goto (tgt := 44) hx hb dX6_goesUp_23 (by decide) ?_
      obtain ⟨y44, e44⟩ : ∃ y : Int32, y = v3 + (1 : Int32) := ⟨_, rfl⟩
      have h := h y44 e44
      refine lv_iinc (v := y44) (lv' := [(3, .int y44), (4, .int r13), (0, .ref (Ad 0)), (1, .int v1), (2, .int v2)]) hx hb dX6_goesUp_44 hl (k := 4) rfl (by rw [e44]; rfl) (by decide) rfl (fun ls hl => ?_)
      refine lv_goto (tgt := 2) hx hb dX6_goesUp_47 (by decide) ?_
      exact hk2 h hP hS (lv_sub hl [2, 3, 4, 0] rfl)
def wl_X6_goesUp_2 (Q : Int32 → Rg → Ar → Prop) (n : Nat) : Rg → Ar → Int32 → Int32 → Int32 → Prop := Nat.rec (motive := fun _ => Rg → Ar → Int32 → Int32 → Int32 → Prop) (fun _ _ _ _ _ => False) (fun _ k => wb_X6_goesUp_2 Q k) n
set_option maxHeartbeats 4000000 in
theorem wkl_X6_goesUp_2 {p : Program} {l : Launch} {e : Env} {s : State} {m : MethodId} {args : Array Value} {below : List Frame} {meth : Method} {c : Code} {D : va_G} {cy : ClassId} {Ad : Nat → Nat} (C : Cx p s m args meth c RX6 cX6_goesUp 5 (some FieldType.boolean) D [(cy, .int)]) (hap : apt 8 Ad) {Q : Int32 → Rg → Ar → Prop}  : ∀ (n : Nat) {σ : Rg} {μ : Ar} {v1 : Int32} {v2 : Int32} {v3 : Int32} {H : Heap} {locs : List Loc} {ls : Array Slot} (h : wl_X6_goesUp_2 Q  n σ μ v1 v2 v3) (hP : va_P D vwCl (wM Ad cy σ μ) H) (hS : va_S (AS 8 Ad) s.heap H locs) (hl : lv_has ls 5 [(0, .ref (Ad 0)), (1, .int v1), (2, .int v2), (3, .int v3)]), W p l e rmX6_goesUp s m args below meth c H locs 0 0 (MQ below (Qcg (PWi (wM Ad cy) D Q) (AS 8 Ad)) args s 0 0 (AS 8 Ad)) (F0 m 2 ls []) := by
  intro n
  induction n with
  | zero => intro σ μ v1 v2 v3 H locs ls h; exact h.elim
  | succ n ih =>
    intro σ μ v1 v2 v3 H locs ls h hP hS hl
    exact wk_X6_goesUp_2 C hap (fun h hP hS hl => ih h hP hS hl) h hP hS hl
def wp_X6_goesUp (σ : Rg) (μ : Ar) (x1 : Int32) (x2 : Int32) (Q : Int32 → Rg → Ar → Prop) : Prop := ∃ n, wl_X6_goesUp_2 Q n σ μ x1 x2 x2
set_option maxHeartbeats 4000000 in
set_option maxRecDepth 100000 in
theorem ct_X6_goesUp (l : Launch) (D : va_G) (cy : ClassId) (Ad : Nat → Nat) (hap : apt 8 Ad) {σ : Rg} {μ : Ar} {x1 : Int32} {x2 : Int32} {Q : Int32 → Rg → Ar → Prop} (h : wp_X6_goesUp σ μ x1 x2 Q) : Ct l yX6_goesUp cX6_goesUp 5 (some FieldType.boolean) rmX6_goesUp D [(cy, .int)] (fun H => va_P D vwCl (wM Ad cy σ μ) H) [.ref (Ad 0), .int x1, .int x2] (AS 8 Ad) (PWi (wM Ad cy) D Q) := by
  refine Ct.of (by decide) (Nat.le_of_ble_eq_true rfl) ?_
  intro p e s m below meth c ls C hP hl
  have hl : lv_has ls 5 [(0, .ref (Ad 0)), (1, .int x1), (2, .int x2)] := hl
  have hS : va_S (AS 8 Ad) s.heap s.heap [] := va_S.rf
  have hx := C.1
  have hb := C.2.1
  refine lv_iload_n hx hb dX6_goesUp_0 rfl (lv_at hl 2 rfl) ?_
  refine lv_istore_n (lv' := [(3, .int x2), (0, .ref (Ad 0)), (1, .int x1), (2, .int x2)]) hx hb dX6_goesUp_1 rfl hl (by decide) rfl (fun ls hl => ?_)
  obtain ⟨n, h⟩ := h
  exact wkl_X6_goesUp_2 C hap n h hP hS (lv_sub hl [1, 2, 3, 0] rfl)
abbrev rmX6_bump : Room := { frames := 7, cells := 0, slots := 0, locals := 156 }
def wb_X6_bump_34 (Q : Int32 → Rg → Ar → Prop) (σ : Rg) (μ : Ar) : Prop := Q (-1 : Int32) σ μ
set_option maxHeartbeats 4000000 in
set_option maxRecDepth 100000 in
theorem wk_X6_bump_34 {p : Program} {l : Launch} {e : Env} {s : State} {m : MethodId} {args : Array Value} {below : List Frame} {meth : Method} {c : Code} {D : va_G} {cy : ClassId} {Ad : Nat → Nat} (C : Cx p s m args meth c RX6 cX6_bump 4 (some FieldType.int) D [(cy, .int)]) (hap : apt 8 Ad) {Q : Int32 → Rg → Ar → Prop} {σ : Rg} {μ : Ar}  {H : Heap} {locs : List Loc} {ls : Array Slot} (h : wb_X6_bump_34 Q σ μ) (hP : va_P D vwCl (wM Ad cy σ μ) H) (hS : va_S (AS 8 Ad) s.heap H locs) (hl : lv_has ls 4 []) : W p l e rmX6_bump s m args below meth c H locs 0 0 (MQ below (Qcg (PWi (wM Ad cy) D Q) (AS 8 Ad)) args s 0 0 (AS 8 Ad)) (F0 m 34 ls []) := by
  have hx := C.1
  have hb := C.2.1
  refine lv_iconst (v := -1) hx hb dX6_bump_34 (by decide) ?_
  exact endI C hS ⟨_, _, _, rfl, h, hP⟩ dX6_bump_35
def wb_X6_bump_147 (Q : Int32 → Rg → Ar → Prop) (σ : Rg) (μ : Ar) (t0 : Int32) : Prop := Q t0 σ μ
set_option maxHeartbeats 4000000 in
set_option maxRecDepth 100000 in
theorem wk_X6_bump_147 {p : Program} {l : Launch} {e : Env} {s : State} {m : MethodId} {args : Array Value} {below : List Frame} {meth : Method} {c : Code} {D : va_G} {cy : ClassId} {Ad : Nat → Nat} (C : Cx p s m args meth c RX6 cX6_bump 4 (some FieldType.int) D [(cy, .int)]) (hap : apt 8 Ad) {Q : Int32 → Rg → Ar → Prop} {σ : Rg} {μ : Ar} {t0 : Int32} {H : Heap} {locs : List Loc} {ls : Array Slot} (h : wb_X6_bump_147 Q σ μ t0) (hP : va_P D vwCl (wM Ad cy σ μ) H) (hS : va_S (AS 8 Ad) s.heap H locs) (hl : lv_has ls 4 []) : W p l e rmX6_bump s m args below meth c H locs 0 0 (MQ below (Qcg (PWi (wM Ad cy) D Q) (AS 8 Ad)) args s 0 0 (AS 8 Ad)) (F0 m 147 ls [.int t0]) := by
  have hx := C.1
  have hb := C.2.1
  exact endI C hS ⟨_, _, _, rfl, h, hP⟩ dX6_bump_147
def wb_X6_bump_132 (Q : Int32 → Rg → Ar → Prop) (σ : Rg) (μ : Ar) (v3 : Int32) : Prop := (((σ 1) = 0 → wb_X6_bump_147 Q σ μ (v3 + (1 : Int32))) ∧ (¬ (σ 1) = 0 → wb_X6_bump_147 Q σ μ (-3 : Int32)))
set_option maxHeartbeats 4000000 in
set_option maxRecDepth 100000 in
theorem wk_X6_bump_132 {p : Program} {l : Launch} {e : Env} {s : State} {m : MethodId} {args : Array Value} {below : List Frame} {meth : Method} {c : Code} {D : va_G} {cy : ClassId} {Ad : Nat → Nat} (C : Cx p s m args meth c RX6 cX6_bump 4 (some FieldType.int) D [(cy, .int)]) (hap : apt 8 Ad) {Q : Int32 → Rg → Ar → Prop} {σ : Rg} {μ : Ar} {v3 : Int32} {H : Heap} {locs : List Loc} {ls : Array Slot} (h : wb_X6_bump_132 Q σ μ v3) (hP : va_P D vwCl (wM Ad cy σ μ) H) (hS : va_S (AS 8 Ad) s.heap H locs) (hl : lv_has ls 4 [(0, .ref (Ad 0)), (3, .int v3)]) : W p l e rmX6_bump s m args below meth c H locs 0 0 (MQ below (Qcg (PWi (wM Ad cy) D Q) (AS 8 Ad)) args s 0 0 (AS 8 Ad)) (F0 m 132 ls []) := by
  have hx := C.1
  have hb := C.2.1
  refine lv_aload_n hx hb dX6_bump_132 rfl (lv_at hl 0 rfl) ?_
  refine gM_model_isGone C hP (C.2.2.2.2.2.2.1 _ wq_927) dX6_bump_133 ?_
  refine lv_if_eq (tgt := 144) hx hb dX6_bump_136 (by decide) (fun hc => ?_) (fun hc => ?_)
  · have h := h.1 hc
    refine lv_iload_n hx hb dX6_bump_144 rfl (lv_at hl 1 rfl) ?_
    refine lv_iconst (v := 1) hx hb dX6_bump_145 (by decide) ?_
    refine lv_iadd hx hb dX6_bump_146 ?_
    exact wk_X6_bump_147 C hap h hP hS (lv_sub hl [] rfl)
  · have h := h.2 hc
    refine lv_bipush (v := -3) hx hb dX6_bump_139 (by decide) ?_
    refine lv_goto (tgt := 147) hx hb dX6_bump_141 (by decide) ?_
    exact wk_X6_bump_147 C hap h hP hS (lv_sub hl [] rfl)
def wb_X6_bump_112 (Q : Int32 → Rg → Ar → Prop) (σ : Rg) (μ : Ar) (v1 : Int32) (v3 : Int32) : Prop := wp_X6_makesRoom σ μ (14 : Int32) (fun r115 σ115 μ115 => ((¬ r115 = 0 → wp_X6_laysCounter σ115 μ115 v1 (v3 + (1 : Int32)) (fun σ129 μ129 => wb_X6_bump_132 Q σ129 μ129 v3)) ∧ (r115 = 0 → Q (-2 : Int32) σ115 μ115)))
set_option maxHeartbeats 4000000 in
set_option maxRecDepth 100000 in
theorem wk_X6_bump_112 {p : Program} {l : Launch} {e : Env} {s : State} {m : MethodId} {args : Array Value} {below : List Frame} {meth : Method} {c : Code} {D : va_G} {cy : ClassId} {Ad : Nat → Nat} (C : Cx p s m args meth c RX6 cX6_bump 4 (some FieldType.int) D [(cy, .int)]) (hap : apt 8 Ad) {Q : Int32 → Rg → Ar → Prop} {σ : Rg} {μ : Ar} {v1 : Int32} {v3 : Int32} {H : Heap} {locs : List Loc} {ls : Array Slot} (h : wb_X6_bump_112 Q σ μ v1 v3) (hP : va_P D vwCl (wM Ad cy σ μ) H) (hS : va_S (AS 8 Ad) s.heap H locs) (hl : lv_has ls 4 [(0, .ref (Ad 0)), (1, .int v1), (3, .int v3)]) : W p l e rmX6_bump s m args below meth c H locs 0 0 (MQ below (Qcg (PWi (wM Ad cy) D Q) (AS 8 Ad)) args s 0 0 (AS 8 Ad)) (F0 m 112 ls []) := by
  have hx := C.1
  have hb := C.2.1
  refine lv_aload_n hx hb dX6_bump_112 rfl (lv_at hl 0 rfl) ?_
  refine lv_bipush (v := 14) hx hb dX6_bump_113 (by decide) ?_
  refine kWi (rnV C (ct_X6_makesRoom l D cy Ad hap h) yv_X6_makesRoom wq_1108 ⟨rfl, rfl⟩ ⟨Nat.le_of_ble_eq_true rfl, Nat.le_of_ble_eq_true rfl⟩ ⟨Nat.zero_le _, Nat.zero_le _⟩ (vM_model C hP) hP hl.1 rfl rfl (Nat.le_of_ble_eq_true rfl) dX6_bump_115) hS (fun _ h => h) (fun r115 σ115 μ115 H locs h hP hk hS => ?_)
  refine lv_if_ne (tgt := 124) hx hb dX6_bump_118 (by decide) (fun hc => ?_) (fun hc => ?_)
  · have h := h.1 hc
    refine lv_aload_n hx hb dX6_bump_124 rfl (lv_at hl 0 rfl) ?_
    refine lv_iload_n hx hb dX6_bump_125 rfl (lv_at hl 1 rfl) ?_
    refine lv_iload_n hx hb dX6_bump_126 rfl (lv_at hl 2 rfl) ?_
    refine lv_iconst (v := 1) hx hb dX6_bump_127 (by decide) ?_
    refine lv_iadd hx hb dX6_bump_128 ?_
    refine kWv (rnV C (ct_X6_laysCounter l D cy Ad hap h) yv_X6_laysCounter wq_1143 ⟨rfl, rfl⟩ ⟨Nat.le_of_ble_eq_true rfl, Nat.le_of_ble_eq_true rfl⟩ ⟨Nat.zero_le _, Nat.zero_le _⟩ (vM_model C hP) hP hl.1 rfl rfl (Nat.le_of_ble_eq_true rfl) dX6_bump_129) hS (fun _ h => h) (fun σ129 μ129 H locs h hP hk hS => ?_)
    exact wk_X6_bump_132 C hap h hP hS (lv_sub hl [0, 2] rfl)
  · have h := h.2 hc
    refine lv_bipush (v := -2) hx hb dX6_bump_121 (by decide) ?_
    exact endI C hS ⟨_, _, _, rfl, h, hP⟩ dX6_bump_123
def wb_X6_bump_73 (Q : Int32 → Rg → Ar → Prop) (σ : Rg) (μ : Ar) (v1 : Int32) (v2 : Int32) (t0 : Int32) : Prop := ((t0 < (16777215 : Int32) → wp_X6_begins σ μ  (fun σ83 μ83 => ((v2 < 0 → wb_X6_bump_112 Q σ83 μ83 v1 t0) ∧ (¬ v2 < 0 → (vp_in v2 64) ∧ (wp_X6_goesUp σ83 μ83 (μ83 0 3) ((μ83 2 (v2).toNatClampNeg) + (6 : Int32)) (fun r106 σ106 μ106 => ((¬ r106 = 0 → wb_X6_bump_132 Q σ106 μ106 t0) ∧ (r106 = 0 → wb_X6_bump_112 Q σ106 μ106 v1 t0)))))))) ∧ (¬ t0 < (16777215 : Int32) → Q (-1 : Int32) σ μ))
set_option maxHeartbeats 4000000 in
set_option maxRecDepth 100000 in
theorem wk_X6_bump_73 {p : Program} {l : Launch} {e : Env} {s : State} {m : MethodId} {args : Array Value} {below : List Frame} {meth : Method} {c : Code} {D : va_G} {cy : ClassId} {Ad : Nat → Nat} (C : Cx p s m args meth c RX6 cX6_bump 4 (some FieldType.int) D [(cy, .int)]) (hap : apt 8 Ad) {Q : Int32 → Rg → Ar → Prop} {σ : Rg} {μ : Ar} {v1 : Int32} {v2 : Int32} {t0 : Int32} {H : Heap} {locs : List Loc} {ls : Array Slot} (h : wb_X6_bump_73 Q σ μ v1 v2 t0) (hP : va_P D vwCl (wM Ad cy σ μ) H) (hS : va_S (AS 8 Ad) s.heap H locs) (hl : lv_has ls 4 [(0, .ref (Ad 0)), (1, .int v1), (2, .int v2)]) : W p l e rmX6_bump s m args below meth c H locs 0 0 (MQ below (Qcg (PWi (wM Ad cy) D Q) (AS 8 Ad)) args s 0 0 (AS 8 Ad)) (F0 m 73 ls [.int t0]) := by
  have hx := C.1
  have hb := C.2.1
  refine lv_istore_n (lv' := [(3, .int t0), (0, .ref (Ad 0)), (1, .int v1), (2, .int v2)]) hx hb dX6_bump_73 rfl hl (by decide) rfl (fun ls hl => ?_)
  refine lv_iload_n hx hb dX6_bump_74 rfl (lv_at hl 0 rfl) ?_
  refine lv_ldc hx hb C.2.2.2.1 (C.2.2.2.2.2.2.1 _ wq_1171) dX6_bump_75 ?_
  refine lv_icmp_lt (tgt := 82) hx hb dX6_bump_77 (by decide) (fun hc => ?_) (fun hc => ?_)
  · have h := h.1 hc
    refine lv_aload_n hx hb dX6_bump_82 rfl (lv_at hl 1 rfl) ?_
    refine kWv (rnV C (ct_X6_begins l D cy Ad hap h) yv_X6_begins wq_985 ⟨rfl, rfl⟩ ⟨Nat.le_of_ble_eq_true rfl, Nat.le_of_ble_eq_true rfl⟩ ⟨Nat.zero_le _, Nat.zero_le _⟩ (vM_model C hP) hP hl.1 rfl rfl (Nat.le_of_ble_eq_true rfl) dX6_bump_83) hS (fun _ h => h) (fun σ83 μ83 H locs h hP hk hS => ?_)
    refine lv_iload_n hx hb dX6_bump_86 rfl (lv_at hl 3 rfl) ?_
    refine lv_if_lt (tgt := 112) hx hb dX6_bump_87 (by decide) (fun hc => ?_) (fun hc => ?_)
    · have h := h.1 hc
      exact wk_X6_bump_112 C hap h hP hS (lv_sub hl [1, 2, 0] rfl)
    · have h := h.2 hc
      refine lv_aload_n hx hb dX6_bump_90 rfl (lv_at hl 1 rfl) ?_
      refine lv_aload_n hx hb dX6_bump_91 rfl (lv_at hl 1 rfl) ?_
      refine gM_model_x C hP (C.2.2.2.2.2.2.1 _ wq_924) dX6_bump_92 ?_
      refine lv_iconst (v := 3) hx hb dX6_bump_95 (by decide) ?_
      refine lcM_0 C hP tc_3 vi_3_810 dX6_bump_96 ?_
      refine lv_aload_n hx hb dX6_bump_97 rfl (lv_at hl 1 rfl) ?_
      refine gM_model_place C hP (C.2.2.2.2.2.2.1 _ wq_931) dX6_bump_98 ?_
      refine lv_iload_n hx hb dX6_bump_101 rfl (lv_at hl 3 rfl) ?_
      obtain ⟨hc, h⟩ := h
      refine lM_2 C hP hc dX6_bump_102 ?_
      refine lv_bipush (v := 6) hx hb dX6_bump_103 (by decide) ?_
      refine lv_iadd hx hb dX6_bump_105 ?_
      refine kWi (rnV C (ct_X6_goesUp l D cy Ad hap h) yv_X6_goesUp wq_1172 ⟨rfl, rfl⟩ ⟨Nat.le_of_ble_eq_true rfl, Nat.le_of_ble_eq_true rfl⟩ ⟨Nat.zero_le _, Nat.zero_le _⟩ (vM_model C hP) hP hl.1 rfl rfl (Nat.le_of_ble_eq_true rfl) dX6_bump_106) hS (fun _ h => h) (fun r106 σ106 μ106 H locs h hP hk hS => ?_)
      refine lv_if_ne (tgt := 132) hx hb dX6_bump_109 (by decide) (fun hc => ?_) (fun hc => ?_)
      · have h := h.1 hc
        exact wk_X6_bump_132 C hap h hP hS (lv_sub hl [1, 0] rfl)
      · have h := h.2 hc
        exact wk_X6_bump_112 C hap h hP hS (lv_sub hl [1, 2, 0] rfl)
  · have h := h.2 hc
    refine lv_iconst (v := -1) hx hb dX6_bump_80 (by decide) ?_
    exact endI C hS ⟨_, _, _, rfl, h, hP⟩ dX6_bump_81
def wp_X6_bump (σ : Rg) (μ : Ar) (x1 : Int32) (Q : Int32 → Rg → Ar → Prop) : Prop := ∀ σ2 : Rg, σ2 = upd σ 0 (0 : Int32) → (wp_X6_isOn σ2 μ  (fun r6 σ6 μ6 => ((r6 = 0 → wb_X6_bump_34 Q σ6 μ6) ∧ (¬ r6 = 0 → (((μ6 0 10) = (1 : Int32) → wb_X6_bump_34 Q σ6 μ6) ∧ (¬ (μ6 0 10) = (1 : Int32) → wp_X6_within x1 (32 : Int32) (47 : Int32) (fun r28 => ((¬ r28 = 0 → wp_X6_reads σ6 μ6 (μ6 0 3) (fun σ43 μ43 => (vp_in x1 48) ∧ (∀ y52 : Int32, y52 = (μ43 6 (x1).toNatClampNeg) → (((0 ≤ y52 → wp_X6_valueOf σ43 μ43 (μ43 0 3) y52 (fun r69 σ69 μ69 => wb_X6_bump_73 Q σ69 μ69 x1 y52 (r69).toInt32)) ∧ (¬ 0 ≤ y52 → wb_X6_bump_73 Q σ43 μ43 x1 y52 (0 : Int32))))))) ∧ (r28 = 0 → wb_X6_bump_34 Q σ6 μ6)))))))))
set_option maxHeartbeats 4000000 in
set_option maxRecDepth 100000 in
theorem ct_X6_bump (l : Launch) (D : va_G) (cy : ClassId) (Ad : Nat → Nat) (hap : apt 8 Ad) {σ : Rg} {μ : Ar} {x1 : Int32} {Q : Int32 → Rg → Ar → Prop} (h : wp_X6_bump σ μ x1 Q) : Ct l yX6_bump cX6_bump 4 (some FieldType.int) rmX6_bump D [(cy, .int)] (fun H => va_P D vwCl (wM Ad cy σ μ) H) [.ref (Ad 0), .int x1] (AS 8 Ad) (PWi (wM Ad cy) D Q) := by
  refine Ct.of (by decide) (Nat.le_of_ble_eq_true rfl) ?_
  intro p e s m below meth c ls C hP hl
  have hl : lv_has ls 4 [(0, .ref (Ad 0)), (1, .int x1)] := hl
  have hS : va_S (AS 8 Ad) s.heap s.heap [] := va_S.rf
  have hx := C.1
  have hb := C.2.1
  refine lv_aload_n hx hb dX6_bump_0 rfl (lv_at hl 0 rfl) ?_
  refine lv_iconst (v := 0) hx hb dX6_bump_1 (by decide) ?_
  refine pM_model_thrown C hap (fun _ h => h) hP hS (C.2.2.2.2.2.2.1 _ wq_926) dX6_bump_2 (fun H locs hP hS => ?_)
  obtain ⟨σ2, e2⟩ : ∃ z : Rg, z = upd σ 0 (0 : Int32) := ⟨_, rfl⟩
  have hP : va_P D vwCl (wM Ad cy σ2 μ) H := by rw [e2]; exact hP
  have h := h σ2 e2
  refine lv_aload_n hx hb dX6_bump_5 rfl (lv_at hl 0 rfl) ?_
  refine kWi (rnV C (ct_X6_isOn l D cy Ad hap h) yv_X6_isOn wq_981 ⟨rfl, rfl⟩ ⟨Nat.le_of_ble_eq_true rfl, Nat.le_of_ble_eq_true rfl⟩ ⟨Nat.zero_le _, Nat.zero_le _⟩ (vM_model C hP) hP hl.1 rfl rfl (Nat.le_of_ble_eq_true rfl) dX6_bump_6) hS (fun _ h => h) (fun r6 σ6 μ6 H locs h hP hk hS => ?_)
  refine lv_if_eq (tgt := 34) hx hb dX6_bump_9 (by decide) (fun hc => ?_) (fun hc => ?_)
  · have h := h.1 hc
    exact wk_X6_bump_34 C hap h hP hS (lv_sub hl [] rfl)
  · have h := h.2 hc
    refine lv_aload_n hx hb dX6_bump_12 rfl (lv_at hl 0 rfl) ?_
    refine gM_model_x C hP (C.2.2.2.2.2.2.1 _ wq_924) dX6_bump_13 ?_
    refine lv_bipush (v := 10) hx hb dX6_bump_16 (by decide) ?_
    refine lcM_0 C hP tc_10 vi_10_810 dX6_bump_18 ?_
    refine lv_iconst (v := 1) hx hb dX6_bump_19 (by decide) ?_
    refine lv_icmp_eq (tgt := 34) hx hb dX6_bump_20 (by decide) (fun hc => ?_) (fun hc => ?_)
    · have h := h.1 hc
      exact wk_X6_bump_34 C hap h hP hS (lv_sub hl [] rfl)
    · have h := h.2 hc
      refine lv_iload_n hx hb dX6_bump_23 rfl (lv_at hl 1 rfl) ?_
      refine lv_bipush (v := 32) hx hb dX6_bump_24 (by decide) ?_
      refine lv_bipush (v := 47) hx hb dX6_bump_26 (by decide) ?_
      refine kNi (rnS (C.none) (ct_X6_within l D h) ys_X6_within wq_974 ⟨rfl, rfl⟩ ⟨Nat.le_of_ble_eq_true rfl, Nat.le_of_ble_eq_true rfl⟩ ⟨Nat.zero_le _, Nat.zero_le _⟩ trivial hl.1 rfl rfl (Nat.le_of_ble_eq_true rfl) dX6_bump_28) hS (fun _ h => h.elim) (fun r28 H locs h hk hS => ?_)
      have hP := keepN hP hk
      refine lv_if_ne (tgt := 36) hx hb dX6_bump_31 (by decide) (fun hc => ?_) (fun hc => ?_)
      · have h := h.1 hc
        refine lv_aload_n hx hb dX6_bump_36 rfl (lv_at hl 0 rfl) ?_
        refine lv_aload_n hx hb dX6_bump_37 rfl (lv_at hl 0 rfl) ?_
        refine gM_model_x C hP (C.2.2.2.2.2.2.1 _ wq_924) dX6_bump_38 ?_
        refine lv_iconst (v := 3) hx hb dX6_bump_41 (by decide) ?_
        refine lcM_0 C hP tc_3 vi_3_810 dX6_bump_42 ?_
        refine kWv (rnV C (ct_X6_reads l D cy Ad hap h) yv_X6_reads wq_1036 ⟨rfl, rfl⟩ ⟨Nat.le_of_ble_eq_true rfl, Nat.le_of_ble_eq_true rfl⟩ ⟨Nat.zero_le _, Nat.zero_le _⟩ (vM_model C hP) hP hl.1 rfl rfl (Nat.le_of_ble_eq_true rfl) dX6_bump_43) hS (fun _ h => h) (fun σ43 μ43 H locs h hP hk hS => ?_)
        refine lv_aload_n hx hb dX6_bump_46 rfl (lv_at hl 0 rfl) ?_
        refine gM_model_newest C hP (C.2.2.2.2.2.2.1 _ wq_935) dX6_bump_47 ?_
        refine lv_iload_n hx hb dX6_bump_50 rfl (lv_at hl 1 rfl) ?_
        obtain ⟨hc, h⟩ := h
        refine lM_6 C hP hc dX6_bump_51 ?_
        refine lv_topi (fun y52 e52 => ?_)
        have h := h y52 e52
        refine lv_istore_n (lv' := [(2, .int y52), (0, .ref (Ad 0)), (1, .int x1)]) hx hb dX6_bump_52 rfl hl (by decide) rfl (fun ls hl => ?_)
        refine lv_iload_n hx hb dX6_bump_53 rfl (lv_at hl 0 rfl) ?_
        refine lv_if_ge (tgt := 61) hx hb dX6_bump_54 (by decide) (fun hc => ?_) (fun hc => ?_)
        · have h := h.1 hc
          refine lv_aload_n hx hb dX6_bump_61 rfl (lv_at hl 1 rfl) ?_
          refine lv_aload_n hx hb dX6_bump_62 rfl (lv_at hl 1 rfl) ?_
          refine gM_model_x C hP (C.2.2.2.2.2.2.1 _ wq_924) dX6_bump_63 ?_
          refine lv_iconst (v := 3) hx hb dX6_bump_66 (by decide) ?_
          refine lcM_0 C hP tc_3 vi_3_810 dX6_bump_67 ?_
          refine lv_iload_n hx hb dX6_bump_68 rfl (lv_at hl 0 rfl) ?_
          refine kWl (rnV C (ct_X6_valueOf l D cy Ad hap h) yv_X6_valueOf wq_1129 ⟨rfl, rfl⟩ ⟨Nat.le_of_ble_eq_true rfl, Nat.le_of_ble_eq_true rfl⟩ ⟨Nat.zero_le _, Nat.zero_le _⟩ (vM_model C hP) hP hl.1 rfl rfl (Nat.le_of_ble_eq_true rfl) dX6_bump_69) hS (fun _ h => h) (fun r69 σ69 μ69 H locs h hP hk hS => ?_)
          refine lv_l2i hx hb dX6_bump_72 rfl ?_
          exact wk_X6_bump_73 C hap h hP hS (lv_sub hl [1, 2, 0] rfl)
        · have h := h.2 hc
          refine lv_iconst (v := 0) hx hb dX6_bump_57 (by decide) ?_
          refine lv_goto (tgt := 73) hx hb dX6_bump_58 (by decide) ?_
          exact wk_X6_bump_73 C hap h hP hS (lv_sub hl [1, 2, 0] rfl)
      · have h := h.2 hc
        exact wk_X6_bump_34 C hap h hP hS (lv_sub hl [] rfl)
abbrev rmX6_begin : Room := { frames := 1, cells := 0, slots := 0, locals := 20 }
def wb_X6_begin_23 (Q : Int32 → Rg → Ar → Prop) (σ : Rg) (μ : Ar) : Prop := Q (0 : Int32) σ μ
set_option maxHeartbeats 4000000 in
set_option maxRecDepth 100000 in
theorem wk_X6_begin_23 {p : Program} {l : Launch} {e : Env} {s : State} {m : MethodId} {args : Array Value} {below : List Frame} {meth : Method} {c : Code} {D : va_G} {cy : ClassId} {Ad : Nat → Nat} (C : Cx p s m args meth c RX6 cX6_begin 1 (some FieldType.boolean) D [(cy, .int)]) (hap : apt 8 Ad) {Q : Int32 → Rg → Ar → Prop} {σ : Rg} {μ : Ar}  {H : Heap} {locs : List Loc} {ls : Array Slot} (h : wb_X6_begin_23 Q σ μ) (hP : va_P D vwCl (wM Ad cy σ μ) H) (hS : va_S (AS 8 Ad) s.heap H locs) (hl : lv_has ls 1 []) : W p l e rmX6_begin s m args below meth c H locs 0 0 (MQ below (Qcg (PWi (wM Ad cy) D Q) (AS 8 Ad)) args s 0 0 (AS 8 Ad)) (F0 m 23 ls []) := by
  have hx := C.1
  have hb := C.2.1
  refine lv_iconst (v := 0) hx hb dX6_begin_23 (by decide) ?_
  exact endZ C hS bz0 ⟨_, _, _, rfl, h, hP⟩ dX6_begin_24
def wp_X6_begin (σ : Rg) (μ : Ar) (Q : Int32 → Rg → Ar → Prop) : Prop := ∀ σ2 : Rg, σ2 = upd σ 0 (0 : Int32) → (wp_X6_isOn σ2 μ  (fun r6 σ6 μ6 => ((r6 = 0 → wb_X6_begin_23 Q σ6 μ6) ∧ (¬ r6 = 0 → ((¬ (μ6 0 10) = (1 : Int32) → ∀ μ32 : Ar, μ32 = updA μ6 0 (upd (μ6 0) 10 (1 : Int32)) → (∀ μ40 : Ar, μ40 = updA μ32 0 (upd (μ32 0) 11 (0 : Int32)) → (Q (1 : Int32) σ6 μ40))) ∧ ((μ6 0 10) = (1 : Int32) → wb_X6_begin_23 Q σ6 μ6))))))
set_option maxHeartbeats 4000000 in
set_option maxRecDepth 100000 in
theorem ct_X6_begin (l : Launch) (D : va_G) (cy : ClassId) (Ad : Nat → Nat) (hap : apt 8 Ad) {σ : Rg} {μ : Ar}  {Q : Int32 → Rg → Ar → Prop} (h : wp_X6_begin σ μ  Q) : Ct l yX6_begin cX6_begin 1 (some FieldType.boolean) rmX6_begin D [(cy, .int)] (fun H => va_P D vwCl (wM Ad cy σ μ) H) [.ref (Ad 0)] (AS 8 Ad) (PWi (wM Ad cy) D Q) := by
  refine Ct.of (by decide) (Nat.le_of_ble_eq_true rfl) ?_
  intro p e s m below meth c ls C hP hl
  have hl : lv_has ls 1 [(0, .ref (Ad 0))] := hl
  have hS : va_S (AS 8 Ad) s.heap s.heap [] := va_S.rf
  have hx := C.1
  have hb := C.2.1
  refine lv_aload_n hx hb dX6_begin_0 rfl (lv_at hl 0 rfl) ?_
  refine lv_iconst (v := 0) hx hb dX6_begin_1 (by decide) ?_
  refine pM_model_thrown C hap (fun _ h => h) hP hS (C.2.2.2.2.2.2.1 _ wq_926) dX6_begin_2 (fun H locs hP hS => ?_)
  obtain ⟨σ2, e2⟩ : ∃ z : Rg, z = upd σ 0 (0 : Int32) := ⟨_, rfl⟩
  have hP : va_P D vwCl (wM Ad cy σ2 μ) H := by rw [e2]; exact hP
  have h := h σ2 e2
  refine lv_aload_n hx hb dX6_begin_5 rfl (lv_at hl 0 rfl) ?_
  refine kWi (rnV C (ct_X6_isOn l D cy Ad hap h) yv_X6_isOn wq_981 ⟨rfl, rfl⟩ ⟨Nat.le_of_ble_eq_true rfl, Nat.le_of_ble_eq_true rfl⟩ ⟨Nat.zero_le _, Nat.zero_le _⟩ (vM_model C hP) hP hl.1 rfl rfl (Nat.le_of_ble_eq_true rfl) dX6_begin_6) hS (fun _ h => h) (fun r6 σ6 μ6 H locs h hP hk hS => ?_)
  refine lv_if_eq (tgt := 23) hx hb dX6_begin_9 (by decide) (fun hc => ?_) (fun hc => ?_)
  · have h := h.1 hc
    exact wk_X6_begin_23 C hap h hP hS (lv_sub hl [] rfl)
  · have h := h.2 hc
    refine lv_aload_n hx hb dX6_begin_12 rfl (lv_at hl 0 rfl) ?_
    refine gM_model_x C hP (C.2.2.2.2.2.2.1 _ wq_924) dX6_begin_13 ?_
    refine lv_bipush (v := 10) hx hb dX6_begin_16 (by decide) ?_
    refine lcM_0 C hP tc_10 vi_10_810 dX6_begin_18 ?_
    refine lv_iconst (v := 1) hx hb dX6_begin_19 (by decide) ?_
    refine lv_icmp_ne (tgt := 25) hx hb dX6_begin_20 (by decide) (fun hc => ?_) (fun hc => ?_)
    · have h := h.1 hc
      refine lv_aload_n hx hb dX6_begin_25 rfl (lv_at hl 0 rfl) ?_
      refine gM_model_x C hP (C.2.2.2.2.2.2.1 _ wq_924) dX6_begin_26 ?_
      refine lv_bipush (v := 10) hx hb dX6_begin_29 (by decide) ?_
      refine lv_iconst (v := 1) hx hb dX6_begin_31 (by decide) ?_
      refine scM_0 C hap (fun _ h => h) hP hS tc_10 vi_10_810 dX6_begin_32 (fun H locs hP hS => ?_)
      obtain ⟨μ32, e32⟩ : ∃ z : Ar, z = updA μ6 0 (upd (μ6 0) 10 (1 : Int32)) := ⟨_, rfl⟩
      have hP : va_P D vwCl (wM Ad cy σ6 μ32) H := by rw [e32]; exact hP
      have h := h μ32 e32
      refine lv_aload_n hx hb dX6_begin_33 rfl (lv_at hl 0 rfl) ?_
      refine gM_model_x C hP (C.2.2.2.2.2.2.1 _ wq_924) dX6_begin_34 ?_
      refine lv_bipush (v := 11) hx hb dX6_begin_37 (by decide) ?_
      refine lv_iconst (v := 0) hx hb dX6_begin_39 (by decide) ?_
      refine scM_0 C hap (fun _ h => h) hP hS tc_11 vi_11_810 dX6_begin_40 (fun H locs hP hS => ?_)
      obtain ⟨μ40, e40⟩ : ∃ z : Ar, z = updA μ32 0 (upd (μ32 0) 11 (0 : Int32)) := ⟨_, rfl⟩
      have hP : va_P D vwCl (wM Ad cy σ6 μ40) H := by rw [e40]; exact hP
      have h := h μ40 e40
      refine lv_iconst (v := 1) hx hb dX6_begin_41 (by decide) ?_
      exact endZ C hS bz1 ⟨_, _, _, rfl, h, hP⟩ dX6_begin_42
    · have h := h.2 hc
      exact wk_X6_begin_23 C hap h hP hS (lv_sub hl [] rfl)
abbrev rmX6_commit : Room := { frames := 7, cells := 0, slots := 0, locals := 156 }
def wb_X6_commit_89 (Q : Int32 → Rg → Ar → Prop) (k89 : Rg → Ar → Int32 → Prop) (σ : Rg) (μ : Ar) (v2 : Int32) : Prop := (((μ 0 11) ≤ v2 → ∀ σ142 : Rg, σ142 = upd σ 7 (0 : Int32) → (wp_X6_lays σ142 μ (63 : Int32) (fun σ148 μ148 => wp_X6_lays σ148 μ148 (65 : Int32) (fun σ154 μ154 => wp_X6_lays σ154 μ154 (μ154 0 11) (fun σ165 μ165 => wp_X6_laysCheck σ165 μ165  (fun σ169 μ169 => ∀ μ179 : Ar, μ179 = updA μ169 0 (upd (μ169 0) 10 (0 : Int32)) → (wp_X6_told σ169 μ179  (fun r181 σ181 μ181 => Q r181 σ181 μ181)))))))) ∧ (¬ (μ 0 11) ≤ v2 → (vp_in ((12 : Int32) + v2) 810) ∧ ((vp_in ((28 : Int32) + v2) 810) ∧ ((vp_in ((20 : Int32) + v2) 810) ∧ (wp_X6_laysSetting σ μ (48 : Int32) (μ 0 (((12 : Int32) + v2)).toNatClampNeg) (μ 0 (((28 : Int32) + v2)).toNatClampNeg) ((μ 0 (((20 : Int32) + v2)).toNatClampNeg)).toInt64 (fun σ131 μ131 => ∀ y134 : Int32, y134 = v2 + (1 : Int32) → (k89 σ131 μ131 y134)))))))
set_option maxHeartbeats 4000000 in
set_option maxRecDepth 100000 in
theorem wk_X6_commit_89 {p : Program} {l : Launch} {e : Env} {s : State} {m : MethodId} {args : Array Value} {below : List Frame} {meth : Method} {c : Code} {D : va_G} {cy : ClassId} {Ad : Nat → Nat} (C : Cx p s m args meth c RX6 cX6_commit 3 (some FieldType.int) D [(cy, .int)]) (hap : apt 8 Ad) {Q : Int32 → Rg → Ar → Prop} {k89 : Rg → Ar → Int32 → Prop} (hk89 : ∀ {σ : Rg} {μ : Ar} {v2 : Int32} {H : Heap} {locs : List Loc} {ls : Array Slot}, k89 σ μ v2 → va_P D vwCl (wM Ad cy σ μ) H → va_S (AS 8 Ad) s.heap H locs → lv_has ls 3 [(0, .ref (Ad 0)), (2, .int v2)] → W p l e rmX6_commit s m args below meth c H locs 0 0 (MQ below (Qcg (PWi (wM Ad cy) D Q) (AS 8 Ad)) args s 0 0 (AS 8 Ad)) (F0 m 89 ls [])) {σ : Rg} {μ : Ar} {v2 : Int32} {H : Heap} {locs : List Loc} {ls : Array Slot} (h : wb_X6_commit_89 Q k89 σ μ v2) (hP : va_P D vwCl (wM Ad cy σ μ) H) (hS : va_S (AS 8 Ad) s.heap H locs) (hl : lv_has ls 3 [(0, .ref (Ad 0)), (2, .int v2)]) : W p l e rmX6_commit s m args below meth c H locs 0 0 (MQ below (Qcg (PWi (wM Ad cy) D Q) (AS 8 Ad)) args s 0 0 (AS 8 Ad)) (F0 m 89 ls []) := by
  have hx := C.1
  have hb := C.2.1
  refine lv_iload_n hx hb dX6_commit_89 rfl (lv_at hl 1 rfl) ?_
  refine lv_aload_n hx hb dX6_commit_90 rfl (lv_at hl 0 rfl) ?_
  refine gM_model_x C hP (C.2.2.2.2.2.2.1 _ wq_924) dX6_commit_91 ?_
  refine lv_bipush (v := 11) hx hb dX6_commit_94 (by decide) ?_
  refine lcM_0 C hP tc_11 vi_11_810 dX6_commit_96 ?_
  refine lv_icmp_ge (tgt := 140) hx hb dX6_commit_97 (by decide) (fun hc => ?_) (fun hc => ?_)
  · have h := h.1 hc
    refine lv_aload_n hx hb dX6_commit_140 rfl (lv_at hl 0 rfl) ?_
    refine lv_iconst (v := 0) hx hb dX6_commit_141 (by decide) ?_
    refine pM_model_sum C hap (fun _ h => h) hP hS (C.2.2.2.2.2.2.1 _ wq_938) dX6_commit_142 (fun H locs hP hS => ?_)
    obtain ⟨σ142, e142⟩ : ∃ z : Rg, z = upd σ 7 (0 : Int32) := ⟨_, rfl⟩
    have hP : va_P D vwCl (wM Ad cy σ142 μ) H := by rw [e142]; exact hP
    have h := h σ142 e142
    refine lv_aload_n hx hb dX6_commit_145 rfl (lv_at hl 0 rfl) ?_
    refine lv_bipush (v := 63) hx hb dX6_commit_146 (by decide) ?_
    refine kWv (rnV C (ct_X6_lays l D cy Ad hap h) yv_X6_lays wq_1147 ⟨rfl, rfl⟩ ⟨Nat.le_of_ble_eq_true rfl, Nat.le_of_ble_eq_true rfl⟩ ⟨Nat.zero_le _, Nat.zero_le _⟩ (vM_model C hP) hP hl.1 rfl rfl (Nat.le_of_ble_eq_true rfl) dX6_commit_148) hS (fun _ h => h) (fun σ148 μ148 H locs h hP hk hS => ?_)
    refine lv_aload_n hx hb dX6_commit_151 rfl (lv_at hl 0 rfl) ?_
    refine lv_bipush (v := 65) hx hb dX6_commit_152 (by decide) ?_
    refine kWv (rnV C (ct_X6_lays l D cy Ad hap h) yv_X6_lays wq_1147 ⟨rfl, rfl⟩ ⟨Nat.le_of_ble_eq_true rfl, Nat.le_of_ble_eq_true rfl⟩ ⟨Nat.zero_le _, Nat.zero_le _⟩ (vM_model C hP) hP hl.1 rfl rfl (Nat.le_of_ble_eq_true rfl) dX6_commit_154) hS (fun _ h => h) (fun σ154 μ154 H locs h hP hk hS => ?_)
    refine lv_aload_n hx hb dX6_commit_157 rfl (lv_at hl 0 rfl) ?_
    refine lv_aload_n hx hb dX6_commit_158 rfl (lv_at hl 0 rfl) ?_
    refine gM_model_x C hP (C.2.2.2.2.2.2.1 _ wq_924) dX6_commit_159 ?_
    refine lv_bipush (v := 11) hx hb dX6_commit_162 (by decide) ?_
    refine lcM_0 C hP tc_11 vi_11_810 dX6_commit_164 ?_
    refine kWv (rnV C (ct_X6_lays l D cy Ad hap h) yv_X6_lays wq_1147 ⟨rfl, rfl⟩ ⟨Nat.le_of_ble_eq_true rfl, Nat.le_of_ble_eq_true rfl⟩ ⟨Nat.zero_le _, Nat.zero_le _⟩ (vM_model C hP) hP hl.1 rfl rfl (Nat.le_of_ble_eq_true rfl) dX6_commit_165) hS (fun _ h => h) (fun σ165 μ165 H locs h hP hk hS => ?_)
    refine lv_aload_n hx hb dX6_commit_168 rfl (lv_at hl 0 rfl) ?_
    refine kWv (rnV C (ct_X6_laysCheck l D cy Ad hap h) yv_X6_laysCheck wq_1151 ⟨rfl, rfl⟩ ⟨Nat.le_of_ble_eq_true rfl, Nat.le_of_ble_eq_true rfl⟩ ⟨Nat.zero_le _, Nat.zero_le _⟩ (vM_model C hP) hP hl.1 rfl rfl (Nat.le_of_ble_eq_true rfl) dX6_commit_169) hS (fun _ h => h) (fun σ169 μ169 H locs h hP hk hS => ?_)
    refine lv_aload_n hx hb dX6_commit_172 rfl (lv_at hl 0 rfl) ?_
    refine gM_model_x C hP (C.2.2.2.2.2.2.1 _ wq_924) dX6_commit_173 ?_
    refine lv_bipush (v := 10) hx hb dX6_commit_176 (by decide) ?_
    refine lv_iconst (v := 0) hx hb dX6_commit_178 (by decide) ?_
    refine scM_0 C hap (fun _ h => h) hP hS tc_10 vi_10_810 dX6_commit_179 (fun H locs hP hS => ?_)
    obtain ⟨μ179, e179⟩ : ∃ z : Ar, z = updA μ169 0 (upd (μ169 0) 10 (0 : Int32)) := ⟨_, rfl⟩
    have hP : va_P D vwCl (wM Ad cy σ169 μ179) H := by rw [e179]; exact hP
    have h := h μ179 e179
    refine lv_aload_n hx hb dX6_commit_180 rfl (lv_at hl 0 rfl) ?_
    refine kWi (rnV C (ct_X6_told l D cy Ad hap h) yv_X6_told wq_1159 ⟨rfl, rfl⟩ ⟨Nat.le_of_ble_eq_true rfl, Nat.le_of_ble_eq_true rfl⟩ ⟨Nat.zero_le _, Nat.zero_le _⟩ (vM_model C hP) hP hl.1 rfl rfl (Nat.le_of_ble_eq_true rfl) dX6_commit_181) hS (fun _ h => h) (fun r181 σ181 μ181 H locs h hP hk hS => ?_)
    exact endI C hS ⟨_, _, _, rfl, h, hP⟩ dX6_commit_184
  · have h := h.2 hc
    refine lv_aload_n hx hb dX6_commit_100 rfl (lv_at hl 0 rfl) ?_
    refine lv_bipush (v := 48) hx hb dX6_commit_101 (by decide) ?_
    refine lv_aload_n hx hb dX6_commit_103 rfl (lv_at hl 0 rfl) ?_
    refine gM_model_x C hP (C.2.2.2.2.2.2.1 _ wq_924) dX6_commit_104 ?_
    refine lv_bipush (v := 12) hx hb dX6_commit_107 (by decide) ?_
    refine lv_iload_n hx hb dX6_commit_109 rfl (lv_at hl 1 rfl) ?_
    refine lv_iadd hx hb dX6_commit_110 ?_
    obtain ⟨hc, h⟩ := h
    refine lM_0 C hP hc dX6_commit_111 ?_
    refine lv_aload_n hx hb dX6_commit_112 rfl (lv_at hl 0 rfl) ?_
    refine gM_model_x C hP (C.2.2.2.2.2.2.1 _ wq_924) dX6_commit_113 ?_
    refine lv_bipush (v := 28) hx hb dX6_commit_116 (by decide) ?_
    refine lv_iload_n hx hb dX6_commit_118 rfl (lv_at hl 1 rfl) ?_
    refine lv_iadd hx hb dX6_commit_119 ?_
    obtain ⟨hc, h⟩ := h
    refine lM_0 C hP hc dX6_commit_120 ?_
    refine lv_aload_n hx hb dX6_commit_121 rfl (lv_at hl 0 rfl) ?_
    refine gM_model_x C hP (C.2.2.2.2.2.2.1 _ wq_924) dX6_commit_122 ?_
    refine lv_bipush (v := 20) hx hb dX6_commit_125 (by decide) ?_
    refine lv_iload_n hx hb dX6_commit_127 rfl (lv_at hl 1 rfl) ?_
    refine lv_iadd hx hb dX6_commit_128 ?_
    obtain ⟨hc, h⟩ := h
    refine lM_0 C hP hc dX6_commit_129 ?_
    refine lv_i2l hx hb dX6_commit_130 rfl ?_
    refine kWv (rnV C (ct_X6_laysSetting l D cy Ad hap h) yv_X6_laysSetting wq_1155 ⟨rfl, rfl⟩ ⟨Nat.le_of_ble_eq_true rfl, Nat.le_of_ble_eq_true rfl⟩ ⟨Nat.zero_le _, Nat.zero_le _⟩ (vM_model C hP) hP hl.1 rfl rfl (Nat.le_of_ble_eq_true rfl) dX6_commit_131) hS (fun _ h => h) (fun σ131 μ131 H locs h hP hk hS => ?_)
    obtain ⟨y134, e134⟩ : ∃ y : Int32, y = v2 + (1 : Int32) := ⟨_, rfl⟩
    have h := h y134 e134
    refine lv_iinc (v := y134) (lv' := [(2, .int y134), (0, .ref (Ad 0))]) hx hb dX6_commit_134 hl (k := 1) rfl (by rw [e134]; rfl) (by decide) rfl (fun ls hl => ?_)
    refine lv_goto (tgt := 89) hx hb dX6_commit_137 (by decide) ?_
    exact hk89 h hP hS (lv_sub hl [1, 0] rfl)
def wl_X6_commit_89 (Q : Int32 → Rg → Ar → Prop) (n : Nat) : Rg → Ar → Int32 → Prop := Nat.rec (motive := fun _ => Rg → Ar → Int32 → Prop) (fun _ _ _ => False) (fun _ k => wb_X6_commit_89 Q k) n
set_option maxHeartbeats 4000000 in
theorem wkl_X6_commit_89 {p : Program} {l : Launch} {e : Env} {s : State} {m : MethodId} {args : Array Value} {below : List Frame} {meth : Method} {c : Code} {D : va_G} {cy : ClassId} {Ad : Nat → Nat} (C : Cx p s m args meth c RX6 cX6_commit 3 (some FieldType.int) D [(cy, .int)]) (hap : apt 8 Ad) {Q : Int32 → Rg → Ar → Prop}  : ∀ (n : Nat) {σ : Rg} {μ : Ar} {v2 : Int32} {H : Heap} {locs : List Loc} {ls : Array Slot} (h : wl_X6_commit_89 Q  n σ μ v2) (hP : va_P D vwCl (wM Ad cy σ μ) H) (hS : va_S (AS 8 Ad) s.heap H locs) (hl : lv_has ls 3 [(0, .ref (Ad 0)), (2, .int v2)]), W p l e rmX6_commit s m args below meth c H locs 0 0 (MQ below (Qcg (PWi (wM Ad cy) D Q) (AS 8 Ad)) args s 0 0 (AS 8 Ad)) (F0 m 89 ls []) := by
  intro n
  induction n with
  | zero => intro σ μ v2 H locs ls h; exact h.elim
  | succ n ih =>
    intro σ μ v2 H locs ls h hP hS hl
    exact wk_X6_commit_89 C hap (fun h hP hS hl => ih h hP hS hl) h hP hS hl
def wb_X6_commit_41 (Q : Int32 → Rg → Ar → Prop) (k41 : Rg → Ar → Int32 → Int32 → Prop) (σ : Rg) (μ : Ar) (v1 : Int32) (v2 : Int32) : Prop := (((μ 0 11) ≤ v2 → wp_X6_begins σ μ  (fun σ73 μ73 => wp_X6_makesRoom σ73 μ73 v1 (fun r78 σ78 μ78 => ((¬ r78 = 0 → ∃ n, wl_X6_commit_89 Q n σ78 μ78 (0 : Int32)) ∧ (r78 = 0 → Q (-2 : Int32) σ78 μ78))))) ∧ (¬ (μ 0 11) ≤ v2 → (vp_in ((28 : Int32) + v2) 810) ∧ (∀ y65 : Int32, y65 = (v1 + ((3 : Int32) + (μ 0 (((28 : Int32) + v2)).toNatClampNeg))) → (∀ y66 : Int32, y66 = v2 + (1 : Int32) → (k41 σ μ y65 y66)))))
set_option maxHeartbeats 4000000 in
set_option maxRecDepth 100000 in
theorem wk_X6_commit_41 {p : Program} {l : Launch} {e : Env} {s : State} {m : MethodId} {args : Array Value} {below : List Frame} {meth : Method} {c : Code} {D : va_G} {cy : ClassId} {Ad : Nat → Nat} (C : Cx p s m args meth c RX6 cX6_commit 3 (some FieldType.int) D [(cy, .int)]) (hap : apt 8 Ad) {Q : Int32 → Rg → Ar → Prop} {k41 : Rg → Ar → Int32 → Int32 → Prop} (hk41 : ∀ {σ : Rg} {μ : Ar} {v1 : Int32} {v2 : Int32} {H : Heap} {locs : List Loc} {ls : Array Slot}, k41 σ μ v1 v2 → va_P D vwCl (wM Ad cy σ μ) H → va_S (AS 8 Ad) s.heap H locs → lv_has ls 3 [(0, .ref (Ad 0)), (1, .int v1), (2, .int v2)] → W p l e rmX6_commit s m args below meth c H locs 0 0 (MQ below (Qcg (PWi (wM Ad cy) D Q) (AS 8 Ad)) args s 0 0 (AS 8 Ad)) (F0 m 41 ls [])) {σ : Rg} {μ : Ar} {v1 : Int32} {v2 : Int32} {H : Heap} {locs : List Loc} {ls : Array Slot} (h : wb_X6_commit_41 Q k41 σ μ v1 v2) (hP : va_P D vwCl (wM Ad cy σ μ) H) (hS : va_S (AS 8 Ad) s.heap H locs) (hl : lv_has ls 3 [(0, .ref (Ad 0)), (1, .int v1), (2, .int v2)]) : W p l e rmX6_commit s m args below meth c H locs 0 0 (MQ below (Qcg (PWi (wM Ad cy) D Q) (AS 8 Ad)) args s 0 0 (AS 8 Ad)) (F0 m 41 ls []) := by
  have hx := C.1
  have hb := C.2.1
  refine lv_iload_n hx hb dX6_commit_41 rfl (lv_at hl 2 rfl) ?_
  refine lv_aload_n hx hb dX6_commit_42 rfl (lv_at hl 0 rfl) ?_
  refine gM_model_x C hP (C.2.2.2.2.2.2.1 _ wq_924) dX6_commit_43 ?_
  refine lv_bipush (v := 11) hx hb dX6_commit_46 (by decide) ?_
  refine lcM_0 C hP tc_11 vi_11_810 dX6_commit_48 ?_
  refine lv_icmp_ge (tgt := 72) hx hb dX6_commit_49 (by decide) (fun hc => ?_) (fun hc => ?_)
  · have h := h.1 hc
    refine lv_aload_n hx hb dX6_commit_72 rfl (lv_at hl 0 rfl) ?_
    refine kWv (rnV C (ct_X6_begins l D cy Ad hap h) yv_X6_begins wq_985 ⟨rfl, rfl⟩ ⟨Nat.le_of_ble_eq_true rfl, Nat.le_of_ble_eq_true rfl⟩ ⟨Nat.zero_le _, Nat.zero_le _⟩ (vM_model C hP) hP hl.1 rfl rfl (Nat.le_of_ble_eq_true rfl) dX6_commit_73) hS (fun _ h => h) (fun σ73 μ73 H locs h hP hk hS => ?_)
    refine lv_aload_n hx hb dX6_commit_76 rfl (lv_at hl 0 rfl) ?_
    refine lv_iload_n hx hb dX6_commit_77 rfl (lv_at hl 1 rfl) ?_
    refine kWi (rnV C (ct_X6_makesRoom l D cy Ad hap h) yv_X6_makesRoom wq_1108 ⟨rfl, rfl⟩ ⟨Nat.le_of_ble_eq_true rfl, Nat.le_of_ble_eq_true rfl⟩ ⟨Nat.zero_le _, Nat.zero_le _⟩ (vM_model C hP) hP hl.1 rfl rfl (Nat.le_of_ble_eq_true rfl) dX6_commit_78) hS (fun _ h => h) (fun r78 σ78 μ78 H locs h hP hk hS => ?_)
    refine lv_if_ne (tgt := 87) hx hb dX6_commit_81 (by decide) (fun hc => ?_) (fun hc => ?_)
    · have h := h.1 hc
      refine lv_iconst (v := 0) hx hb dX6_commit_87 (by decide) ?_
      refine lv_istore_n (lv' := [(2, .int (0 : Int32)), (0, .ref (Ad 0)), (1, .int v1)]) hx hb dX6_commit_88 rfl hl (by decide) rfl (fun ls hl => ?_)
      obtain ⟨n, h⟩ := h
      exact wkl_X6_commit_89 C hap n h hP hS (lv_sub hl [1, 0] rfl)
    · have h := h.2 hc
      refine lv_bipush (v := -2) hx hb dX6_commit_84 (by decide) ?_
      exact endI C hS ⟨_, _, _, rfl, h, hP⟩ dX6_commit_86
  · have h := h.2 hc
    refine lv_iload_n hx hb dX6_commit_52 rfl (lv_at hl 1 rfl) ?_
    refine lv_iconst (v := 3) hx hb dX6_commit_53 (by decide) ?_
    refine lv_aload_n hx hb dX6_commit_54 rfl (lv_at hl 0 rfl) ?_
    refine gM_model_x C hP (C.2.2.2.2.2.2.1 _ wq_924) dX6_commit_55 ?_
    refine lv_bipush (v := 28) hx hb dX6_commit_58 (by decide) ?_
    refine lv_iload_n hx hb dX6_commit_60 rfl (lv_at hl 2 rfl) ?_
    refine lv_iadd hx hb dX6_commit_61 ?_
    obtain ⟨hc, h⟩ := h
    refine lM_0 C hP hc dX6_commit_62 ?_
    refine lv_iadd hx hb dX6_commit_63 ?_
    refine lv_iadd hx hb dX6_commit_64 ?_
    refine lv_topi (fun y65 e65 => ?_)
    have h := h y65 e65
    refine lv_istore_n (lv' := [(1, .int y65), (0, .ref (Ad 0)), (2, .int v2)]) hx hb dX6_commit_65 rfl hl (by decide) rfl (fun ls hl => ?_)
    obtain ⟨y66, e66⟩ : ∃ y : Int32, y = v2 + (1 : Int32) := ⟨_, rfl⟩
    have h := h y66 e66
    refine lv_iinc (v := y66) (lv' := [(2, .int y66), (1, .int y65), (0, .ref (Ad 0))]) hx hb dX6_commit_66 hl (k := 2) rfl (by rw [e66]; rfl) (by decide) rfl (fun ls hl => ?_)
    refine lv_goto (tgt := 41) hx hb dX6_commit_69 (by decide) ?_
    exact hk41 h hP hS (lv_sub hl [2, 1, 0] rfl)
def wl_X6_commit_41 (Q : Int32 → Rg → Ar → Prop) (n : Nat) : Rg → Ar → Int32 → Int32 → Prop := Nat.rec (motive := fun _ => Rg → Ar → Int32 → Int32 → Prop) (fun _ _ _ _ => False) (fun _ k => wb_X6_commit_41 Q k) n
set_option maxHeartbeats 4000000 in
theorem wkl_X6_commit_41 {p : Program} {l : Launch} {e : Env} {s : State} {m : MethodId} {args : Array Value} {below : List Frame} {meth : Method} {c : Code} {D : va_G} {cy : ClassId} {Ad : Nat → Nat} (C : Cx p s m args meth c RX6 cX6_commit 3 (some FieldType.int) D [(cy, .int)]) (hap : apt 8 Ad) {Q : Int32 → Rg → Ar → Prop}  : ∀ (n : Nat) {σ : Rg} {μ : Ar} {v1 : Int32} {v2 : Int32} {H : Heap} {locs : List Loc} {ls : Array Slot} (h : wl_X6_commit_41 Q  n σ μ v1 v2) (hP : va_P D vwCl (wM Ad cy σ μ) H) (hS : va_S (AS 8 Ad) s.heap H locs) (hl : lv_has ls 3 [(0, .ref (Ad 0)), (1, .int v1), (2, .int v2)]), W p l e rmX6_commit s m args below meth c H locs 0 0 (MQ below (Qcg (PWi (wM Ad cy) D Q) (AS 8 Ad)) args s 0 0 (AS 8 Ad)) (F0 m 41 ls []) := by
  intro n
  induction n with
  | zero => intro σ μ v1 v2 H locs ls h; exact h.elim
  | succ n ih =>
    intro σ μ v1 v2 H locs ls h hP hS hl
    exact wk_X6_commit_41 C hap (fun h hP hS hl => ih h hP hS hl) h hP hS hl
def wp_X6_commit (σ : Rg) (μ : Ar) (Q : Int32 → Rg → Ar → Prop) : Prop := ∀ σ2 : Rg, σ2 = upd σ 0 (0 : Int32) → (((¬ (μ 0 10) = 0 → ((¬ (μ 0 11) = 0 → ∃ n, wl_X6_commit_41 Q n σ2 μ (4 : Int32) (0 : Int32)) ∧ ((μ 0 11) = 0 → ∀ μ34 : Ar, μ34 = updA μ 0 (upd (μ 0) 10 (0 : Int32)) → (Q (-1 : Int32) σ2 μ34)))) ∧ ((μ 0 10) = 0 → Q (-1 : Int32) σ2 μ)))
set_option maxHeartbeats 4000000 in
set_option maxRecDepth 100000 in
theorem ct_X6_commit (l : Launch) (D : va_G) (cy : ClassId) (Ad : Nat → Nat) (hap : apt 8 Ad) {σ : Rg} {μ : Ar}  {Q : Int32 → Rg → Ar → Prop} (h : wp_X6_commit σ μ  Q) : Ct l yX6_commit cX6_commit 3 (some FieldType.int) rmX6_commit D [(cy, .int)] (fun H => va_P D vwCl (wM Ad cy σ μ) H) [.ref (Ad 0)] (AS 8 Ad) (PWi (wM Ad cy) D Q) := by
  refine Ct.of (by decide) (Nat.le_of_ble_eq_true rfl) ?_
  intro p e s m below meth c ls C hP hl
  have hl : lv_has ls 3 [(0, .ref (Ad 0))] := hl
  have hS : va_S (AS 8 Ad) s.heap s.heap [] := va_S.rf
  have hx := C.1
  have hb := C.2.1
  refine lv_aload_n hx hb dX6_commit_0 rfl (lv_at hl 0 rfl) ?_
  refine lv_iconst (v := 0) hx hb dX6_commit_1 (by decide) ?_
  refine pM_model_thrown C hap (fun _ h => h) hP hS (C.2.2.2.2.2.2.1 _ wq_926) dX6_commit_2 (fun H locs hP hS => ?_)
  obtain ⟨σ2, e2⟩ : ∃ z : Rg, z = upd σ 0 (0 : Int32) := ⟨_, rfl⟩
  have hP : va_P D vwCl (wM Ad cy σ2 μ) H := by rw [e2]; exact hP
  have h := h σ2 e2
  refine lv_aload_n hx hb dX6_commit_5 rfl (lv_at hl 0 rfl) ?_
  refine gM_model_x C hP (C.2.2.2.2.2.2.1 _ wq_924) dX6_commit_6 ?_
  refine lv_bipush (v := 10) hx hb dX6_commit_9 (by decide) ?_
  refine lcM_0 C hP tc_10 vi_10_810 dX6_commit_11 ?_
  refine lv_if_ne (tgt := 17) hx hb dX6_commit_12 (by decide) (fun hc => ?_) (fun hc => ?_)
  · have h := h.1 hc
    refine lv_aload_n hx hb dX6_commit_17 rfl (lv_at hl 0 rfl) ?_
    refine gM_model_x C hP (C.2.2.2.2.2.2.1 _ wq_924) dX6_commit_18 ?_
    refine lv_bipush (v := 11) hx hb dX6_commit_21 (by decide) ?_
    refine lcM_0 C hP tc_11 vi_11_810 dX6_commit_23 ?_
    refine lv_if_ne (tgt := 37) hx hb dX6_commit_24 (by decide) (fun hc => ?_) (fun hc => ?_)
    · have h := h.1 hc
      refine lv_iconst (v := 4) hx hb dX6_commit_37 (by decide) ?_
      refine lv_istore_n (lv' := [(1, .int (4 : Int32)), (0, .ref (Ad 0))]) hx hb dX6_commit_38 rfl hl (by decide) rfl (fun ls hl => ?_)
      refine lv_iconst (v := 0) hx hb dX6_commit_39 (by decide) ?_
      refine lv_istore_n (lv' := [(2, .int (0 : Int32)), (1, .int (4 : Int32)), (0, .ref (Ad 0))]) hx hb dX6_commit_40 rfl hl (by decide) rfl (fun ls hl => ?_)
      obtain ⟨n, h⟩ := h
      exact wkl_X6_commit_41 C hap n h hP hS (lv_sub hl [2, 1, 0] rfl)
    · have h := h.2 hc
      refine lv_aload_n hx hb dX6_commit_27 rfl (lv_at hl 0 rfl) ?_
      refine gM_model_x C hP (C.2.2.2.2.2.2.1 _ wq_924) dX6_commit_28 ?_
      refine lv_bipush (v := 10) hx hb dX6_commit_31 (by decide) ?_
      refine lv_iconst (v := 0) hx hb dX6_commit_33 (by decide) ?_
      refine scM_0 C hap (fun _ h => h) hP hS tc_10 vi_10_810 dX6_commit_34 (fun H locs hP hS => ?_)
      obtain ⟨μ34, e34⟩ : ∃ z : Ar, z = updA μ 0 (upd (μ 0) 10 (0 : Int32)) := ⟨_, rfl⟩
      have hP : va_P D vwCl (wM Ad cy σ2 μ34) H := by rw [e34]; exact hP
      have h := h μ34 e34
      refine lv_iconst (v := -1) hx hb dX6_commit_35 (by decide) ?_
      exact endI C hS ⟨_, _, _, rfl, h, hP⟩ dX6_commit_36
  · have h := h.2 hc
    refine lv_iconst (v := -1) hx hb dX6_commit_15 (by decide) ?_
    exact endI C hS ⟨_, _, _, rfl, h, hP⟩ dX6_commit_16
abbrev rmX6_abort : Room := { frames := 0, cells := 0, slots := 0, locals := 0 }
def wp_X6_abort (σ : Rg) (μ : Ar) (Q : Int32 → Rg → Ar → Prop) : Prop := ∀ σ2 : Rg, σ2 = upd σ 0 (0 : Int32) → (((¬ (μ 0 10) = 0 → ∀ μ24 : Ar, μ24 = updA μ 0 (upd (μ 0) 10 (0 : Int32)) → (Q (μ24 0 11) σ2 μ24)) ∧ ((μ 0 10) = 0 → Q (-1 : Int32) σ2 μ)))
set_option maxHeartbeats 4000000 in
set_option maxRecDepth 100000 in
theorem ct_X6_abort (l : Launch) (D : va_G) (cy : ClassId) (Ad : Nat → Nat) (hap : apt 8 Ad) {σ : Rg} {μ : Ar}  {Q : Int32 → Rg → Ar → Prop} (h : wp_X6_abort σ μ  Q) : Ct l yX6_abort cX6_abort 1 (some FieldType.int) rmX6_abort D [(cy, .int)] (fun H => va_P D vwCl (wM Ad cy σ μ) H) [.ref (Ad 0)] (AS 8 Ad) (PWi (wM Ad cy) D Q) := by
  refine Ct.of (by decide) (Nat.le_of_ble_eq_true rfl) ?_
  intro p e s m below meth c ls C hP hl
  have hl : lv_has ls 1 [(0, .ref (Ad 0))] := hl
  have hS : va_S (AS 8 Ad) s.heap s.heap [] := va_S.rf
  have hx := C.1
  have hb := C.2.1
  refine lv_aload_n hx hb dX6_abort_0 rfl (lv_at hl 0 rfl) ?_
  refine lv_iconst (v := 0) hx hb dX6_abort_1 (by decide) ?_
  refine pM_model_thrown C hap (fun _ h => h) hP hS (C.2.2.2.2.2.2.1 _ wq_926) dX6_abort_2 (fun H locs hP hS => ?_)
  obtain ⟨σ2, e2⟩ : ∃ z : Rg, z = upd σ 0 (0 : Int32) := ⟨_, rfl⟩
  have hP : va_P D vwCl (wM Ad cy σ2 μ) H := by rw [e2]; exact hP
  have h := h σ2 e2
  refine lv_aload_n hx hb dX6_abort_5 rfl (lv_at hl 0 rfl) ?_
  refine gM_model_x C hP (C.2.2.2.2.2.2.1 _ wq_924) dX6_abort_6 ?_
  refine lv_bipush (v := 10) hx hb dX6_abort_9 (by decide) ?_
  refine lcM_0 C hP tc_10 vi_10_810 dX6_abort_11 ?_
  refine lv_if_ne (tgt := 17) hx hb dX6_abort_12 (by decide) (fun hc => ?_) (fun hc => ?_)
  · have h := h.1 hc
    refine lv_aload_n hx hb dX6_abort_17 rfl (lv_at hl 0 rfl) ?_
    refine gM_model_x C hP (C.2.2.2.2.2.2.1 _ wq_924) dX6_abort_18 ?_
    refine lv_bipush (v := 10) hx hb dX6_abort_21 (by decide) ?_
    refine lv_iconst (v := 0) hx hb dX6_abort_23 (by decide) ?_
    refine scM_0 C hap (fun _ h => h) hP hS tc_10 vi_10_810 dX6_abort_24 (fun H locs hP hS => ?_)
    obtain ⟨μ24, e24⟩ : ∃ z : Ar, z = updA μ 0 (upd (μ 0) 10 (0 : Int32)) := ⟨_, rfl⟩
    have hP : va_P D vwCl (wM Ad cy σ2 μ24) H := by rw [e24]; exact hP
    have h := h μ24 e24
    refine lv_aload_n hx hb dX6_abort_25 rfl (lv_at hl 0 rfl) ?_
    refine gM_model_x C hP (C.2.2.2.2.2.2.1 _ wq_924) dX6_abort_26 ?_
    refine lv_bipush (v := 11) hx hb dX6_abort_29 (by decide) ?_
    refine lcM_0 C hP tc_11 vi_11_810 dX6_abort_31 ?_
    exact endI C hS ⟨_, _, _, rfl, h, hP⟩ dX6_abort_32
  · have h := h.2 hc
    refine lv_iconst (v := -1) hx hb dX6_abort_15 (by decide) ?_
    exact endI C hS ⟨_, _, _, rfl, h, hP⟩ dX6_abort_16
abbrev rmX6_isTag : Room := { frames := 1, cells := 0, slots := 0, locals := 22 }
def wp_X6_isTag (σ : Rg) (μ : Ar) (x1 : Int32) (Q : Int32 → Rg → Ar → Prop) : Prop := wp_X6_within x1 (0 : Int32) (47 : Int32) (fun r4 => (bz r4) ∧ (Q r4 σ μ))
set_option maxHeartbeats 4000000 in
set_option maxRecDepth 100000 in
theorem ct_X6_isTag (l : Launch) (D : va_G) (cy : ClassId) (Ad : Nat → Nat) (hap : apt 8 Ad) {σ : Rg} {μ : Ar} {x1 : Int32} {Q : Int32 → Rg → Ar → Prop} (h : wp_X6_isTag σ μ x1 Q) : Ct l yX6_isTag cX6_isTag 2 (some FieldType.boolean) rmX6_isTag D [(cy, .int)] (fun H => va_P D vwCl (wM Ad cy σ μ) H) [.ref (Ad 0), .int x1] (AS 8 Ad) (PWi (wM Ad cy) D Q) := by
  refine Ct.of (by decide) (Nat.le_of_ble_eq_true rfl) ?_
  intro p e s m below meth c ls C hP hl
  have hl : lv_has ls 2 [(0, .ref (Ad 0)), (1, .int x1)] := hl
  have hS : va_S (AS 8 Ad) s.heap s.heap [] := va_S.rf
  have hx := C.1
  have hb := C.2.1
  refine lv_iload_n hx hb dX6_isTag_0 rfl (lv_at hl 1 rfl) ?_
  refine lv_iconst (v := 0) hx hb dX6_isTag_1 (by decide) ?_
  refine lv_bipush (v := 47) hx hb dX6_isTag_2 (by decide) ?_
  refine kNi (rnS (C.none) (ct_X6_within l D h) ys_X6_within wq_974 ⟨rfl, rfl⟩ ⟨Nat.le_of_ble_eq_true rfl, Nat.le_of_ble_eq_true rfl⟩ ⟨Nat.zero_le _, Nat.zero_le _⟩ trivial hl.1 rfl rfl (Nat.le_of_ble_eq_true rfl) dX6_isTag_4) hS (fun _ h => h.elim) (fun r4 H locs h hk hS => ?_)
  have hP := keepN hP hk
  obtain ⟨hc, h⟩ := h
  exact endZ C hS hc ⟨_, _, _, rfl, h, hP⟩ dX6_isTag_7
abbrev rmX6_valueNow : Room := { frames := 3, cells := 0, slots := 0, locals := 72 }
def wb_X6_valueNow_41 (Q : Int64 → Rg → Ar → Prop) (σ : Rg) (μ : Ar) (t0 : Int64) : Prop := Q t0 σ μ
set_option maxHeartbeats 4000000 in
set_option maxRecDepth 100000 in
theorem wk_X6_valueNow_41 {p : Program} {l : Launch} {e : Env} {s : State} {m : MethodId} {args : Array Value} {below : List Frame} {meth : Method} {c : Code} {D : va_G} {cy : ClassId} {Ad : Nat → Nat} (C : Cx p s m args meth c RX6 cX6_valueNow 2 (some FieldType.long) D [(cy, .int)]) (hap : apt 8 Ad) {Q : Int64 → Rg → Ar → Prop} {σ : Rg} {μ : Ar} {t0 : Int64} {H : Heap} {locs : List Loc} {ls : Array Slot} (h : wb_X6_valueNow_41 Q σ μ t0) (hP : va_P D vwCl (wM Ad cy σ μ) H) (hS : va_S (AS 8 Ad) s.heap H locs) (hl : lv_has ls 2 []) : W p l e rmX6_valueNow s m args below meth c H locs 0 0 (MQ below (Qcg (PWl (wM Ad cy) D Q) (AS 8 Ad)) args s 0 0 (AS 8 Ad)) (F0 m 41 ls [.long t0]) := by
  have hx := C.1
  have hb := C.2.1
  exact endL C hS ⟨_, _, _, rfl, h, hP⟩ dX6_valueNow_41
def wp_X6_valueNow (σ : Rg) (μ : Ar) (x1 : Int32) (Q : Int64 → Rg → Ar → Prop) : Prop := wp_X6_reads σ μ (μ 0 3) (fun σ7 μ7 => (vp_in x1 48) ∧ (((0 ≤ (μ7 6 (x1).toNatClampNeg) → (vp_in x1 48) ∧ (wp_X6_valueOf σ7 μ7 (μ7 0 3) (μ7 6 (x1).toNatClampNeg) (fun r38 σ38 μ38 => wb_X6_valueNow_41 Q σ38 μ38 r38))) ∧ (¬ 0 ≤ (μ7 6 (x1).toNatClampNeg) → wb_X6_valueNow_41 Q σ7 μ7 (-4 : Int64)))))
set_option maxHeartbeats 4000000 in
set_option maxRecDepth 100000 in
theorem ct_X6_valueNow (l : Launch) (D : va_G) (cy : ClassId) (Ad : Nat → Nat) (hap : apt 8 Ad) {σ : Rg} {μ : Ar} {x1 : Int32} {Q : Int64 → Rg → Ar → Prop} (h : wp_X6_valueNow σ μ x1 Q) : Ct l yX6_valueNow cX6_valueNow 2 (some FieldType.long) rmX6_valueNow D [(cy, .int)] (fun H => va_P D vwCl (wM Ad cy σ μ) H) [.ref (Ad 0), .int x1] (AS 8 Ad) (PWl (wM Ad cy) D Q) := by
  refine Ct.of (by decide) (Nat.le_of_ble_eq_true rfl) ?_
  intro p e s m below meth c ls C hP hl
  have hl : lv_has ls 2 [(0, .ref (Ad 0)), (1, .int x1)] := hl
  have hS : va_S (AS 8 Ad) s.heap s.heap [] := va_S.rf
  have hx := C.1
  have hb := C.2.1
  refine lv_aload_n hx hb dX6_valueNow_0 rfl (lv_at hl 0 rfl) ?_
  refine lv_aload_n hx hb dX6_valueNow_1 rfl (lv_at hl 0 rfl) ?_
  refine gM_model_x C hP (C.2.2.2.2.2.2.1 _ wq_924) dX6_valueNow_2 ?_
  refine lv_iconst (v := 3) hx hb dX6_valueNow_5 (by decide) ?_
  refine lcM_0 C hP tc_3 vi_3_810 dX6_valueNow_6 ?_
  refine kWv (rnV C (ct_X6_reads l D cy Ad hap h) yv_X6_reads wq_1036 ⟨rfl, rfl⟩ ⟨Nat.le_of_ble_eq_true rfl, Nat.le_of_ble_eq_true rfl⟩ ⟨Nat.zero_le _, Nat.zero_le _⟩ (vM_model C hP) hP hl.1 rfl rfl (Nat.le_of_ble_eq_true rfl) dX6_valueNow_7) hS (fun _ h => h) (fun σ7 μ7 H locs h hP hk hS => ?_)
  refine lv_aload_n hx hb dX6_valueNow_10 rfl (lv_at hl 0 rfl) ?_
  refine gM_model_newest C hP (C.2.2.2.2.2.2.1 _ wq_935) dX6_valueNow_11 ?_
  refine lv_iload_n hx hb dX6_valueNow_14 rfl (lv_at hl 1 rfl) ?_
  obtain ⟨hc, h⟩ := h
  refine lM_6 C hP hc dX6_valueNow_15 ?_
  refine lv_if_ge (tgt := 25) hx hb dX6_valueNow_16 (by decide) (fun hc => ?_) (fun hc => ?_)
  · have h := h.1 hc
    refine lv_aload_n hx hb dX6_valueNow_25 rfl (lv_at hl 0 rfl) ?_
    refine lv_aload_n hx hb dX6_valueNow_26 rfl (lv_at hl 0 rfl) ?_
    refine gM_model_x C hP (C.2.2.2.2.2.2.1 _ wq_924) dX6_valueNow_27 ?_
    refine lv_iconst (v := 3) hx hb dX6_valueNow_30 (by decide) ?_
    refine lcM_0 C hP tc_3 vi_3_810 dX6_valueNow_31 ?_
    refine lv_aload_n hx hb dX6_valueNow_32 rfl (lv_at hl 0 rfl) ?_
    refine gM_model_newest C hP (C.2.2.2.2.2.2.1 _ wq_935) dX6_valueNow_33 ?_
    refine lv_iload_n hx hb dX6_valueNow_36 rfl (lv_at hl 1 rfl) ?_
    obtain ⟨hc, h⟩ := h
    refine lM_6 C hP hc dX6_valueNow_37 ?_
    refine kWl (rnV C (ct_X6_valueOf l D cy Ad hap h) yv_X6_valueOf wq_1129 ⟨rfl, rfl⟩ ⟨Nat.le_of_ble_eq_true rfl, Nat.le_of_ble_eq_true rfl⟩ ⟨Nat.zero_le _, Nat.zero_le _⟩ (vM_model C hP) hP hl.1 rfl rfl (Nat.le_of_ble_eq_true rfl) dX6_valueNow_38) hS (fun _ h => h) (fun r38 σ38 μ38 H locs h hP hk hS => ?_)
    exact wk_X6_valueNow_41 C hap h hP hS (lv_sub hl [] rfl)
  · have h := h.2 hc
    refine lv_ldc2 hx hb C.2.2.2.1 (C.2.2.2.2.2.2.1 _ wq_1142) dX6_valueNow_19 ?_
    refine lv_goto (tgt := 41) hx hb dX6_valueNow_22 (by decide) ?_
    exact wk_X6_valueNow_41 C hap h hP hS (lv_sub hl [] rfl)
abbrev rmX6_get : Room := { frames := 4, cells := 0, slots := 0, locals := 93 }
def wb_X6_get_31 (Q : Int64 → Rg → Ar → Prop) (σ : Rg) (μ : Ar) (t0 : Int64) : Prop := Q t0 σ μ
set_option maxHeartbeats 4000000 in
set_option maxRecDepth 100000 in
theorem wk_X6_get_31 {p : Program} {l : Launch} {e : Env} {s : State} {m : MethodId} {args : Array Value} {below : List Frame} {meth : Method} {c : Code} {D : va_G} {cy : ClassId} {Ad : Nat → Nat} (C : Cx p s m args meth c RX6 cX6_get 2 (some FieldType.long) D [(cy, .int)]) (hap : apt 8 Ad) {Q : Int64 → Rg → Ar → Prop} {σ : Rg} {μ : Ar} {t0 : Int64} {H : Heap} {locs : List Loc} {ls : Array Slot} (h : wb_X6_get_31 Q σ μ t0) (hP : va_P D vwCl (wM Ad cy σ μ) H) (hS : va_S (AS 8 Ad) s.heap H locs) (hl : lv_has ls 2 []) : W p l e rmX6_get s m args below meth c H locs 0 0 (MQ below (Qcg (PWl (wM Ad cy) D Q) (AS 8 Ad)) args s 0 0 (AS 8 Ad)) (F0 m 31 ls [.long t0]) := by
  have hx := C.1
  have hb := C.2.1
  exact endL C hS ⟨_, _, _, rfl, h, hP⟩ dX6_get_31
def wb_X6_get_28 (Q : Int64 → Rg → Ar → Prop) (σ : Rg) (μ : Ar) : Prop := wb_X6_get_31 Q σ μ (-1 : Int64)
set_option maxHeartbeats 4000000 in
set_option maxRecDepth 100000 in
theorem wk_X6_get_28 {p : Program} {l : Launch} {e : Env} {s : State} {m : MethodId} {args : Array Value} {below : List Frame} {meth : Method} {c : Code} {D : va_G} {cy : ClassId} {Ad : Nat → Nat} (C : Cx p s m args meth c RX6 cX6_get 2 (some FieldType.long) D [(cy, .int)]) (hap : apt 8 Ad) {Q : Int64 → Rg → Ar → Prop} {σ : Rg} {μ : Ar}  {H : Heap} {locs : List Loc} {ls : Array Slot} (h : wb_X6_get_28 Q σ μ) (hP : va_P D vwCl (wM Ad cy σ μ) H) (hS : va_S (AS 8 Ad) s.heap H locs) (hl : lv_has ls 2 []) : W p l e rmX6_get s m args below meth c H locs 0 0 (MQ below (Qcg (PWl (wM Ad cy) D Q) (AS 8 Ad)) args s 0 0 (AS 8 Ad)) (F0 m 28 ls []) := by
  have hx := C.1
  have hb := C.2.1
  refine lv_ldc2 hx hb C.2.2.2.1 (C.2.2.2.2.2.2.1 _ wq_1208) dX6_get_28 ?_
  exact wk_X6_get_31 C hap h hP hS (lv_sub hl [] rfl)
def wp_X6_get (σ : Rg) (μ : Ar) (x1 : Int32) (Q : Int64 → Rg → Ar → Prop) : Prop := ∀ σ2 : Rg, σ2 = upd σ 0 (0 : Int32) → (wp_X6_isOn σ2 μ  (fun r6 σ6 μ6 => ((r6 = 0 → wb_X6_get_28 Q σ6 μ6) ∧ (¬ r6 = 0 → wp_X6_isTag σ6 μ6 x1 (fun r14 σ14 μ14 => ((r14 = 0 → wb_X6_get_28 Q σ14 μ14) ∧ (¬ r14 = 0 → wp_X6_valueNow σ14 μ14 x1 (fun r22 σ22 μ22 => wb_X6_get_31 Q σ22 μ22 r22))))))))
set_option maxHeartbeats 4000000 in
set_option maxRecDepth 100000 in
theorem ct_X6_get (l : Launch) (D : va_G) (cy : ClassId) (Ad : Nat → Nat) (hap : apt 8 Ad) {σ : Rg} {μ : Ar} {x1 : Int32} {Q : Int64 → Rg → Ar → Prop} (h : wp_X6_get σ μ x1 Q) : Ct l yX6_get cX6_get 2 (some FieldType.long) rmX6_get D [(cy, .int)] (fun H => va_P D vwCl (wM Ad cy σ μ) H) [.ref (Ad 0), .int x1] (AS 8 Ad) (PWl (wM Ad cy) D Q) := by
  refine Ct.of (by decide) (Nat.le_of_ble_eq_true rfl) ?_
  intro p e s m below meth c ls C hP hl
  have hl : lv_has ls 2 [(0, .ref (Ad 0)), (1, .int x1)] := hl
  have hS : va_S (AS 8 Ad) s.heap s.heap [] := va_S.rf
  have hx := C.1
  have hb := C.2.1
  refine lv_aload_n hx hb dX6_get_0 rfl (lv_at hl 0 rfl) ?_
  refine lv_iconst (v := 0) hx hb dX6_get_1 (by decide) ?_
  refine pM_model_thrown C hap (fun _ h => h) hP hS (C.2.2.2.2.2.2.1 _ wq_926) dX6_get_2 (fun H locs hP hS => ?_)
  obtain ⟨σ2, e2⟩ : ∃ z : Rg, z = upd σ 0 (0 : Int32) := ⟨_, rfl⟩
  have hP : va_P D vwCl (wM Ad cy σ2 μ) H := by rw [e2]; exact hP
  have h := h σ2 e2
  refine lv_aload_n hx hb dX6_get_5 rfl (lv_at hl 0 rfl) ?_
  refine kWi (rnV C (ct_X6_isOn l D cy Ad hap h) yv_X6_isOn wq_981 ⟨rfl, rfl⟩ ⟨Nat.le_of_ble_eq_true rfl, Nat.le_of_ble_eq_true rfl⟩ ⟨Nat.zero_le _, Nat.zero_le _⟩ (vM_model C hP) hP hl.1 rfl rfl (Nat.le_of_ble_eq_true rfl) dX6_get_6) hS (fun _ h => h) (fun r6 σ6 μ6 H locs h hP hk hS => ?_)
  refine lv_if_eq (tgt := 28) hx hb dX6_get_9 (by decide) (fun hc => ?_) (fun hc => ?_)
  · have h := h.1 hc
    exact wk_X6_get_28 C hap h hP hS (lv_sub hl [] rfl)
  · have h := h.2 hc
    refine lv_aload_n hx hb dX6_get_12 rfl (lv_at hl 0 rfl) ?_
    refine lv_iload_n hx hb dX6_get_13 rfl (lv_at hl 1 rfl) ?_
    refine kWi (rnV C (ct_X6_isTag l D cy Ad hap h) yv_X6_isTag wq_1200 ⟨rfl, rfl⟩ ⟨Nat.le_of_ble_eq_true rfl, Nat.le_of_ble_eq_true rfl⟩ ⟨Nat.zero_le _, Nat.zero_le _⟩ (vM_model C hP) hP hl.1 rfl rfl (Nat.le_of_ble_eq_true rfl) dX6_get_14) hS (fun _ h => h) (fun r14 σ14 μ14 H locs h hP hk hS => ?_)
    refine lv_if_eq (tgt := 28) hx hb dX6_get_17 (by decide) (fun hc => ?_) (fun hc => ?_)
    · have h := h.1 hc
      exact wk_X6_get_28 C hap h hP hS (lv_sub hl [] rfl)
    · have h := h.2 hc
      refine lv_aload_n hx hb dX6_get_20 rfl (lv_at hl 0 rfl) ?_
      refine lv_iload_n hx hb dX6_get_21 rfl (lv_at hl 1 rfl) ?_
      refine kWl (rnV C (ct_X6_valueNow l D cy Ad hap h) yv_X6_valueNow wq_1204 ⟨rfl, rfl⟩ ⟨Nat.le_of_ble_eq_true rfl, Nat.le_of_ble_eq_true rfl⟩ ⟨Nat.zero_le _, Nat.zero_le _⟩ (vM_model C hP) hP hl.1 rfl rfl (Nat.le_of_ble_eq_true rfl) dX6_get_22) hS (fun _ h => h) (fun r22 σ22 μ22 H locs h hP hk hS => ?_)
      refine lv_goto (tgt := 31) hx hb dX6_get_25 (by decide) ?_
      exact wk_X6_get_31 C hap h hP hS (lv_sub hl [] rfl)
abbrev rmX6_length : Room := { frames := 3, cells := 0, slots := 0, locals := 72 }
def wb_X6_length_20 (Q : Int32 → Rg → Ar → Prop) (σ : Rg) (μ : Ar) : Prop := Q (-1 : Int32) σ μ
set_option maxHeartbeats 4000000 in
set_option maxRecDepth 100000 in
theorem wk_X6_length_20 {p : Program} {l : Launch} {e : Env} {s : State} {m : MethodId} {args : Array Value} {below : List Frame} {meth : Method} {c : Code} {D : va_G} {cy : ClassId} {Ad : Nat → Nat} (C : Cx p s m args meth c RX6 cX6_length 2 (some FieldType.int) D [(cy, .int)]) (hap : apt 8 Ad) {Q : Int32 → Rg → Ar → Prop} {σ : Rg} {μ : Ar}  {H : Heap} {locs : List Loc} {ls : Array Slot} (h : wb_X6_length_20 Q σ μ) (hP : va_P D vwCl (wM Ad cy σ μ) H) (hS : va_S (AS 8 Ad) s.heap H locs) (hl : lv_has ls 2 []) : W p l e rmX6_length s m args below meth c H locs 0 0 (MQ below (Qcg (PWi (wM Ad cy) D Q) (AS 8 Ad)) args s 0 0 (AS 8 Ad)) (F0 m 20 ls []) := by
  have hx := C.1
  have hb := C.2.1
  refine lv_iconst (v := -1) hx hb dX6_length_20 (by decide) ?_
  exact endI C hS ⟨_, _, _, rfl, h, hP⟩ dX6_length_21
def wb_X6_length_61 (Q : Int32 → Rg → Ar → Prop) (σ : Rg) (μ : Ar) (t0 : Int32) : Prop := Q t0 σ μ
set_option maxHeartbeats 4000000 in
set_option maxRecDepth 100000 in
theorem wk_X6_length_61 {p : Program} {l : Launch} {e : Env} {s : State} {m : MethodId} {args : Array Value} {below : List Frame} {meth : Method} {c : Code} {D : va_G} {cy : ClassId} {Ad : Nat → Nat} (C : Cx p s m args meth c RX6 cX6_length 2 (some FieldType.int) D [(cy, .int)]) (hap : apt 8 Ad) {Q : Int32 → Rg → Ar → Prop} {σ : Rg} {μ : Ar} {t0 : Int32} {H : Heap} {locs : List Loc} {ls : Array Slot} (h : wb_X6_length_61 Q σ μ t0) (hP : va_P D vwCl (wM Ad cy σ μ) H) (hS : va_S (AS 8 Ad) s.heap H locs) (hl : lv_has ls 2 []) : W p l e rmX6_length s m args below meth c H locs 0 0 (MQ below (Qcg (PWi (wM Ad cy) D Q) (AS 8 Ad)) args s 0 0 (AS 8 Ad)) (F0 m 61 ls [.int t0]) := by
  have hx := C.1
  have hb := C.2.1
  exact endI C hS ⟨_, _, _, rfl, h, hP⟩ dX6_length_61
def wp_X6_length (σ : Rg) (μ : Ar) (x1 : Int32) (Q : Int32 → Rg → Ar → Prop) : Prop := ∀ σ2 : Rg, σ2 = upd σ 0 (0 : Int32) → (wp_X6_isOn σ2 μ  (fun r6 σ6 μ6 => ((r6 = 0 → wb_X6_length_20 Q σ6 μ6) ∧ (¬ r6 = 0 → wp_X6_isTag σ6 μ6 x1 (fun r14 σ14 μ14 => ((¬ r14 = 0 → wp_X6_reads σ14 μ14 (μ14 0 3) (fun σ29 μ29 => (vp_in x1 48) ∧ (((0 ≤ (μ29 6 (x1).toNatClampNeg) → (vp_in x1 48) ∧ (wp_X6_lengthOf σ29 μ29 (μ29 0 3) (μ29 6 (x1).toNatClampNeg) (fun r58 σ58 μ58 => wb_X6_length_61 Q σ58 μ58 r58))) ∧ (¬ 0 ≤ (μ29 6 (x1).toNatClampNeg) → wb_X6_length_61 Q σ29 μ29 (0 : Int32)))))) ∧ (r14 = 0 → wb_X6_length_20 Q σ14 μ14)))))))
set_option maxHeartbeats 4000000 in
set_option maxRecDepth 100000 in
theorem ct_X6_length (l : Launch) (D : va_G) (cy : ClassId) (Ad : Nat → Nat) (hap : apt 8 Ad) {σ : Rg} {μ : Ar} {x1 : Int32} {Q : Int32 → Rg → Ar → Prop} (h : wp_X6_length σ μ x1 Q) : Ct l yX6_length cX6_length 2 (some FieldType.int) rmX6_length D [(cy, .int)] (fun H => va_P D vwCl (wM Ad cy σ μ) H) [.ref (Ad 0), .int x1] (AS 8 Ad) (PWi (wM Ad cy) D Q) := by
  refine Ct.of (by decide) (Nat.le_of_ble_eq_true rfl) ?_
  intro p e s m below meth c ls C hP hl
  have hl : lv_has ls 2 [(0, .ref (Ad 0)), (1, .int x1)] := hl
  have hS : va_S (AS 8 Ad) s.heap s.heap [] := va_S.rf
  have hx := C.1
  have hb := C.2.1
  refine lv_aload_n hx hb dX6_length_0 rfl (lv_at hl 0 rfl) ?_
  refine lv_iconst (v := 0) hx hb dX6_length_1 (by decide) ?_
  refine pM_model_thrown C hap (fun _ h => h) hP hS (C.2.2.2.2.2.2.1 _ wq_926) dX6_length_2 (fun H locs hP hS => ?_)
  obtain ⟨σ2, e2⟩ : ∃ z : Rg, z = upd σ 0 (0 : Int32) := ⟨_, rfl⟩
  have hP : va_P D vwCl (wM Ad cy σ2 μ) H := by rw [e2]; exact hP
  have h := h σ2 e2
  refine lv_aload_n hx hb dX6_length_5 rfl (lv_at hl 0 rfl) ?_
  refine kWi (rnV C (ct_X6_isOn l D cy Ad hap h) yv_X6_isOn wq_981 ⟨rfl, rfl⟩ ⟨Nat.le_of_ble_eq_true rfl, Nat.le_of_ble_eq_true rfl⟩ ⟨Nat.zero_le _, Nat.zero_le _⟩ (vM_model C hP) hP hl.1 rfl rfl (Nat.le_of_ble_eq_true rfl) dX6_length_6) hS (fun _ h => h) (fun r6 σ6 μ6 H locs h hP hk hS => ?_)
  refine lv_if_eq (tgt := 20) hx hb dX6_length_9 (by decide) (fun hc => ?_) (fun hc => ?_)
  · have h := h.1 hc
    exact wk_X6_length_20 C hap h hP hS (lv_sub hl [] rfl)
  · have h := h.2 hc
    refine lv_aload_n hx hb dX6_length_12 rfl (lv_at hl 0 rfl) ?_
    refine lv_iload_n hx hb dX6_length_13 rfl (lv_at hl 1 rfl) ?_
    refine kWi (rnV C (ct_X6_isTag l D cy Ad hap h) yv_X6_isTag wq_1200 ⟨rfl, rfl⟩ ⟨Nat.le_of_ble_eq_true rfl, Nat.le_of_ble_eq_true rfl⟩ ⟨Nat.zero_le _, Nat.zero_le _⟩ (vM_model C hP) hP hl.1 rfl rfl (Nat.le_of_ble_eq_true rfl) dX6_length_14) hS (fun _ h => h) (fun r14 σ14 μ14 H locs h hP hk hS => ?_)
    refine lv_if_ne (tgt := 22) hx hb dX6_length_17 (by decide) (fun hc => ?_) (fun hc => ?_)
    · have h := h.1 hc
      refine lv_aload_n hx hb dX6_length_22 rfl (lv_at hl 0 rfl) ?_
      refine lv_aload_n hx hb dX6_length_23 rfl (lv_at hl 0 rfl) ?_
      refine gM_model_x C hP (C.2.2.2.2.2.2.1 _ wq_924) dX6_length_24 ?_
      refine lv_iconst (v := 3) hx hb dX6_length_27 (by decide) ?_
      refine lcM_0 C hP tc_3 vi_3_810 dX6_length_28 ?_
      refine kWv (rnV C (ct_X6_reads l D cy Ad hap h) yv_X6_reads wq_1036 ⟨rfl, rfl⟩ ⟨Nat.le_of_ble_eq_true rfl, Nat.le_of_ble_eq_true rfl⟩ ⟨Nat.zero_le _, Nat.zero_le _⟩ (vM_model C hP) hP hl.1 rfl rfl (Nat.le_of_ble_eq_true rfl) dX6_length_29) hS (fun _ h => h) (fun σ29 μ29 H locs h hP hk hS => ?_)
      refine lv_aload_n hx hb dX6_length_32 rfl (lv_at hl 0 rfl) ?_
      refine gM_model_newest C hP (C.2.2.2.2.2.2.1 _ wq_935) dX6_length_33 ?_
      refine lv_iload_n hx hb dX6_length_36 rfl (lv_at hl 1 rfl) ?_
      obtain ⟨hc, h⟩ := h
      refine lM_6 C hP hc dX6_length_37 ?_
      refine lv_if_ge (tgt := 45) hx hb dX6_length_38 (by decide) (fun hc => ?_) (fun hc => ?_)
      · have h := h.1 hc
        refine lv_aload_n hx hb dX6_length_45 rfl (lv_at hl 0 rfl) ?_
        refine lv_aload_n hx hb dX6_length_46 rfl (lv_at hl 0 rfl) ?_
        refine gM_model_x C hP (C.2.2.2.2.2.2.1 _ wq_924) dX6_length_47 ?_
        refine lv_iconst (v := 3) hx hb dX6_length_50 (by decide) ?_
        refine lcM_0 C hP tc_3 vi_3_810 dX6_length_51 ?_
        refine lv_aload_n hx hb dX6_length_52 rfl (lv_at hl 0 rfl) ?_
        refine gM_model_newest C hP (C.2.2.2.2.2.2.1 _ wq_935) dX6_length_53 ?_
        refine lv_iload_n hx hb dX6_length_56 rfl (lv_at hl 1 rfl) ?_
        obtain ⟨hc, h⟩ := h
        refine lM_6 C hP hc dX6_length_57 ?_
        refine kWi (rnV C (ct_X6_lengthOf l D cy Ad hap h) yv_X6_lengthOf wq_1068 ⟨rfl, rfl⟩ ⟨Nat.le_of_ble_eq_true rfl, Nat.le_of_ble_eq_true rfl⟩ ⟨Nat.zero_le _, Nat.zero_le _⟩ (vM_model C hP) hP hl.1 rfl rfl (Nat.le_of_ble_eq_true rfl) dX6_length_58) hS (fun _ h => h) (fun r58 σ58 μ58 H locs h hP hk hS => ?_)
        exact wk_X6_length_61 C hap h hP hS (lv_sub hl [] rfl)
      · have h := h.2 hc
        refine lv_iconst (v := 0) hx hb dX6_length_41 (by decide) ?_
        refine lv_goto (tgt := 61) hx hb dX6_length_42 (by decide) ?_
        exact wk_X6_length_61 C hap h hP hS (lv_sub hl [] rfl)
    · have h := h.2 hc
      exact wk_X6_length_20 C hap h hP hS (lv_sub hl [] rfl)
abbrev rmX6_hand : Room := { frames := 6, cells := 0, slots := 0, locals := 135 }
def wp_X6_hand (σ : Rg) (μ : Ar) (Q : Int32 → Rg → Ar → Prop) : Prop := ∀ σ2 : Rg, σ2 = upd σ 0 (0 : Int32) → (wp_X6_isOn σ2 μ  (fun r6 σ6 μ6 => ((¬ r6 = 0 → wp_X6_begins σ6 μ6  (fun σ15 μ15 => wp_X6_handsOver σ15 μ15  (fun σ19 μ19 => wp_X6_told σ19 μ19  (fun r23 σ23 μ23 => Q r23 σ23 μ23)))) ∧ (r6 = 0 → Q (-1 : Int32) σ6 μ6))))
set_option maxHeartbeats 4000000 in
set_option maxRecDepth 100000 in
theorem ct_X6_hand (l : Launch) (D : va_G) (cy : ClassId) (Ad : Nat → Nat) (hap : apt 8 Ad) {σ : Rg} {μ : Ar}  {Q : Int32 → Rg → Ar → Prop} (h : wp_X6_hand σ μ  Q) : Ct l yX6_hand cX6_hand 1 (some FieldType.int) rmX6_hand D [(cy, .int)] (fun H => va_P D vwCl (wM Ad cy σ μ) H) [.ref (Ad 0)] (AS 8 Ad) (PWi (wM Ad cy) D Q) := by
  refine Ct.of (by decide) (Nat.le_of_ble_eq_true rfl) ?_
  intro p e s m below meth c ls C hP hl
  have hl : lv_has ls 1 [(0, .ref (Ad 0))] := hl
  have hS : va_S (AS 8 Ad) s.heap s.heap [] := va_S.rf
  have hx := C.1
  have hb := C.2.1
  refine lv_aload_n hx hb dX6_hand_0 rfl (lv_at hl 0 rfl) ?_
  refine lv_iconst (v := 0) hx hb dX6_hand_1 (by decide) ?_
  refine pM_model_thrown C hap (fun _ h => h) hP hS (C.2.2.2.2.2.2.1 _ wq_926) dX6_hand_2 (fun H locs hP hS => ?_)
  obtain ⟨σ2, e2⟩ : ∃ z : Rg, z = upd σ 0 (0 : Int32) := ⟨_, rfl⟩
  have hP : va_P D vwCl (wM Ad cy σ2 μ) H := by rw [e2]; exact hP
  have h := h σ2 e2
  refine lv_aload_n hx hb dX6_hand_5 rfl (lv_at hl 0 rfl) ?_
  refine kWi (rnV C (ct_X6_isOn l D cy Ad hap h) yv_X6_isOn wq_981 ⟨rfl, rfl⟩ ⟨Nat.le_of_ble_eq_true rfl, Nat.le_of_ble_eq_true rfl⟩ ⟨Nat.zero_le _, Nat.zero_le _⟩ (vM_model C hP) hP hl.1 rfl rfl (Nat.le_of_ble_eq_true rfl) dX6_hand_6) hS (fun _ h => h) (fun r6 σ6 μ6 H locs h hP hk hS => ?_)
  refine lv_if_ne (tgt := 14) hx hb dX6_hand_9 (by decide) (fun hc => ?_) (fun hc => ?_)
  · have h := h.1 hc
    refine lv_aload_n hx hb dX6_hand_14 rfl (lv_at hl 0 rfl) ?_
    refine kWv (rnV C (ct_X6_begins l D cy Ad hap h) yv_X6_begins wq_985 ⟨rfl, rfl⟩ ⟨Nat.le_of_ble_eq_true rfl, Nat.le_of_ble_eq_true rfl⟩ ⟨Nat.zero_le _, Nat.zero_le _⟩ (vM_model C hP) hP hl.1 rfl rfl (Nat.le_of_ble_eq_true rfl) dX6_hand_15) hS (fun _ h => h) (fun σ15 μ15 H locs h hP hk hS => ?_)
    refine lv_aload_n hx hb dX6_hand_18 rfl (lv_at hl 0 rfl) ?_
    refine kWv (rnV C (ct_X6_handsOver l D cy Ad hap h) yv_X6_handsOver wq_1124 ⟨rfl, rfl⟩ ⟨Nat.le_of_ble_eq_true rfl, Nat.le_of_ble_eq_true rfl⟩ ⟨Nat.zero_le _, Nat.zero_le _⟩ (vM_model C hP) hP hl.1 rfl rfl (Nat.le_of_ble_eq_true rfl) dX6_hand_19) hS (fun _ h => h) (fun σ19 μ19 H locs h hP hk hS => ?_)
    refine lv_aload_n hx hb dX6_hand_22 rfl (lv_at hl 0 rfl) ?_
    refine kWi (rnV C (ct_X6_told l D cy Ad hap h) yv_X6_told wq_1159 ⟨rfl, rfl⟩ ⟨Nat.le_of_ble_eq_true rfl, Nat.le_of_ble_eq_true rfl⟩ ⟨Nat.zero_le _, Nat.zero_le _⟩ (vM_model C hP) hP hl.1 rfl rfl (Nat.le_of_ble_eq_true rfl) dX6_hand_23) hS (fun _ h => h) (fun r23 σ23 μ23 H locs h hP hk hS => ?_)
    exact endI C hS ⟨_, _, _, rfl, h, hP⟩ dX6_hand_26
  · have h := h.2 hc
    refine lv_iconst (v := -1) hx hb dX6_hand_12 (by decide) ?_
    exact endI C hS ⟨_, _, _, rfl, h, hP⟩ dX6_hand_13
abbrev rmX6_at : Room := { frames := 2, cells := 0, slots := 0, locals := 43 }
def wb_X6_at_50 (Q : Int32 → Rg → Ar → Prop) (σ : Rg) (μ : Ar) (t0 : Int32) : Prop := Q t0 σ μ
set_option maxHeartbeats 4000000 in
set_option maxRecDepth 100000 in
theorem wk_X6_at_50 {p : Program} {l : Launch} {e : Env} {s : State} {m : MethodId} {args : Array Value} {below : List Frame} {meth : Method} {c : Code} {D : va_G} {cy : ClassId} {Ad : Nat → Nat} (C : Cx p s m args meth c RX6 cX6_at 3 (some FieldType.int) D [(cy, .int)]) (hap : apt 8 Ad) {Q : Int32 → Rg → Ar → Prop} {σ : Rg} {μ : Ar} {t0 : Int32} {H : Heap} {locs : List Loc} {ls : Array Slot} (h : wb_X6_at_50 Q σ μ t0) (hP : va_P D vwCl (wM Ad cy σ μ) H) (hS : va_S (AS 8 Ad) s.heap H locs) (hl : lv_has ls 3 []) : W p l e rmX6_at s m args below meth c H locs 0 0 (MQ below (Qcg (PWi (wM Ad cy) D Q) (AS 8 Ad)) args s 0 0 (AS 8 Ad)) (F0 m 50 ls [.int t0]) := by
  have hx := C.1
  have hb := C.2.1
  exact endI C hS ⟨_, _, _, rfl, h, hP⟩ dX6_at_50
def wb_X6_at_30 (Q : Int32 → Rg → Ar → Prop) (σ : Rg) (μ : Ar) (v1 : Int32) (v2 : Int32) (t0 : Int32) : Prop := ∀ σ30 : Rg, σ30 = upd σ 0 t0 → (((¬ (σ30 0) = 0 → wb_X6_at_50 Q σ30 μ (0 : Int32)) ∧ ((σ30 0) = 0 → wp_X6_byteAt σ30 μ v1 v2 (fun r43 σ43 μ43 => wb_X6_at_50 Q σ43 μ43 r43))))
set_option maxHeartbeats 4000000 in
set_option maxRecDepth 100000 in
theorem wk_X6_at_30 {p : Program} {l : Launch} {e : Env} {s : State} {m : MethodId} {args : Array Value} {below : List Frame} {meth : Method} {c : Code} {D : va_G} {cy : ClassId} {Ad : Nat → Nat} (C : Cx p s m args meth c RX6 cX6_at 3 (some FieldType.int) D [(cy, .int)]) (hap : apt 8 Ad) {Q : Int32 → Rg → Ar → Prop} {σ : Rg} {μ : Ar} {v1 : Int32} {v2 : Int32} {t0 : Int32} {H : Heap} {locs : List Loc} {ls : Array Slot} (h : wb_X6_at_30 Q σ μ v1 v2 t0) (hP : va_P D vwCl (wM Ad cy σ μ) H) (hS : va_S (AS 8 Ad) s.heap H locs) (hl : lv_has ls 3 [(0, .ref (Ad 0)), (1, .int v1), (2, .int v2)]) : W p l e rmX6_at s m args below meth c H locs 0 0 (MQ below (Qcg (PWi (wM Ad cy) D Q) (AS 8 Ad)) args s 0 0 (AS 8 Ad)) (F0 m 30 ls [.int t0, .ref (Ad 0)]) := by
  have hx := C.1
  have hb := C.2.1
  refine pM_model_thrown C hap (fun _ h => h) hP hS (C.2.2.2.2.2.2.1 _ wq_926) dX6_at_30 (fun H locs hP hS => ?_)
  obtain ⟨σ30, e30⟩ : ∃ z : Rg, z = upd σ 0 t0 := ⟨_, rfl⟩
  have hP : va_P D vwCl (wM Ad cy σ30 μ) H := by rw [e30]; exact hP
  have h := h σ30 e30
  refine lv_aload_n hx hb dX6_at_33 rfl (lv_at hl 0 rfl) ?_
  refine gM_model_thrown C hP (C.2.2.2.2.2.2.1 _ wq_926) dX6_at_34 ?_
  refine lv_if_ne (tgt := 49) hx hb dX6_at_37 (by decide) (fun hc => ?_) (fun hc => ?_)
  · have h := h.1 hc
    refine lv_iconst (v := 0) hx hb dX6_at_49 (by decide) ?_
    exact wk_X6_at_50 C hap h hP hS (lv_sub hl [] rfl)
  · have h := h.2 hc
    refine lv_aload_n hx hb dX6_at_40 rfl (lv_at hl 0 rfl) ?_
    refine lv_iload_n hx hb dX6_at_41 rfl (lv_at hl 1 rfl) ?_
    refine lv_iload_n hx hb dX6_at_42 rfl (lv_at hl 2 rfl) ?_
    refine kWi (rnV C (ct_X6_byteAt l D cy Ad hap h) yv_X6_byteAt wq_997 ⟨rfl, rfl⟩ ⟨Nat.le_of_ble_eq_true rfl, Nat.le_of_ble_eq_true rfl⟩ ⟨Nat.zero_le _, Nat.zero_le _⟩ (vM_model C hP) hP hl.1 rfl rfl (Nat.le_of_ble_eq_true rfl) dX6_at_43) hS (fun _ h => h) (fun r43 σ43 μ43 H locs h hP hk hS => ?_)
    refine lv_goto (tgt := 50) hx hb dX6_at_46 (by decide) ?_
    exact wk_X6_at_50 C hap h hP hS (lv_sub hl [] rfl)
def wb_X6_at_29 (Q : Int32 → Rg → Ar → Prop) (σ : Rg) (μ : Ar) (v1 : Int32) (v2 : Int32) : Prop := wb_X6_at_30 Q σ μ v1 v2 (1 : Int32)
set_option maxHeartbeats 4000000 in
set_option maxRecDepth 100000 in
theorem wk_X6_at_29 {p : Program} {l : Launch} {e : Env} {s : State} {m : MethodId} {args : Array Value} {below : List Frame} {meth : Method} {c : Code} {D : va_G} {cy : ClassId} {Ad : Nat → Nat} (C : Cx p s m args meth c RX6 cX6_at 3 (some FieldType.int) D [(cy, .int)]) (hap : apt 8 Ad) {Q : Int32 → Rg → Ar → Prop} {σ : Rg} {μ : Ar} {v1 : Int32} {v2 : Int32} {H : Heap} {locs : List Loc} {ls : Array Slot} (h : wb_X6_at_29 Q σ μ v1 v2) (hP : va_P D vwCl (wM Ad cy σ μ) H) (hS : va_S (AS 8 Ad) s.heap H locs) (hl : lv_has ls 3 [(0, .ref (Ad 0)), (1, .int v1), (2, .int v2)]) : W p l e rmX6_at s m args below meth c H locs 0 0 (MQ below (Qcg (PWi (wM Ad cy) D Q) (AS 8 Ad)) args s 0 0 (AS 8 Ad)) (F0 m 29 ls [.ref (Ad 0)]) := by
  have hx := C.1
  have hb := C.2.1
  refine lv_iconst (v := 1) hx hb dX6_at_29 (by decide) ?_
  exact wk_X6_at_30 C hap h hP hS (lv_sub hl [0, 1, 2] rfl)
def wp_X6_at (σ : Rg) (μ : Ar) (x1 : Int32) (x2 : Int32) (Q : Int32 → Rg → Ar → Prop) : Prop := wp_X6_isSector σ μ x1 (fun r3 σ3 μ3 => ((r3 = 0 → wb_X6_at_29 Q σ3 μ3 x1 x2) ∧ (¬ r3 = 0 → wp_X6_within x2 (0 : Int32) ((μ3 0 1) - (1 : Int32)) (fun r19 => ((r19 = 0 → wb_X6_at_29 Q σ3 μ3 x1 x2) ∧ (¬ r19 = 0 → wb_X6_at_30 Q σ3 μ3 x1 x2 (0 : Int32)))))))
set_option maxHeartbeats 4000000 in
set_option maxRecDepth 100000 in
theorem ct_X6_at (l : Launch) (D : va_G) (cy : ClassId) (Ad : Nat → Nat) (hap : apt 8 Ad) {σ : Rg} {μ : Ar} {x1 : Int32} {x2 : Int32} {Q : Int32 → Rg → Ar → Prop} (h : wp_X6_at σ μ x1 x2 Q) : Ct l yX6_at cX6_at 3 (some FieldType.int) rmX6_at D [(cy, .int)] (fun H => va_P D vwCl (wM Ad cy σ μ) H) [.ref (Ad 0), .int x1, .int x2] (AS 8 Ad) (PWi (wM Ad cy) D Q) := by
  refine Ct.of (by decide) (Nat.le_of_ble_eq_true rfl) ?_
  intro p e s m below meth c ls C hP hl
  have hl : lv_has ls 3 [(0, .ref (Ad 0)), (1, .int x1), (2, .int x2)] := hl
  have hS : va_S (AS 8 Ad) s.heap s.heap [] := va_S.rf
  have hx := C.1
  have hb := C.2.1
  refine lv_aload_n hx hb dX6_at_0 rfl (lv_at hl 0 rfl) ?_
  refine lv_aload_n hx hb dX6_at_1 rfl (lv_at hl 0 rfl) ?_
  refine lv_iload_n hx hb dX6_at_2 rfl (lv_at hl 1 rfl) ?_
  refine kWi (rnV C (ct_X6_isSector l D cy Ad hap h) yv_X6_isSector wq_1084 ⟨rfl, rfl⟩ ⟨Nat.le_of_ble_eq_true rfl, Nat.le_of_ble_eq_true rfl⟩ ⟨Nat.zero_le _, Nat.zero_le _⟩ (vM_model C hP) hP hl.1 rfl rfl (Nat.le_of_ble_eq_true rfl) dX6_at_3) hS (fun _ h => h) (fun r3 σ3 μ3 H locs h hP hk hS => ?_)
  refine lv_if_eq (tgt := 29) hx hb dX6_at_6 (by decide) (fun hc => ?_) (fun hc => ?_)
  · have h := h.1 hc
    exact wk_X6_at_29 C hap h hP hS (lv_sub hl [0, 1, 2] rfl)
  · have h := h.2 hc
    refine lv_iload_n hx hb dX6_at_9 rfl (lv_at hl 2 rfl) ?_
    refine lv_iconst (v := 0) hx hb dX6_at_10 (by decide) ?_
    refine lv_aload_n hx hb dX6_at_11 rfl (lv_at hl 0 rfl) ?_
    refine gM_model_x C hP (C.2.2.2.2.2.2.1 _ wq_924) dX6_at_12 ?_
    refine lv_iconst (v := 1) hx hb dX6_at_15 (by decide) ?_
    refine lcM_0 C hP tc_1 vi_1_810 dX6_at_16 ?_
    refine lv_iconst (v := 1) hx hb dX6_at_17 (by decide) ?_
    refine lv_isub hx hb dX6_at_18 ?_
    refine kNi (rnS (C.none) (ct_X6_within l D h) ys_X6_within wq_974 ⟨rfl, rfl⟩ ⟨Nat.le_of_ble_eq_true rfl, Nat.le_of_ble_eq_true rfl⟩ ⟨Nat.zero_le _, Nat.zero_le _⟩ trivial hl.1 rfl rfl (Nat.le_of_ble_eq_true rfl) dX6_at_19) hS (fun _ h => h.elim) (fun r19 H locs h hk hS => ?_)
    have hP := keepN hP hk
    refine lv_if_eq (tgt := 29) hx hb dX6_at_22 (by decide) (fun hc => ?_) (fun hc => ?_)
    · have h := h.1 hc
      exact wk_X6_at_29 C hap h hP hS (lv_sub hl [0, 1, 2] rfl)
    · have h := h.2 hc
      refine lv_iconst (v := 0) hx hb dX6_at_25 (by decide) ?_
      refine lv_goto (tgt := 30) hx hb dX6_at_26 (by decide) ?_
      exact wk_X6_at_30 C hap h hP hS (lv_sub hl [0, 1, 2] rfl)
abbrev rmX6_sector : Room := { frames := 2, cells := 0, slots := 0, locals := 45 }
def wb_X6_sector_89 (Q : Int32 → Rg → Ar → Prop) (σ : Rg) (μ : Ar) (t0 : Int32) : Prop := Q t0 σ μ
set_option maxHeartbeats 4000000 in
set_option maxRecDepth 100000 in
theorem wk_X6_sector_89 {p : Program} {l : Launch} {e : Env} {s : State} {m : MethodId} {args : Array Value} {below : List Frame} {meth : Method} {c : Code} {D : va_G} {cy : ClassId} {Ad : Nat → Nat} (C : Cx p s m args meth c RX6 cX6_sector 3 (some FieldType.int) D [(cy, .int)]) (hap : apt 8 Ad) {Q : Int32 → Rg → Ar → Prop} {σ : Rg} {μ : Ar} {t0 : Int32} {H : Heap} {locs : List Loc} {ls : Array Slot} (h : wb_X6_sector_89 Q σ μ t0) (hP : va_P D vwCl (wM Ad cy σ μ) H) (hS : va_S (AS 8 Ad) s.heap H locs) (hl : lv_has ls 3 []) : W p l e rmX6_sector s m args below meth c H locs 0 0 (MQ below (Qcg (PWi (wM Ad cy) D Q) (AS 8 Ad)) args s 0 0 (AS 8 Ad)) (F0 m 89 ls [.int t0]) := by
  have hx := C.1
  have hb := C.2.1
  exact endI C hS ⟨_, _, _, rfl, h, hP⟩ dX6_sector_89
def wb_X6_sector_112 (Q : Int32 → Rg → Ar → Prop) (σ : Rg) (μ : Ar) (t0 : Int32) : Prop := Q t0 σ μ
set_option maxHeartbeats 4000000 in
set_option maxRecDepth 100000 in
theorem wk_X6_sector_112 {p : Program} {l : Launch} {e : Env} {s : State} {m : MethodId} {args : Array Value} {below : List Frame} {meth : Method} {c : Code} {D : va_G} {cy : ClassId} {Ad : Nat → Nat} (C : Cx p s m args meth c RX6 cX6_sector 3 (some FieldType.int) D [(cy, .int)]) (hap : apt 8 Ad) {Q : Int32 → Rg → Ar → Prop} {σ : Rg} {μ : Ar} {t0 : Int32} {H : Heap} {locs : List Loc} {ls : Array Slot} (h : wb_X6_sector_112 Q σ μ t0) (hP : va_P D vwCl (wM Ad cy σ μ) H) (hS : va_S (AS 8 Ad) s.heap H locs) (hl : lv_has ls 3 []) : W p l e rmX6_sector s m args below meth c H locs 0 0 (MQ below (Qcg (PWi (wM Ad cy) D Q) (AS 8 Ad)) args s 0 0 (AS 8 Ad)) (F0 m 112 ls [.int t0]) := by
  have hx := C.1
  have hb := C.2.1
  exact endI C hS ⟨_, _, _, rfl, h, hP⟩ dX6_sector_112
def wb_X6_sector_111 (Q : Int32 → Rg → Ar → Prop) (σ : Rg) (μ : Ar) : Prop := wb_X6_sector_112 Q σ μ (0 : Int32)
set_option maxHeartbeats 4000000 in
set_option maxRecDepth 100000 in
theorem wk_X6_sector_111 {p : Program} {l : Launch} {e : Env} {s : State} {m : MethodId} {args : Array Value} {below : List Frame} {meth : Method} {c : Code} {D : va_G} {cy : ClassId} {Ad : Nat → Nat} (C : Cx p s m args meth c RX6 cX6_sector 3 (some FieldType.int) D [(cy, .int)]) (hap : apt 8 Ad) {Q : Int32 → Rg → Ar → Prop} {σ : Rg} {μ : Ar}  {H : Heap} {locs : List Loc} {ls : Array Slot} (h : wb_X6_sector_111 Q σ μ) (hP : va_P D vwCl (wM Ad cy σ μ) H) (hS : va_S (AS 8 Ad) s.heap H locs) (hl : lv_has ls 3 []) : W p l e rmX6_sector s m args below meth c H locs 0 0 (MQ below (Qcg (PWi (wM Ad cy) D Q) (AS 8 Ad)) args s 0 0 (AS 8 Ad)) (F0 m 111 ls []) := by
  have hx := C.1
  have hb := C.2.1
  refine lv_iconst (v := 0) hx hb dX6_sector_111 (by decide) ?_
  exact wk_X6_sector_112 C hap h hP hS (lv_sub hl [] rfl)
def wp_X6_sector (σ : Rg) (μ : Ar) (x1 : Int32) (x2 : Int32) (Q : Int32 → Rg → Ar → Prop) : Prop := ∀ σ2 : Rg, σ2 = upd σ 0 (0 : Int32) → (wp_X6_isSector σ2 μ x1 (fun r7 σ7 μ7 => ((¬ r7 = 0 → (((x2).toInt < 0 ∨ 4 < (x2).toInt → Q (-1 : Int32) σ7 μ7) ∧ (x2 = 0 → wp_X6_byteAt σ7 μ7 x1 (0 : Int32) (fun r55 σ55 μ55 => Q r55 σ55 μ55)) ∧ (x2 = 1 → wp_X6_numberOf σ7 μ7 x1 (fun r61 σ61 μ61 => Q r61 σ61 μ61)) ∧ (x2 = 2 → (vp_in ((36 : Int32) + x1) 810) ∧ (Q (μ7 0 (((36 : Int32) + x1)).toNatClampNeg) σ7 μ7)) ∧ (x2 = 3 → wp_X6_isBlank σ7 μ7 x1 (0 : Int32) (fun r78 σ78 μ78 => ((r78 = 0 → wb_X6_sector_89 Q σ78 μ78 (0 : Int32)) ∧ (¬ r78 = 0 → wb_X6_sector_89 Q σ78 μ78 (1 : Int32))))) ∧ (x2 = 4 → wp_X6_isOn σ7 μ7  (fun r91 σ91 μ91 => ((r91 = 0 → wb_X6_sector_111 Q σ91 μ91) ∧ (¬ r91 = 0 → ((¬ (μ91 0 3) = x1 → wb_X6_sector_111 Q σ91 μ91) ∧ ((μ91 0 3) = x1 → wb_X6_sector_112 Q σ91 μ91 (1 : Int32))))))))) ∧ (r7 = 0 → Q (-1 : Int32) σ7 μ7))))
set_option maxHeartbeats 4000000 in
set_option maxRecDepth 100000 in
theorem ct_X6_sector (l : Launch) (D : va_G) (cy : ClassId) (Ad : Nat → Nat) (hap : apt 8 Ad) {σ : Rg} {μ : Ar} {x1 : Int32} {x2 : Int32} {Q : Int32 → Rg → Ar → Prop} (h : wp_X6_sector σ μ x1 x2 Q) : Ct l yX6_sector cX6_sector 3 (some FieldType.int) rmX6_sector D [(cy, .int)] (fun H => va_P D vwCl (wM Ad cy σ μ) H) [.ref (Ad 0), .int x1, .int x2] (AS 8 Ad) (PWi (wM Ad cy) D Q) := by
  refine Ct.of (by decide) (Nat.le_of_ble_eq_true rfl) ?_
  intro p e s m below meth c ls C hP hl
  have hl : lv_has ls 3 [(0, .ref (Ad 0)), (1, .int x1), (2, .int x2)] := hl
  have hS : va_S (AS 8 Ad) s.heap s.heap [] := va_S.rf
  have hx := C.1
  have hb := C.2.1
  refine lv_aload_n hx hb dX6_sector_0 rfl (lv_at hl 0 rfl) ?_
  refine lv_iconst (v := 0) hx hb dX6_sector_1 (by decide) ?_
  refine pM_model_thrown C hap (fun _ h => h) hP hS (C.2.2.2.2.2.2.1 _ wq_926) dX6_sector_2 (fun H locs hP hS => ?_)
  obtain ⟨σ2, e2⟩ : ∃ z : Rg, z = upd σ 0 (0 : Int32) := ⟨_, rfl⟩
  have hP : va_P D vwCl (wM Ad cy σ2 μ) H := by rw [e2]; exact hP
  have h := h σ2 e2
  refine lv_aload_n hx hb dX6_sector_5 rfl (lv_at hl 0 rfl) ?_
  refine lv_iload_n hx hb dX6_sector_6 rfl (lv_at hl 1 rfl) ?_
  refine kWi (rnV C (ct_X6_isSector l D cy Ad hap h) yv_X6_isSector wq_1084 ⟨rfl, rfl⟩ ⟨Nat.le_of_ble_eq_true rfl, Nat.le_of_ble_eq_true rfl⟩ ⟨Nat.zero_le _, Nat.zero_le _⟩ (vM_model C hP) hP hl.1 rfl rfl (Nat.le_of_ble_eq_true rfl) dX6_sector_7) hS (fun _ h => h) (fun r7 σ7 μ7 H locs h hP hk hS => ?_)
  refine lv_if_ne (tgt := 15) hx hb dX6_sector_10 (by decide) (fun hc => ?_) (fun hc => ?_)
  · have h := h.1 hc
    refine lv_iload_n hx hb dX6_sector_15 rfl (lv_at hl 2 rfl) ?_
    by_cases hc : (x2).toInt < 0 ∨ 4 < (x2).toInt
    · have h := h.1 hc
      refine lv_tableOut (tgt := 113) hx hb dX6_sector_16 hc (by decide) ?_
      refine lv_iconst (v := -1) hx hb dX6_sector_113 (by decide) ?_
      exact endI C hS ⟨_, _, _, rfl, h, hP⟩ dX6_sector_114
    · have hr : (x2).toInt = 0 ∨ (x2).toInt = 1 ∨ (x2).toInt = 2 ∨ (x2).toInt = 3 ∨ (x2).toInt = 4 := by omega
      rcases hr with hr | hr | hr | hr | hr
      · have h := h.2.1 (Int32.toInt_inj.mp (by rw [hr]; rfl))
        refine lv_tableIn (off := 36) (tgt := 52) hx hb dX6_sector_16 (by omega) (by omega) (by rw [hr]; rfl) (by decide) ?_
        refine lv_aload_n hx hb dX6_sector_52 rfl (lv_at hl 0 rfl) ?_
        refine lv_iload_n hx hb dX6_sector_53 rfl (lv_at hl 1 rfl) ?_
        refine lv_iconst (v := 0) hx hb dX6_sector_54 (by decide) ?_
        refine kWi (rnV C (ct_X6_byteAt l D cy Ad hap h) yv_X6_byteAt wq_997 ⟨rfl, rfl⟩ ⟨Nat.le_of_ble_eq_true rfl, Nat.le_of_ble_eq_true rfl⟩ ⟨Nat.zero_le _, Nat.zero_le _⟩ (vM_model C hP) hP hl.1 rfl rfl (Nat.le_of_ble_eq_true rfl) dX6_sector_55) hS (fun _ h => h) (fun r55 σ55 μ55 H locs h hP hk hS => ?_)
        exact endI C hS ⟨_, _, _, rfl, h, hP⟩ dX6_sector_58
      · have h := h.2.2.1 (Int32.toInt_inj.mp (by rw [hr]; rfl))
        refine lv_tableIn (off := 43) (tgt := 59) hx hb dX6_sector_16 (by omega) (by omega) (by rw [hr]; rfl) (by decide) ?_
        refine lv_aload_n hx hb dX6_sector_59 rfl (lv_at hl 0 rfl) ?_
        refine lv_iload_n hx hb dX6_sector_60 rfl (lv_at hl 1 rfl) ?_
        refine kWi (rnV C (ct_X6_numberOf l D cy Ad hap h) yv_X6_numberOf wq_1004 ⟨rfl, rfl⟩ ⟨Nat.le_of_ble_eq_true rfl, Nat.le_of_ble_eq_true rfl⟩ ⟨Nat.zero_le _, Nat.zero_le _⟩ (vM_model C hP) hP hl.1 rfl rfl (Nat.le_of_ble_eq_true rfl) dX6_sector_61) hS (fun _ h => h) (fun r61 σ61 μ61 H locs h hP hk hS => ?_)
        exact endI C hS ⟨_, _, _, rfl, h, hP⟩ dX6_sector_64
      · have h := h.2.2.2.1 (Int32.toInt_inj.mp (by rw [hr]; rfl))
        refine lv_tableIn (off := 49) (tgt := 65) hx hb dX6_sector_16 (by omega) (by omega) (by rw [hr]; rfl) (by decide) ?_
        refine lv_aload_n hx hb dX6_sector_65 rfl (lv_at hl 0 rfl) ?_
        refine gM_model_x C hP (C.2.2.2.2.2.2.1 _ wq_924) dX6_sector_66 ?_
        refine lv_bipush (v := 36) hx hb dX6_sector_69 (by decide) ?_
        refine lv_iload_n hx hb dX6_sector_71 rfl (lv_at hl 1 rfl) ?_
        refine lv_iadd hx hb dX6_sector_72 ?_
        obtain ⟨hc, h⟩ := h
        refine lM_0 C hP hc dX6_sector_73 ?_
        exact endI C hS ⟨_, _, _, rfl, h, hP⟩ dX6_sector_74
      · have h := h.2.2.2.2.1 (Int32.toInt_inj.mp (by rw [hr]; rfl))
        refine lv_tableIn (off := 59) (tgt := 75) hx hb dX6_sector_16 (by omega) (by omega) (by rw [hr]; rfl) (by decide) ?_
        refine lv_aload_n hx hb dX6_sector_75 rfl (lv_at hl 0 rfl) ?_
        refine lv_iload_n hx hb dX6_sector_76 rfl (lv_at hl 1 rfl) ?_
        refine lv_iconst (v := 0) hx hb dX6_sector_77 (by decide) ?_
        refine kWi (rnV C (ct_X6_isBlank l D cy Ad hap h) yv_X6_isBlank wq_1012 ⟨rfl, rfl⟩ ⟨Nat.le_of_ble_eq_true rfl, Nat.le_of_ble_eq_true rfl⟩ ⟨Nat.zero_le _, Nat.zero_le _⟩ (vM_model C hP) hP hl.1 rfl rfl (Nat.le_of_ble_eq_true rfl) dX6_sector_78) hS (fun _ h => h) (fun r78 σ78 μ78 H locs h hP hk hS => ?_)
        refine lv_if_eq (tgt := 88) hx hb dX6_sector_81 (by decide) (fun hc => ?_) (fun hc => ?_)
        · have h := h.1 hc
          refine lv_iconst (v := 0) hx hb dX6_sector_88 (by decide) ?_
          exact wk_X6_sector_89 C hap h hP hS (lv_sub hl [] rfl)
        · have h := h.2 hc
          refine lv_iconst (v := 1) hx hb dX6_sector_84 (by decide) ?_
          refine lv_goto (tgt := 89) hx hb dX6_sector_85 (by decide) ?_
          exact wk_X6_sector_89 C hap h hP hS (lv_sub hl [] rfl)
      · have h := h.2.2.2.2.2 (Int32.toInt_inj.mp (by rw [hr]; rfl))
        refine lv_tableIn (off := 74) (tgt := 90) hx hb dX6_sector_16 (by omega) (by omega) (by rw [hr]; rfl) (by decide) ?_
        refine lv_aload_n hx hb dX6_sector_90 rfl (lv_at hl 0 rfl) ?_
        refine kWi (rnV C (ct_X6_isOn l D cy Ad hap h) yv_X6_isOn wq_981 ⟨rfl, rfl⟩ ⟨Nat.le_of_ble_eq_true rfl, Nat.le_of_ble_eq_true rfl⟩ ⟨Nat.zero_le _, Nat.zero_le _⟩ (vM_model C hP) hP hl.1 rfl rfl (Nat.le_of_ble_eq_true rfl) dX6_sector_91) hS (fun _ h => h) (fun r91 σ91 μ91 H locs h hP hk hS => ?_)
        refine lv_if_eq (tgt := 111) hx hb dX6_sector_94 (by decide) (fun hc => ?_) (fun hc => ?_)
        · have h := h.1 hc
          exact wk_X6_sector_111 C hap h hP hS (lv_sub hl [] rfl)
        · have h := h.2 hc
          refine lv_aload_n hx hb dX6_sector_97 rfl (lv_at hl 0 rfl) ?_
          refine gM_model_x C hP (C.2.2.2.2.2.2.1 _ wq_924) dX6_sector_98 ?_
          refine lv_iconst (v := 3) hx hb dX6_sector_101 (by decide) ?_
          refine lcM_0 C hP tc_3 vi_3_810 dX6_sector_102 ?_
          refine lv_iload_n hx hb dX6_sector_103 rfl (lv_at hl 1 rfl) ?_
          refine lv_icmp_ne (tgt := 111) hx hb dX6_sector_104 (by decide) (fun hc => ?_) (fun hc => ?_)
          · have h := h.1 hc
            exact wk_X6_sector_111 C hap h hP hS (lv_sub hl [] rfl)
          · have h := h.2 hc
            refine lv_iconst (v := 1) hx hb dX6_sector_107 (by decide) ?_
            refine lv_goto (tgt := 112) hx hb dX6_sector_108 (by decide) ?_
            exact wk_X6_sector_112 C hap h hP hS (lv_sub hl [] rfl)
  · have h := h.2 hc
    refine lv_iconst (v := -1) hx hb dX6_sector_13 (by decide) ?_
    exact endI C hS ⟨_, _, _, rfl, h, hP⟩ dX6_sector_14
abbrev rmX6_entry : Room := { frames := 3, cells := 0, slots := 0, locals := 72 }
def wb_X6_entry_22 (Q : Int32 → Rg → Ar → Prop) (σ : Rg) (μ : Ar) : Prop := Q (-1 : Int32) σ μ
set_option maxHeartbeats 4000000 in
set_option maxRecDepth 100000 in
theorem wk_X6_entry_22 {p : Program} {l : Launch} {e : Env} {s : State} {m : MethodId} {args : Array Value} {below : List Frame} {meth : Method} {c : Code} {D : va_G} {cy : ClassId} {Ad : Nat → Nat} (C : Cx p s m args meth c RX6 cX6_entry 4 (some FieldType.int) D [(cy, .int)]) (hap : apt 8 Ad) {Q : Int32 → Rg → Ar → Prop} {σ : Rg} {μ : Ar}  {H : Heap} {locs : List Loc} {ls : Array Slot} (h : wb_X6_entry_22 Q σ μ) (hP : va_P D vwCl (wM Ad cy σ μ) H) (hS : va_S (AS 8 Ad) s.heap H locs) (hl : lv_has ls 4 []) : W p l e rmX6_entry s m args below meth c H locs 0 0 (MQ below (Qcg (PWi (wM Ad cy) D Q) (AS 8 Ad)) args s 0 0 (AS 8 Ad)) (F0 m 22 ls []) := by
  have hx := C.1
  have hb := C.2.1
  refine lv_iconst (v := -1) hx hb dX6_entry_22 (by decide) ?_
  exact endI C hS ⟨_, _, _, rfl, h, hP⟩ dX6_entry_23
def wp_X6_entry (σ : Rg) (μ : Ar) (x1 : Int32) (x2 : Int32) (x3 : Int32) (Q : Int32 → Rg → Ar → Prop) : Prop := ∀ σ2 : Rg, σ2 = upd σ 0 (0 : Int32) → (wp_X6_isSector σ2 μ x1 (fun r7 σ7 μ7 => ((r7 = 0 → wb_X6_entry_22 Q σ7 μ7) ∧ (¬ r7 = 0 → wp_X6_within x3 (0 : Int32) (4 : Int32) (fun r16 => ((¬ r16 = 0 → wp_X6_reads σ7 μ7 x1 (fun σ26 μ26 => ((¬ x2 = (-1 : Int32) → wp_X6_within x2 (0 : Int32) ((σ26 2) - (1 : Int32)) (fun r47 => ((¬ r47 = 0 → (((x3).toInt < 0 ∨ 3 < (x3).toInt → (vp_in x2 64) ∧ (Q (μ26 5 (x2).toNatClampNeg) σ26 μ26)) ∧ (x3 = 0 → (vp_in x2 64) ∧ (Q (μ26 2 (x2).toNatClampNeg) σ26 μ26)) ∧ (x3 = 1 → (vp_in x2 64) ∧ (wp_X6_byteAt σ26 μ26 x1 (μ26 2 (x2).toNatClampNeg) (fun r103 σ103 μ103 => Q r103 σ103 μ103))) ∧ (x3 = 2 → (vp_in x2 64) ∧ (Q (μ26 3 (x2).toNatClampNeg) σ26 μ26)) ∧ (x3 = 3 → (vp_in x2 64) ∧ (Q (μ26 4 (x2).toNatClampNeg) σ26 μ26)))) ∧ (r47 = 0 → Q (-1 : Int32) σ26 μ26)))) ∧ (x2 = (-1 : Int32) → Q (σ26 2) σ26 μ26)))) ∧ (r16 = 0 → wb_X6_entry_22 Q σ7 μ7)))))))
set_option maxHeartbeats 4000000 in
set_option maxRecDepth 100000 in
theorem ct_X6_entry (l : Launch) (D : va_G) (cy : ClassId) (Ad : Nat → Nat) (hap : apt 8 Ad) {σ : Rg} {μ : Ar} {x1 : Int32} {x2 : Int32} {x3 : Int32} {Q : Int32 → Rg → Ar → Prop} (h : wp_X6_entry σ μ x1 x2 x3 Q) : Ct l yX6_entry cX6_entry 4 (some FieldType.int) rmX6_entry D [(cy, .int)] (fun H => va_P D vwCl (wM Ad cy σ μ) H) [.ref (Ad 0), .int x1, .int x2, .int x3] (AS 8 Ad) (PWi (wM Ad cy) D Q) := by
  refine Ct.of (by decide) (Nat.le_of_ble_eq_true rfl) ?_
  intro p e s m below meth c ls C hP hl
  have hl : lv_has ls 4 [(0, .ref (Ad 0)), (1, .int x1), (2, .int x2), (3, .int x3)] := hl
  have hS : va_S (AS 8 Ad) s.heap s.heap [] := va_S.rf
  have hx := C.1
  have hb := C.2.1
  refine lv_aload_n hx hb dX6_entry_0 rfl (lv_at hl 0 rfl) ?_
  refine lv_iconst (v := 0) hx hb dX6_entry_1 (by decide) ?_
  refine pM_model_thrown C hap (fun _ h => h) hP hS (C.2.2.2.2.2.2.1 _ wq_926) dX6_entry_2 (fun H locs hP hS => ?_)
  obtain ⟨σ2, e2⟩ : ∃ z : Rg, z = upd σ 0 (0 : Int32) := ⟨_, rfl⟩
  have hP : va_P D vwCl (wM Ad cy σ2 μ) H := by rw [e2]; exact hP
  have h := h σ2 e2
  refine lv_aload_n hx hb dX6_entry_5 rfl (lv_at hl 0 rfl) ?_
  refine lv_iload_n hx hb dX6_entry_6 rfl (lv_at hl 1 rfl) ?_
  refine kWi (rnV C (ct_X6_isSector l D cy Ad hap h) yv_X6_isSector wq_1084 ⟨rfl, rfl⟩ ⟨Nat.le_of_ble_eq_true rfl, Nat.le_of_ble_eq_true rfl⟩ ⟨Nat.zero_le _, Nat.zero_le _⟩ (vM_model C hP) hP hl.1 rfl rfl (Nat.le_of_ble_eq_true rfl) dX6_entry_7) hS (fun _ h => h) (fun r7 σ7 μ7 H locs h hP hk hS => ?_)
  refine lv_if_eq (tgt := 22) hx hb dX6_entry_10 (by decide) (fun hc => ?_) (fun hc => ?_)
  · have h := h.1 hc
    exact wk_X6_entry_22 C hap h hP hS (lv_sub hl [] rfl)
  · have h := h.2 hc
    refine lv_iload_n hx hb dX6_entry_13 rfl (lv_at hl 3 rfl) ?_
    refine lv_iconst (v := 0) hx hb dX6_entry_14 (by decide) ?_
    refine lv_iconst (v := 4) hx hb dX6_entry_15 (by decide) ?_
    refine kNi (rnS (C.none) (ct_X6_within l D h) ys_X6_within wq_974 ⟨rfl, rfl⟩ ⟨Nat.le_of_ble_eq_true rfl, Nat.le_of_ble_eq_true rfl⟩ ⟨Nat.zero_le _, Nat.zero_le _⟩ trivial hl.1 rfl rfl (Nat.le_of_ble_eq_true rfl) dX6_entry_16) hS (fun _ h => h.elim) (fun r16 H locs h hk hS => ?_)
    have hP := keepN hP hk
    refine lv_if_ne (tgt := 24) hx hb dX6_entry_19 (by decide) (fun hc => ?_) (fun hc => ?_)
    · have h := h.1 hc
      refine lv_aload_n hx hb dX6_entry_24 rfl (lv_at hl 0 rfl) ?_
      refine lv_iload_n hx hb dX6_entry_25 rfl (lv_at hl 1 rfl) ?_
      refine kWv (rnV C (ct_X6_reads l D cy Ad hap h) yv_X6_reads wq_1036 ⟨rfl, rfl⟩ ⟨Nat.le_of_ble_eq_true rfl, Nat.le_of_ble_eq_true rfl⟩ ⟨Nat.zero_le _, Nat.zero_le _⟩ (vM_model C hP) hP hl.1 rfl rfl (Nat.le_of_ble_eq_true rfl) dX6_entry_26) hS (fun _ h => h) (fun σ26 μ26 H locs h hP hk hS => ?_)
      refine lv_iload_n hx hb dX6_entry_29 rfl (lv_at hl 2 rfl) ?_
      refine lv_iconst (v := -1) hx hb dX6_entry_30 (by decide) ?_
      refine lv_icmp_ne (tgt := 39) hx hb dX6_entry_31 (by decide) (fun hc => ?_) (fun hc => ?_)
      · have h := h.1 hc
        refine lv_iload_n hx hb dX6_entry_39 rfl (lv_at hl 2 rfl) ?_
        refine lv_iconst (v := 0) hx hb dX6_entry_40 (by decide) ?_
        refine lv_aload_n hx hb dX6_entry_41 rfl (lv_at hl 0 rfl) ?_
        refine gM_model_entries C hP (C.2.2.2.2.2.2.1 _ wq_928) dX6_entry_42 ?_
        refine lv_iconst (v := 1) hx hb dX6_entry_45 (by decide) ?_
        refine lv_isub hx hb dX6_entry_46 ?_
        refine kNi (rnS (C.none) (ct_X6_within l D h) ys_X6_within wq_974 ⟨rfl, rfl⟩ ⟨Nat.le_of_ble_eq_true rfl, Nat.le_of_ble_eq_true rfl⟩ ⟨Nat.zero_le _, Nat.zero_le _⟩ trivial hl.1 rfl rfl (Nat.le_of_ble_eq_true rfl) dX6_entry_47) hS (fun _ h => h.elim) (fun r47 H locs h hk hS => ?_)
        have hP := keepN hP hk
        refine lv_if_ne (tgt := 55) hx hb dX6_entry_50 (by decide) (fun hc => ?_) (fun hc => ?_)
        · have h := h.1 hc
          refine lv_iload_n hx hb dX6_entry_55 rfl (lv_at hl 3 rfl) ?_
          by_cases hc : (x3).toInt < 0 ∨ 3 < (x3).toInt
          · have h := h.1 hc
            refine lv_tableOut (tgt := 121) hx hb dX6_entry_56 hc (by decide) ?_
            refine lv_aload_n hx hb dX6_entry_121 rfl (lv_at hl 0 rfl) ?_
            refine gM_model_state C hP (C.2.2.2.2.2.2.1 _ wq_934) dX6_entry_122 ?_
            refine lv_iload_n hx hb dX6_entry_125 rfl (lv_at hl 2 rfl) ?_
            obtain ⟨hc, h⟩ := h
            refine lM_5 C hP hc dX6_entry_126 ?_
            exact endI C hS ⟨_, _, _, rfl, h, hP⟩ dX6_entry_127
          · have hr : (x3).toInt = 0 ∨ (x3).toInt = 1 ∨ (x3).toInt = 2 ∨ (x3).toInt = 3 := by omega
            rcases hr with hr | hr | hr | hr
            · have h := h.2.1 (Int32.toInt_inj.mp (by rw [hr]; rfl))
              refine lv_tableIn (off := 32) (tgt := 88) hx hb dX6_entry_56 (by omega) (by omega) (by rw [hr]; rfl) (by decide) ?_
              refine lv_aload_n hx hb dX6_entry_88 rfl (lv_at hl 0 rfl) ?_
              refine gM_model_place C hP (C.2.2.2.2.2.2.1 _ wq_931) dX6_entry_89 ?_
              refine lv_iload_n hx hb dX6_entry_92 rfl (lv_at hl 2 rfl) ?_
              obtain ⟨hc, h⟩ := h
              refine lM_2 C hP hc dX6_entry_93 ?_
              exact endI C hS ⟨_, _, _, rfl, h, hP⟩ dX6_entry_94
            · have h := h.2.2.1 (Int32.toInt_inj.mp (by rw [hr]; rfl))
              refine lv_tableIn (off := 39) (tgt := 95) hx hb dX6_entry_56 (by omega) (by omega) (by rw [hr]; rfl) (by decide) ?_
              refine lv_aload_n hx hb dX6_entry_95 rfl (lv_at hl 0 rfl) ?_
              refine lv_iload_n hx hb dX6_entry_96 rfl (lv_at hl 1 rfl) ?_
              refine lv_aload_n hx hb dX6_entry_97 rfl (lv_at hl 0 rfl) ?_
              refine gM_model_place C hP (C.2.2.2.2.2.2.1 _ wq_931) dX6_entry_98 ?_
              refine lv_iload_n hx hb dX6_entry_101 rfl (lv_at hl 2 rfl) ?_
              obtain ⟨hc, h⟩ := h
              refine lM_2 C hP hc dX6_entry_102 ?_
              refine kWi (rnV C (ct_X6_byteAt l D cy Ad hap h) yv_X6_byteAt wq_997 ⟨rfl, rfl⟩ ⟨Nat.le_of_ble_eq_true rfl, Nat.le_of_ble_eq_true rfl⟩ ⟨Nat.zero_le _, Nat.zero_le _⟩ (vM_model C hP) hP hl.1 rfl rfl (Nat.le_of_ble_eq_true rfl) dX6_entry_103) hS (fun _ h => h) (fun r103 σ103 μ103 H locs h hP hk hS => ?_)
              exact endI C hS ⟨_, _, _, rfl, h, hP⟩ dX6_entry_106
            · have h := h.2.2.2.1 (Int32.toInt_inj.mp (by rw [hr]; rfl))
              refine lv_tableIn (off := 51) (tgt := 107) hx hb dX6_entry_56 (by omega) (by omega) (by rw [hr]; rfl) (by decide) ?_
              refine lv_aload_n hx hb dX6_entry_107 rfl (lv_at hl 0 rfl) ?_
              refine gM_model_sort C hP (C.2.2.2.2.2.2.1 _ wq_932) dX6_entry_108 ?_
              refine lv_iload_n hx hb dX6_entry_111 rfl (lv_at hl 2 rfl) ?_
              obtain ⟨hc, h⟩ := h
              refine lM_3 C hP hc dX6_entry_112 ?_
              exact endI C hS ⟨_, _, _, rfl, h, hP⟩ dX6_entry_113
            · have h := h.2.2.2.2 (Int32.toInt_inj.mp (by rw [hr]; rfl))
              refine lv_tableIn (off := 58) (tgt := 114) hx hb dX6_entry_56 (by omega) (by omega) (by rw [hr]; rfl) (by decide) ?_
              refine lv_aload_n hx hb dX6_entry_114 rfl (lv_at hl 0 rfl) ?_
              refine gM_model_size C hP (C.2.2.2.2.2.2.1 _ wq_933) dX6_entry_115 ?_
              refine lv_iload_n hx hb dX6_entry_118 rfl (lv_at hl 2 rfl) ?_
              obtain ⟨hc, h⟩ := h
              refine lM_4 C hP hc dX6_entry_119 ?_
              exact endI C hS ⟨_, _, _, rfl, h, hP⟩ dX6_entry_120
        · have h := h.2 hc
          refine lv_iconst (v := -1) hx hb dX6_entry_53 (by decide) ?_
          exact endI C hS ⟨_, _, _, rfl, h, hP⟩ dX6_entry_54
      · have h := h.2 hc
        refine lv_aload_n hx hb dX6_entry_34 rfl (lv_at hl 0 rfl) ?_
        refine gM_model_entries C hP (C.2.2.2.2.2.2.1 _ wq_928) dX6_entry_35 ?_
        exact endI C hS ⟨_, _, _, rfl, h, hP⟩ dX6_entry_38
    · have h := h.2 hc
      exact wk_X6_entry_22 C hap h hP hS (lv_sub hl [] rfl)
abbrev rmX6_space : Room := { frames := 3, cells := 0, slots := 0, locals := 72 }
def wb_X6_space_22 (Q : Int32 → Rg → Ar → Prop) (σ : Rg) (μ : Ar) : Prop := Q (-1 : Int32) σ μ
set_option maxHeartbeats 4000000 in
set_option maxRecDepth 100000 in
theorem wk_X6_space_22 {p : Program} {l : Launch} {e : Env} {s : State} {m : MethodId} {args : Array Value} {below : List Frame} {meth : Method} {c : Code} {D : va_G} {cy : ClassId} {Ad : Nat → Nat} (C : Cx p s m args meth c RX6 cX6_space 6 (some FieldType.int) D [(cy, .int)]) (hap : apt 8 Ad) {Q : Int32 → Rg → Ar → Prop} {σ : Rg} {μ : Ar}  {H : Heap} {locs : List Loc} {ls : Array Slot} (h : wb_X6_space_22 Q σ μ) (hP : va_P D vwCl (wM Ad cy σ μ) H) (hS : va_S (AS 8 Ad) s.heap H locs) (hl : lv_has ls 6 []) : W p l e rmX6_space s m args below meth c H locs 0 0 (MQ below (Qcg (PWi (wM Ad cy) D Q) (AS 8 Ad)) args s 0 0 (AS 8 Ad)) (F0 m 22 ls []) := by
  have hx := C.1
  have hb := C.2.1
  refine lv_iconst (v := -1) hx hb dX6_space_22 (by decide) ?_
  exact endI C hS ⟨_, _, _, rfl, h, hP⟩ dX6_space_23
def wb_X6_space_139 (Q : Int32 → Rg → Ar → Prop) (σ : Rg) (μ : Ar) (t0 : Int32) : Prop := Q t0 σ μ
set_option maxHeartbeats 4000000 in
set_option maxRecDepth 100000 in
theorem wk_X6_space_139 {p : Program} {l : Launch} {e : Env} {s : State} {m : MethodId} {args : Array Value} {below : List Frame} {meth : Method} {c : Code} {D : va_G} {cy : ClassId} {Ad : Nat → Nat} (C : Cx p s m args meth c RX6 cX6_space 6 (some FieldType.int) D [(cy, .int)]) (hap : apt 8 Ad) {Q : Int32 → Rg → Ar → Prop} {σ : Rg} {μ : Ar} {t0 : Int32} {H : Heap} {locs : List Loc} {ls : Array Slot} (h : wb_X6_space_139 Q σ μ t0) (hP : va_P D vwCl (wM Ad cy σ μ) H) (hS : va_S (AS 8 Ad) s.heap H locs) (hl : lv_has ls 6 []) : W p l e rmX6_space s m args below meth c H locs 0 0 (MQ below (Qcg (PWi (wM Ad cy) D Q) (AS 8 Ad)) args s 0 0 (AS 8 Ad)) (F0 m 139 ls [.int t0]) := by
  have hx := C.1
  have hb := C.2.1
  exact endI C hS ⟨_, _, _, rfl, h, hP⟩ dX6_space_139
def wb_X6_space_120 (Q : Int32 → Rg → Ar → Prop) (k58 : Rg → Ar → Int32 → Int32 → Int32 → Int32 → Int32 → Prop) (σ : Rg) (μ : Ar) (v1 : Int32) (v2 : Int32) (v3 : Int32) (v4 : Int32) (v5 : Int32) : Prop := ∀ y120 : Int32, y120 = v5 + (1 : Int32) → (k58 σ μ v1 v2 v3 v4 y120)
set_option maxHeartbeats 4000000 in
set_option maxRecDepth 100000 in
theorem wk_X6_space_120 {p : Program} {l : Launch} {e : Env} {s : State} {m : MethodId} {args : Array Value} {below : List Frame} {meth : Method} {c : Code} {D : va_G} {cy : ClassId} {Ad : Nat → Nat} (C : Cx p s m args meth c RX6 cX6_space 6 (some FieldType.int) D [(cy, .int)]) (hap : apt 8 Ad) {Q : Int32 → Rg → Ar → Prop} {k58 : Rg → Ar → Int32 → Int32 → Int32 → Int32 → Int32 → Prop} (hk58 : ∀ {σ : Rg} {μ : Ar} {v1 : Int32} {v2 : Int32} {v3 : Int32} {v4 : Int32} {v5 : Int32} {H : Heap} {locs : List Loc} {ls : Array Slot}, k58 σ μ v1 v2 v3 v4 v5 → va_P D vwCl (wM Ad cy σ μ) H → va_S (AS 8 Ad) s.heap H locs → lv_has ls 6 [(0, .ref (Ad 0)), (1, .int v1), (2, .int v2), (3, .int v3), (4, .int v4), (5, .int v5)] → W p l e rmX6_space s m args below meth c H locs 0 0 (MQ below (Qcg (PWi (wM Ad cy) D Q) (AS 8 Ad)) args s 0 0 (AS 8 Ad)) (F0 m 58 ls [])) {σ : Rg} {μ : Ar} {v1 : Int32} {v2 : Int32} {v3 : Int32} {v4 : Int32} {v5 : Int32} {H : Heap} {locs : List Loc} {ls : Array Slot} (h : wb_X6_space_120 Q k58 σ μ v1 v2 v3 v4 v5) (hP : va_P D vwCl (wM Ad cy σ μ) H) (hS : va_S (AS 8 Ad) s.heap H locs) (hl : lv_has ls 6 [(0, .ref (Ad 0)), (1, .int v1), (2, .int v2), (3, .int v3), (4, .int v4), (5, .int v5)]) : W p l e rmX6_space s m args below meth c H locs 0 0 (MQ below (Qcg (PWi (wM Ad cy) D Q) (AS 8 Ad)) args s 0 0 (AS 8 Ad)) (F0 m 120 ls []) := by
  have hx := C.1
  have hb := C.2.1
  obtain ⟨y120, e120⟩ : ∃ y : Int32, y = v5 + (1 : Int32) := ⟨_, rfl⟩
  have h := h y120 e120
  refine lv_iinc (v := y120) (lv' := [(5, .int y120), (0, .ref (Ad 0)), (1, .int v1), (2, .int v2), (3, .int v3), (4, .int v4)]) hx hb dX6_space_120 hl (k := 5) rfl (by rw [e120]; rfl) (by decide) rfl (fun ls hl => ?_)
  refine lv_goto (tgt := 58) hx hb dX6_space_123 (by decide) ?_
  exact hk58 h hP hS (lv_sub hl [1, 2, 3, 4, 5, 0] rfl)
def wb_X6_space_58 (Q : Int32 → Rg → Ar → Prop) (k58 : Rg → Ar → Int32 → Int32 → Int32 → Int32 → Int32 → Prop) (σ : Rg) (μ : Ar) (v1 : Int32) (v2 : Int32) (v3 : Int32) (v4 : Int32) (v5 : Int32) : Prop := (((σ 2) ≤ v5 → ((¬ v2 = (2 : Int32) → wb_X6_space_139 Q σ μ (v4 - v3)) ∧ (v2 = (2 : Int32) → wb_X6_space_139 Q σ μ v3))) ∧ (¬ (σ 2) ≤ v5 → (vp_in v5 64) ∧ (∀ y77 : Int32, y77 = (v4 + (μ 4 (v5).toNatClampNeg)) → ((vp_in v5 64) ∧ ((((μ 3 (v5).toNatClampNeg) = (3 : Int32) → wb_X6_space_120 Q k58 σ μ v1 v2 v3 y77 v5) ∧ (¬ (μ 3 (v5).toNatClampNeg) = (3 : Int32) → (vp_in v5 64) ∧ (((¬ (μ 5 (v5).toNatClampNeg) = 0 → wb_X6_space_120 Q k58 σ μ v1 v2 v3 y77 v5) ∧ ((μ 5 (v5).toNatClampNeg) = 0 → wp_X6_lengthOf σ μ v1 v5 (fun r104 σ104 μ104 => ((r104 ≤ 0 → wb_X6_space_120 Q k58 σ104 μ104 v1 v2 v3 y77 v5) ∧ (¬ r104 ≤ 0 → (vp_in v5 64) ∧ (∀ y119 : Int32, y119 = (v3 + (μ104 4 (v5).toNatClampNeg)) → (wb_X6_space_120 Q k58 σ104 μ104 v1 v2 y119 y77 v5)))))))))))))))
set_option maxHeartbeats 4000000 in
set_option maxRecDepth 100000 in
theorem wk_X6_space_58 {p : Program} {l : Launch} {e : Env} {s : State} {m : MethodId} {args : Array Value} {below : List Frame} {meth : Method} {c : Code} {D : va_G} {cy : ClassId} {Ad : Nat → Nat} (C : Cx p s m args meth c RX6 cX6_space 6 (some FieldType.int) D [(cy, .int)]) (hap : apt 8 Ad) {Q : Int32 → Rg → Ar → Prop} {k58 : Rg → Ar → Int32 → Int32 → Int32 → Int32 → Int32 → Prop} (hk58 : ∀ {σ : Rg} {μ : Ar} {v1 : Int32} {v2 : Int32} {v3 : Int32} {v4 : Int32} {v5 : Int32} {H : Heap} {locs : List Loc} {ls : Array Slot}, k58 σ μ v1 v2 v3 v4 v5 → va_P D vwCl (wM Ad cy σ μ) H → va_S (AS 8 Ad) s.heap H locs → lv_has ls 6 [(0, .ref (Ad 0)), (1, .int v1), (2, .int v2), (3, .int v3), (4, .int v4), (5, .int v5)] → W p l e rmX6_space s m args below meth c H locs 0 0 (MQ below (Qcg (PWi (wM Ad cy) D Q) (AS 8 Ad)) args s 0 0 (AS 8 Ad)) (F0 m 58 ls [])) {σ : Rg} {μ : Ar} {v1 : Int32} {v2 : Int32} {v3 : Int32} {v4 : Int32} {v5 : Int32} {H : Heap} {locs : List Loc} {ls : Array Slot} (h : wb_X6_space_58 Q k58 σ μ v1 v2 v3 v4 v5) (hP : va_P D vwCl (wM Ad cy σ μ) H) (hS : va_S (AS 8 Ad) s.heap H locs) (hl : lv_has ls 6 [(0, .ref (Ad 0)), (1, .int v1), (2, .int v2), (3, .int v3), (4, .int v4), (5, .int v5)]) : W p l e rmX6_space s m args below meth c H locs 0 0 (MQ below (Qcg (PWi (wM Ad cy) D Q) (AS 8 Ad)) args s 0 0 (AS 8 Ad)) (F0 m 58 ls []) := by
  have hx := C.1
  have hb := C.2.1
  refine lv_iload hx hb dX6_space_58 (lv_at hl 5 rfl) ?_
  refine lv_aload_n hx hb dX6_space_60 rfl (lv_at hl 0 rfl) ?_
  refine gM_model_entries C hP (C.2.2.2.2.2.2.1 _ wq_928) dX6_space_61 ?_
  refine lv_icmp_ge (tgt := 126) hx hb dX6_space_64 (by decide) (fun hc => ?_) (fun hc => ?_)
  · have h := h.1 hc
    refine lv_iload_n hx hb dX6_space_126 rfl (lv_at hl 2 rfl) ?_
    refine lv_iconst (v := 2) hx hb dX6_space_127 (by decide) ?_
    refine lv_icmp_ne (tgt := 135) hx hb dX6_space_128 (by decide) (fun hc => ?_) (fun hc => ?_)
    · have h := h.1 hc
      refine lv_iload hx hb dX6_space_135 (lv_at hl 4 rfl) ?_
      refine lv_iload_n hx hb dX6_space_137 rfl (lv_at hl 3 rfl) ?_
      refine lv_isub hx hb dX6_space_138 ?_
      exact wk_X6_space_139 C hap h hP hS (lv_sub hl [] rfl)
    · have h := h.2 hc
      refine lv_iload_n hx hb dX6_space_131 rfl (lv_at hl 3 rfl) ?_
      refine lv_goto (tgt := 139) hx hb dX6_space_132 (by decide) ?_
      exact wk_X6_space_139 C hap h hP hS (lv_sub hl [] rfl)
  · have h := h.2 hc
    refine lv_iload hx hb dX6_space_67 (lv_at hl 4 rfl) ?_
    refine lv_aload_n hx hb dX6_space_69 rfl (lv_at hl 0 rfl) ?_
    refine gM_model_size C hP (C.2.2.2.2.2.2.1 _ wq_933) dX6_space_70 ?_
    refine lv_iload hx hb dX6_space_73 (lv_at hl 5 rfl) ?_
    obtain ⟨hc, h⟩ := h
    refine lM_4 C hP hc dX6_space_75 ?_
    refine lv_iadd hx hb dX6_space_76 ?_
    refine lv_topi (fun y77 e77 => ?_)
    have h := h y77 e77
    refine lv_istore (lv' := [(4, .int y77), (0, .ref (Ad 0)), (1, .int v1), (2, .int v2), (3, .int v3), (5, .int v5)]) hx hb dX6_space_77 hl (by decide) rfl (fun ls hl => ?_)
    refine lv_aload_n hx hb dX6_space_79 rfl (lv_at hl 1 rfl) ?_
    refine gM_model_sort C hP (C.2.2.2.2.2.2.1 _ wq_932) dX6_space_80 ?_
    refine lv_iload hx hb dX6_space_83 (lv_at hl 5 rfl) ?_
    obtain ⟨hc, h⟩ := h
    refine lM_3 C hP hc dX6_space_85 ?_
    refine lv_iconst (v := 3) hx hb dX6_space_86 (by decide) ?_
    refine lv_icmp_eq (tgt := 120) hx hb dX6_space_87 (by decide) (fun hc => ?_) (fun hc => ?_)
    · have h := h.1 hc
      exact wk_X6_space_120 C hap hk58 h hP hS (lv_sub hl [1, 2, 3, 4, 0, 5] rfl)
    · have h := h.2 hc
      refine lv_aload_n hx hb dX6_space_90 rfl (lv_at hl 1 rfl) ?_
      refine gM_model_state C hP (C.2.2.2.2.2.2.1 _ wq_934) dX6_space_91 ?_
      refine lv_iload hx hb dX6_space_94 (lv_at hl 5 rfl) ?_
      obtain ⟨hc, h⟩ := h
      refine lM_5 C hP hc dX6_space_96 ?_
      refine lv_if_ne (tgt := 120) hx hb dX6_space_97 (by decide) (fun hc => ?_) (fun hc => ?_)
      · have h := h.1 hc
        exact wk_X6_space_120 C hap hk58 h hP hS (lv_sub hl [1, 2, 3, 4, 0, 5] rfl)
      · have h := h.2 hc
        refine lv_aload_n hx hb dX6_space_100 rfl (lv_at hl 1 rfl) ?_
        refine lv_iload_n hx hb dX6_space_101 rfl (lv_at hl 2 rfl) ?_
        refine lv_iload hx hb dX6_space_102 (lv_at hl 5 rfl) ?_
        refine kWi (rnV C (ct_X6_lengthOf l D cy Ad hap h) yv_X6_lengthOf wq_1068 ⟨rfl, rfl⟩ ⟨Nat.le_of_ble_eq_true rfl, Nat.le_of_ble_eq_true rfl⟩ ⟨Nat.zero_le _, Nat.zero_le _⟩ (vM_model C hP) hP hl.1 rfl rfl (Nat.le_of_ble_eq_true rfl) dX6_space_104) hS (fun _ h => h) (fun r104 σ104 μ104 H locs h hP hk hS => ?_)
        refine lv_if_le (tgt := 120) hx hb dX6_space_107 (by decide) (fun hc => ?_) (fun hc => ?_)
        · have h := h.1 hc
          exact wk_X6_space_120 C hap hk58 h hP hS (lv_sub hl [1, 2, 3, 4, 0, 5] rfl)
        · have h := h.2 hc
          refine lv_iload_n hx hb dX6_space_110 rfl (lv_at hl 4 rfl) ?_
          refine lv_aload_n hx hb dX6_space_111 rfl (lv_at hl 1 rfl) ?_
          refine gM_model_size C hP (C.2.2.2.2.2.2.1 _ wq_933) dX6_space_112 ?_
          refine lv_iload hx hb dX6_space_115 (lv_at hl 5 rfl) ?_
          obtain ⟨hc, h⟩ := h
          refine lM_4 C hP hc dX6_space_117 ?_
          refine lv_iadd hx hb dX6_space_118 ?_
          refine lv_topi (fun y119 e119 => ?_)
          have h := h y119 e119
          refine lv_istore_n (lv' := [(3, .int y119), (4, .int y77), (0, .ref (Ad 0)), (1, .int v1), (2, .int v2), (5, .int v5)]) hx hb dX6_space_119 rfl hl (by decide) rfl (fun ls hl => ?_)
          exact wk_X6_space_120 C hap hk58 h hP hS (lv_sub hl [2, 3, 4, 0, 1, 5] rfl)
def wl_X6_space_58 (Q : Int32 → Rg → Ar → Prop) (n : Nat) : Rg → Ar → Int32 → Int32 → Int32 → Int32 → Int32 → Prop := Nat.rec (motive := fun _ => Rg → Ar → Int32 → Int32 → Int32 → Int32 → Int32 → Prop) (fun _ _ _ _ _ _ _ => False) (fun _ k => wb_X6_space_58 Q k) n
set_option maxHeartbeats 4000000 in
theorem wkl_X6_space_58 {p : Program} {l : Launch} {e : Env} {s : State} {m : MethodId} {args : Array Value} {below : List Frame} {meth : Method} {c : Code} {D : va_G} {cy : ClassId} {Ad : Nat → Nat} (C : Cx p s m args meth c RX6 cX6_space 6 (some FieldType.int) D [(cy, .int)]) (hap : apt 8 Ad) {Q : Int32 → Rg → Ar → Prop}  : ∀ (n : Nat) {σ : Rg} {μ : Ar} {v1 : Int32} {v2 : Int32} {v3 : Int32} {v4 : Int32} {v5 : Int32} {H : Heap} {locs : List Loc} {ls : Array Slot} (h : wl_X6_space_58 Q  n σ μ v1 v2 v3 v4 v5) (hP : va_P D vwCl (wM Ad cy σ μ) H) (hS : va_S (AS 8 Ad) s.heap H locs) (hl : lv_has ls 6 [(0, .ref (Ad 0)), (1, .int v1), (2, .int v2), (3, .int v3), (4, .int v4), (5, .int v5)]), W p l e rmX6_space s m args below meth c H locs 0 0 (MQ below (Qcg (PWi (wM Ad cy) D Q) (AS 8 Ad)) args s 0 0 (AS 8 Ad)) (F0 m 58 ls []) := by
  intro n
  induction n with
  | zero => intro σ μ v1 v2 v3 v4 v5 H locs ls h; exact h.elim
  | succ n ih =>
    intro σ μ v1 v2 v3 v4 v5 H locs ls h hP hS hl
    exact wk_X6_space_58 C hap (fun h hP hS hl => ih h hP hS hl) h hP hS hl
def wb_X6_space_49 (Q : Int32 → Rg → Ar → Prop) (σ : Rg) (μ : Ar) (t0 : Int32) : Prop := Q t0 σ μ
set_option maxHeartbeats 4000000 in
set_option maxRecDepth 100000 in
theorem wk_X6_space_49 {p : Program} {l : Launch} {e : Env} {s : State} {m : MethodId} {args : Array Value} {below : List Frame} {meth : Method} {c : Code} {D : va_G} {cy : ClassId} {Ad : Nat → Nat} (C : Cx p s m args meth c RX6 cX6_space 6 (some FieldType.int) D [(cy, .int)]) (hap : apt 8 Ad) {Q : Int32 → Rg → Ar → Prop} {σ : Rg} {μ : Ar} {t0 : Int32} {H : Heap} {locs : List Loc} {ls : Array Slot} (h : wb_X6_space_49 Q σ μ t0) (hP : va_P D vwCl (wM Ad cy σ μ) H) (hS : va_S (AS 8 Ad) s.heap H locs) (hl : lv_has ls 6 []) : W p l e rmX6_space s m args below meth c H locs 0 0 (MQ below (Qcg (PWi (wM Ad cy) D Q) (AS 8 Ad)) args s 0 0 (AS 8 Ad)) (F0 m 49 ls [.int t0]) := by
  have hx := C.1
  have hb := C.2.1
  exact endI C hS ⟨_, _, _, rfl, h, hP⟩ dX6_space_49
def wp_X6_space (σ : Rg) (μ : Ar) (x1 : Int32) (x2 : Int32) (Q : Int32 → Rg → Ar → Prop) : Prop := ∀ σ2 : Rg, σ2 = upd σ 0 (0 : Int32) → (wp_X6_isSector σ2 μ x1 (fun r7 σ7 μ7 => ((r7 = 0 → wb_X6_space_22 Q σ7 μ7) ∧ (¬ r7 = 0 → wp_X6_within x2 (0 : Int32) (3 : Int32) (fun r16 => ((¬ r16 = 0 → wp_X6_reads σ7 μ7 x1 (fun σ26 μ26 => (((2 : Int32) ≤ x2 → ∃ n, wl_X6_space_58 Q n σ26 μ26 x1 x2 (0 : Int32) (0 : Int32) (0 : Int32)) ∧ (¬ (2 : Int32) ≤ x2 → ((¬ x2 = 0 → wb_X6_space_49 Q σ26 μ26 (σ26 4)) ∧ (x2 = 0 → wb_X6_space_49 Q σ26 μ26 (σ26 3))))))) ∧ (r16 = 0 → wb_X6_space_22 Q σ7 μ7)))))))
set_option maxHeartbeats 4000000 in
set_option maxRecDepth 100000 in
theorem ct_X6_space (l : Launch) (D : va_G) (cy : ClassId) (Ad : Nat → Nat) (hap : apt 8 Ad) {σ : Rg} {μ : Ar} {x1 : Int32} {x2 : Int32} {Q : Int32 → Rg → Ar → Prop} (h : wp_X6_space σ μ x1 x2 Q) : Ct l yX6_space cX6_space 6 (some FieldType.int) rmX6_space D [(cy, .int)] (fun H => va_P D vwCl (wM Ad cy σ μ) H) [.ref (Ad 0), .int x1, .int x2] (AS 8 Ad) (PWi (wM Ad cy) D Q) := by
  refine Ct.of (by decide) (Nat.le_of_ble_eq_true rfl) ?_
  intro p e s m below meth c ls C hP hl
  have hl : lv_has ls 6 [(0, .ref (Ad 0)), (1, .int x1), (2, .int x2)] := hl
  have hS : va_S (AS 8 Ad) s.heap s.heap [] := va_S.rf
  have hx := C.1
  have hb := C.2.1
  refine lv_aload_n hx hb dX6_space_0 rfl (lv_at hl 0 rfl) ?_
  refine lv_iconst (v := 0) hx hb dX6_space_1 (by decide) ?_
  refine pM_model_thrown C hap (fun _ h => h) hP hS (C.2.2.2.2.2.2.1 _ wq_926) dX6_space_2 (fun H locs hP hS => ?_)
  obtain ⟨σ2, e2⟩ : ∃ z : Rg, z = upd σ 0 (0 : Int32) := ⟨_, rfl⟩
  have hP : va_P D vwCl (wM Ad cy σ2 μ) H := by rw [e2]; exact hP
  have h := h σ2 e2
  refine lv_aload_n hx hb dX6_space_5 rfl (lv_at hl 0 rfl) ?_
  refine lv_iload_n hx hb dX6_space_6 rfl (lv_at hl 1 rfl) ?_
  refine kWi (rnV C (ct_X6_isSector l D cy Ad hap h) yv_X6_isSector wq_1084 ⟨rfl, rfl⟩ ⟨Nat.le_of_ble_eq_true rfl, Nat.le_of_ble_eq_true rfl⟩ ⟨Nat.zero_le _, Nat.zero_le _⟩ (vM_model C hP) hP hl.1 rfl rfl (Nat.le_of_ble_eq_true rfl) dX6_space_7) hS (fun _ h => h) (fun r7 σ7 μ7 H locs h hP hk hS => ?_)
  refine lv_if_eq (tgt := 22) hx hb dX6_space_10 (by decide) (fun hc => ?_) (fun hc => ?_)
  · have h := h.1 hc
    exact wk_X6_space_22 C hap h hP hS (lv_sub hl [] rfl)
  · have h := h.2 hc
    refine lv_iload_n hx hb dX6_space_13 rfl (lv_at hl 2 rfl) ?_
    refine lv_iconst (v := 0) hx hb dX6_space_14 (by decide) ?_
    refine lv_iconst (v := 3) hx hb dX6_space_15 (by decide) ?_
    refine kNi (rnS (C.none) (ct_X6_within l D h) ys_X6_within wq_974 ⟨rfl, rfl⟩ ⟨Nat.le_of_ble_eq_true rfl, Nat.le_of_ble_eq_true rfl⟩ ⟨Nat.zero_le _, Nat.zero_le _⟩ trivial hl.1 rfl rfl (Nat.le_of_ble_eq_true rfl) dX6_space_16) hS (fun _ h => h.elim) (fun r16 H locs h hk hS => ?_)
    have hP := keepN hP hk
    refine lv_if_ne (tgt := 24) hx hb dX6_space_19 (by decide) (fun hc => ?_) (fun hc => ?_)
    · have h := h.1 hc
      refine lv_aload_n hx hb dX6_space_24 rfl (lv_at hl 0 rfl) ?_
      refine lv_iload_n hx hb dX6_space_25 rfl (lv_at hl 1 rfl) ?_
      refine kWv (rnV C (ct_X6_reads l D cy Ad hap h) yv_X6_reads wq_1036 ⟨rfl, rfl⟩ ⟨Nat.le_of_ble_eq_true rfl, Nat.le_of_ble_eq_true rfl⟩ ⟨Nat.zero_le _, Nat.zero_le _⟩ (vM_model C hP) hP hl.1 rfl rfl (Nat.le_of_ble_eq_true rfl) dX6_space_26) hS (fun _ h => h) (fun σ26 μ26 H locs h hP hk hS => ?_)
      refine lv_iload_n hx hb dX6_space_29 rfl (lv_at hl 2 rfl) ?_
      refine lv_iconst (v := 2) hx hb dX6_space_30 (by decide) ?_
      refine lv_icmp_ge (tgt := 50) hx hb dX6_space_31 (by decide) (fun hc => ?_) (fun hc => ?_)
      · have h := h.1 hc
        refine lv_iconst (v := 0) hx hb dX6_space_50 (by decide) ?_
        refine lv_istore_n (lv' := [(3, .int (0 : Int32)), (0, .ref (Ad 0)), (1, .int x1), (2, .int x2)]) hx hb dX6_space_51 rfl hl (by decide) rfl (fun ls hl => ?_)
        refine lv_iconst (v := 0) hx hb dX6_space_52 (by decide) ?_
        refine lv_istore (lv' := [(4, .int (0 : Int32)), (3, .int (0 : Int32)), (0, .ref (Ad 0)), (1, .int x1), (2, .int x2)]) hx hb dX6_space_53 hl (by decide) rfl (fun ls hl => ?_)
        refine lv_iconst (v := 0) hx hb dX6_space_55 (by decide) ?_
        refine lv_istore (lv' := [(5, .int (0 : Int32)), (4, .int (0 : Int32)), (3, .int (0 : Int32)), (0, .ref (Ad 0)), (1, .int x1), (2, .int x2)]) hx hb dX6_space_56 hl (by decide) rfl (fun ls hl => ?_)
        obtain ⟨n, h⟩ := h
        exact wkl_X6_space_58 C hap n h hP hS (lv_sub hl [3, 4, 5, 2, 1, 0] rfl)
      · have h := h.2 hc
        refine lv_iload_n hx hb dX6_space_34 rfl (lv_at hl 2 rfl) ?_
        refine lv_if_ne (tgt := 45) hx hb dX6_space_35 (by decide) (fun hc => ?_) (fun hc => ?_)
        · have h := h.1 hc
          refine lv_aload_n hx hb dX6_space_45 rfl (lv_at hl 0 rfl) ?_
          refine gM_model_lost C hP (C.2.2.2.2.2.2.1 _ wq_930) dX6_space_46 ?_
          exact wk_X6_space_49 C hap h hP hS (lv_sub hl [] rfl)
        · have h := h.2 hc
          refine lv_aload_n hx hb dX6_space_38 rfl (lv_at hl 0 rfl) ?_
          refine gM_model_free C hP (C.2.2.2.2.2.2.1 _ wq_929) dX6_space_39 ?_
          refine lv_goto (tgt := 49) hx hb dX6_space_42 (by decide) ?_
          exact wk_X6_space_49 C hap h hP hS (lv_sub hl [] rfl)
    · have h := h.2 hc
      exact wk_X6_space_22 C hap h hP hS (lv_sub hl [] rfl)
abbrev rmX6_until : Room := { frames := 4, cells := 0, slots := 0, locals := 92 }
def wb_X6_until_33 (Q : Int32 → Rg → Ar → Prop) (σ : Rg) (μ : Ar) (t0 : Int32) : Prop := Q t0 σ μ
set_option maxHeartbeats 4000000 in
set_option maxRecDepth 100000 in
theorem wk_X6_until_33 {p : Program} {l : Launch} {e : Env} {s : State} {m : MethodId} {args : Array Value} {below : List Frame} {meth : Method} {c : Code} {D : va_G} {cy : ClassId} {Ad : Nat → Nat} (C : Cx p s m args meth c RX6 cX6_until 2 (some FieldType.int) D [(cy, .int)]) (hap : apt 8 Ad) {Q : Int32 → Rg → Ar → Prop} {σ : Rg} {μ : Ar} {t0 : Int32} {H : Heap} {locs : List Loc} {ls : Array Slot} (h : wb_X6_until_33 Q σ μ t0) (hP : va_P D vwCl (wM Ad cy σ μ) H) (hS : va_S (AS 8 Ad) s.heap H locs) (hl : lv_has ls 2 []) : W p l e rmX6_until s m args below meth c H locs 0 0 (MQ below (Qcg (PWi (wM Ad cy) D Q) (AS 8 Ad)) args s 0 0 (AS 8 Ad)) (F0 m 33 ls [.int t0]) := by
  have hx := C.1
  have hb := C.2.1
  exact endI C hS ⟨_, _, _, rfl, h, hP⟩ dX6_until_33
def wb_X6_until_32 (Q : Int32 → Rg → Ar → Prop) (σ : Rg) (μ : Ar) : Prop := wb_X6_until_33 Q σ μ (-1 : Int32)
set_option maxHeartbeats 4000000 in
set_option maxRecDepth 100000 in
theorem wk_X6_until_32 {p : Program} {l : Launch} {e : Env} {s : State} {m : MethodId} {args : Array Value} {below : List Frame} {meth : Method} {c : Code} {D : va_G} {cy : ClassId} {Ad : Nat → Nat} (C : Cx p s m args meth c RX6 cX6_until 2 (some FieldType.int) D [(cy, .int)]) (hap : apt 8 Ad) {Q : Int32 → Rg → Ar → Prop} {σ : Rg} {μ : Ar}  {H : Heap} {locs : List Loc} {ls : Array Slot} (h : wb_X6_until_32 Q σ μ) (hP : va_P D vwCl (wM Ad cy σ μ) H) (hS : va_S (AS 8 Ad) s.heap H locs) (hl : lv_has ls 2 []) : W p l e rmX6_until s m args below meth c H locs 0 0 (MQ below (Qcg (PWi (wM Ad cy) D Q) (AS 8 Ad)) args s 0 0 (AS 8 Ad)) (F0 m 32 ls []) := by
  have hx := C.1
  have hb := C.2.1
  refine lv_iconst (v := -1) hx hb dX6_until_32 (by decide) ?_
  exact wk_X6_until_33 C hap h hP hS (lv_sub hl [] rfl)
def wp_X6_until (σ : Rg) (μ : Ar) (x1 : Int32) (Q : Int32 → Rg → Ar → Prop) : Prop := ∀ σ2 : Rg, σ2 = upd σ 0 (0 : Int32) → (wp_X6_isOn σ2 μ  (fun r6 σ6 μ6 => ((r6 = 0 → wb_X6_until_32 Q σ6 μ6) ∧ (¬ r6 = 0 → wp_X6_within x1 (1 : Int32) (4 : Int32) (fun r15 => ((r15 = 0 → wb_X6_until_32 Q σ6 μ6) ∧ (¬ r15 = 0 → wp_X6_freeNow σ6 μ6  (fun r22 σ22 μ22 => (¬ ((3 : Int32) + x1) = 0) ∧ (wb_X6_until_33 Q σ22 μ22 (r22 / ((3 : Int32) + x1)))))))))))
set_option maxHeartbeats 4000000 in
set_option maxRecDepth 100000 in
theorem ct_X6_until (l : Launch) (D : va_G) (cy : ClassId) (Ad : Nat → Nat) (hap : apt 8 Ad) {σ : Rg} {μ : Ar} {x1 : Int32} {Q : Int32 → Rg → Ar → Prop} (h : wp_X6_until σ μ x1 Q) : Ct l yX6_until cX6_until 2 (some FieldType.int) rmX6_until D [(cy, .int)] (fun H => va_P D vwCl (wM Ad cy σ μ) H) [.ref (Ad 0), .int x1] (AS 8 Ad) (PWi (wM Ad cy) D Q) := by
  refine Ct.of (by decide) (Nat.le_of_ble_eq_true rfl) ?_
  intro p e s m below meth c ls C hP hl
  have hl : lv_has ls 2 [(0, .ref (Ad 0)), (1, .int x1)] := hl
  have hS : va_S (AS 8 Ad) s.heap s.heap [] := va_S.rf
  have hx := C.1
  have hb := C.2.1
  refine lv_aload_n hx hb dX6_until_0 rfl (lv_at hl 0 rfl) ?_
  refine lv_iconst (v := 0) hx hb dX6_until_1 (by decide) ?_
  refine pM_model_thrown C hap (fun _ h => h) hP hS (C.2.2.2.2.2.2.1 _ wq_926) dX6_until_2 (fun H locs hP hS => ?_)
  obtain ⟨σ2, e2⟩ : ∃ z : Rg, z = upd σ 0 (0 : Int32) := ⟨_, rfl⟩
  have hP : va_P D vwCl (wM Ad cy σ2 μ) H := by rw [e2]; exact hP
  have h := h σ2 e2
  refine lv_aload_n hx hb dX6_until_5 rfl (lv_at hl 0 rfl) ?_
  refine kWi (rnV C (ct_X6_isOn l D cy Ad hap h) yv_X6_isOn wq_981 ⟨rfl, rfl⟩ ⟨Nat.le_of_ble_eq_true rfl, Nat.le_of_ble_eq_true rfl⟩ ⟨Nat.zero_le _, Nat.zero_le _⟩ (vM_model C hP) hP hl.1 rfl rfl (Nat.le_of_ble_eq_true rfl) dX6_until_6) hS (fun _ h => h) (fun r6 σ6 μ6 H locs h hP hk hS => ?_)
  refine lv_if_eq (tgt := 32) hx hb dX6_until_9 (by decide) (fun hc => ?_) (fun hc => ?_)
  · have h := h.1 hc
    exact wk_X6_until_32 C hap h hP hS (lv_sub hl [] rfl)
  · have h := h.2 hc
    refine lv_iload_n hx hb dX6_until_12 rfl (lv_at hl 1 rfl) ?_
    refine lv_iconst (v := 1) hx hb dX6_until_13 (by decide) ?_
    refine lv_iconst (v := 4) hx hb dX6_until_14 (by decide) ?_
    refine kNi (rnS (C.none) (ct_X6_within l D h) ys_X6_within wq_974 ⟨rfl, rfl⟩ ⟨Nat.le_of_ble_eq_true rfl, Nat.le_of_ble_eq_true rfl⟩ ⟨Nat.zero_le _, Nat.zero_le _⟩ trivial hl.1 rfl rfl (Nat.le_of_ble_eq_true rfl) dX6_until_15) hS (fun _ h => h.elim) (fun r15 H locs h hk hS => ?_)
    have hP := keepN hP hk
    refine lv_if_eq (tgt := 32) hx hb dX6_until_18 (by decide) (fun hc => ?_) (fun hc => ?_)
    · have h := h.1 hc
      exact wk_X6_until_32 C hap h hP hS (lv_sub hl [] rfl)
    · have h := h.2 hc
      refine lv_aload_n hx hb dX6_until_21 rfl (lv_at hl 0 rfl) ?_
      refine kWi (rnV C (ct_X6_freeNow l D cy Ad hap h) yv_X6_freeNow wq_1112 ⟨rfl, rfl⟩ ⟨Nat.le_of_ble_eq_true rfl, Nat.le_of_ble_eq_true rfl⟩ ⟨Nat.zero_le _, Nat.zero_le _⟩ (vM_model C hP) hP hl.1 rfl rfl (Nat.le_of_ble_eq_true rfl) dX6_until_22) hS (fun _ h => h) (fun r22 σ22 μ22 H locs h hP hk hS => ?_)
      refine lv_iconst (v := 3) hx hb dX6_until_25 (by decide) ?_
      refine lv_iload_n hx hb dX6_until_26 rfl (lv_at hl 1 rfl) ?_
      refine lv_iadd hx hb dX6_until_27 ?_
      obtain ⟨hc, h⟩ := h
      refine lv_idiv hx hb dX6_until_28 hc ?_
      refine lv_goto (tgt := 33) hx hb dX6_until_29 (by decide) ?_
      exact wk_X6_until_33 C hap h hP hS (lv_sub hl [] rfl)
abbrev rmX6_after : Room := { frames := 5, cells := 0, slots := 0, locals := 109 }
def wb_X6_after_20 (Q : Int32 → Rg → Ar → Prop) (σ : Rg) (μ : Ar) (t0 : Int32) : Prop := Q t0 σ μ
set_option maxHeartbeats 4000000 in
set_option maxRecDepth 100000 in
theorem wk_X6_after_20 {p : Program} {l : Launch} {e : Env} {s : State} {m : MethodId} {args : Array Value} {below : List Frame} {meth : Method} {c : Code} {D : va_G} {cy : ClassId} {Ad : Nat → Nat} (C : Cx p s m args meth c RX6 cX6_after 1 (some FieldType.int) D [(cy, .int)]) (hap : apt 8 Ad) {Q : Int32 → Rg → Ar → Prop} {σ : Rg} {μ : Ar} {t0 : Int32} {H : Heap} {locs : List Loc} {ls : Array Slot} (h : wb_X6_after_20 Q σ μ t0) (hP : va_P D vwCl (wM Ad cy σ μ) H) (hS : va_S (AS 8 Ad) s.heap H locs) (hl : lv_has ls 1 []) : W p l e rmX6_after s m args below meth c H locs 0 0 (MQ below (Qcg (PWi (wM Ad cy) D Q) (AS 8 Ad)) args s 0 0 (AS 8 Ad)) (F0 m 20 ls [.int t0]) := by
  have hx := C.1
  have hb := C.2.1
  exact endI C hS ⟨_, _, _, rfl, h, hP⟩ dX6_after_20
def wp_X6_after (σ : Rg) (μ : Ar) (Q : Int32 → Rg → Ar → Prop) : Prop := ∀ σ2 : Rg, σ2 = upd σ 0 (0 : Int32) → (wp_X6_isOn σ2 μ  (fun r6 σ6 μ6 => ((r6 = 0 → wb_X6_after_20 Q σ6 μ6 (-1 : Int32)) ∧ (¬ r6 = 0 → wp_X6_freeThen σ6 μ6  (fun r13 σ13 μ13 => wb_X6_after_20 Q σ13 μ13 r13)))))
set_option maxHeartbeats 4000000 in
set_option maxRecDepth 100000 in
theorem ct_X6_after (l : Launch) (D : va_G) (cy : ClassId) (Ad : Nat → Nat) (hap : apt 8 Ad) {σ : Rg} {μ : Ar}  {Q : Int32 → Rg → Ar → Prop} (h : wp_X6_after σ μ  Q) : Ct l yX6_after cX6_after 1 (some FieldType.int) rmX6_after D [(cy, .int)] (fun H => va_P D vwCl (wM Ad cy σ μ) H) [.ref (Ad 0)] (AS 8 Ad) (PWi (wM Ad cy) D Q) := by
  refine Ct.of (by decide) (Nat.le_of_ble_eq_true rfl) ?_
  intro p e s m below meth c ls C hP hl
  have hl : lv_has ls 1 [(0, .ref (Ad 0))] := hl
  have hS : va_S (AS 8 Ad) s.heap s.heap [] := va_S.rf
  have hx := C.1
  have hb := C.2.1
  refine lv_aload_n hx hb dX6_after_0 rfl (lv_at hl 0 rfl) ?_
  refine lv_iconst (v := 0) hx hb dX6_after_1 (by decide) ?_
  refine pM_model_thrown C hap (fun _ h => h) hP hS (C.2.2.2.2.2.2.1 _ wq_926) dX6_after_2 (fun H locs hP hS => ?_)
  obtain ⟨σ2, e2⟩ : ∃ z : Rg, z = upd σ 0 (0 : Int32) := ⟨_, rfl⟩
  have hP : va_P D vwCl (wM Ad cy σ2 μ) H := by rw [e2]; exact hP
  have h := h σ2 e2
  refine lv_aload_n hx hb dX6_after_5 rfl (lv_at hl 0 rfl) ?_
  refine kWi (rnV C (ct_X6_isOn l D cy Ad hap h) yv_X6_isOn wq_981 ⟨rfl, rfl⟩ ⟨Nat.le_of_ble_eq_true rfl, Nat.le_of_ble_eq_true rfl⟩ ⟨Nat.zero_le _, Nat.zero_le _⟩ (vM_model C hP) hP hl.1 rfl rfl (Nat.le_of_ble_eq_true rfl) dX6_after_6) hS (fun _ h => h) (fun r6 σ6 μ6 H locs h hP hk hS => ?_)
  refine lv_if_eq (tgt := 19) hx hb dX6_after_9 (by decide) (fun hc => ?_) (fun hc => ?_)
  · have h := h.1 hc
    refine lv_iconst (v := -1) hx hb dX6_after_19 (by decide) ?_
    exact wk_X6_after_20 C hap h hP hS (lv_sub hl [] rfl)
  · have h := h.2 hc
    refine lv_aload_n hx hb dX6_after_12 rfl (lv_at hl 0 rfl) ?_
    refine kWi (rnV C (ct_X6_freeThen l D cy Ad hap h) yv_X6_freeThen wq_1116 ⟨rfl, rfl⟩ ⟨Nat.le_of_ble_eq_true rfl, Nat.le_of_ble_eq_true rfl⟩ ⟨Nat.zero_le _, Nat.zero_le _⟩ (vM_model C hP) hP hl.1 rfl rfl (Nat.le_of_ble_eq_true rfl) dX6_after_13) hS (fun _ h => h) (fun r13 σ13 μ13 H locs h hP hk hS => ?_)
    refine lv_goto (tgt := 20) hx hb dX6_after_16 (by decide) ?_
    exact wk_X6_after_20 C hap h hP hS (lv_sub hl [] rfl)
abbrev rmX6_wouldCost : Room := { frames := 8, cells := 0, slots := 0, locals := 179 }
def wp_X6_wouldCost (σ : Rg) (μ : Ar) (x1 : Int32) (Q : Int32 → Rg → Ar → Prop) : Prop := wp_X6_putsAside σ μ  (fun σ1 μ1 => ∀ μ10 : Ar, μ10 = updA μ1 0 (upd (μ1 0) 4 (0 : Int32)) → (wp_X6_sets σ1 μ10 (0 : Int32) (0 : Int32) x1 (fun r15 σ15 μ15 => wp_X6_putsBack σ15 μ15  (fun σ20 μ20 => Q r15 σ20 μ20))))
set_option maxHeartbeats 4000000 in
set_option maxRecDepth 100000 in
theorem ct_X6_wouldCost (l : Launch) (D : va_G) (cy : ClassId) (Ad : Nat → Nat) (hap : apt 8 Ad) {σ : Rg} {μ : Ar} {x1 : Int32} {Q : Int32 → Rg → Ar → Prop} (h : wp_X6_wouldCost σ μ x1 Q) : Ct l yX6_wouldCost cX6_wouldCost 3 (some FieldType.int) rmX6_wouldCost D [(cy, .int)] (fun H => va_P D vwCl (wM Ad cy σ μ) H) [.ref (Ad 0), .int x1] (AS 8 Ad) (PWi (wM Ad cy) D Q) := by
  refine Ct.of (by decide) (Nat.le_of_ble_eq_true rfl) ?_
  intro p e s m below meth c ls C hP hl
  have hl : lv_has ls 3 [(0, .ref (Ad 0)), (1, .int x1)] := hl
  have hS : va_S (AS 8 Ad) s.heap s.heap [] := va_S.rf
  have hx := C.1
  have hb := C.2.1
  refine lv_aload_n hx hb dX6_wouldCost_0 rfl (lv_at hl 0 rfl) ?_
  refine kWv (rnV C (ct_X6_putsAside l D cy Ad hap h) yv_X6_putsAside wq_1249 ⟨rfl, rfl⟩ ⟨Nat.le_of_ble_eq_true rfl, Nat.le_of_ble_eq_true rfl⟩ ⟨Nat.zero_le _, Nat.zero_le _⟩ (vM_model C hP) hP hl.1 rfl rfl (Nat.le_of_ble_eq_true rfl) dX6_wouldCost_1) hS (fun _ h => h) (fun σ1 μ1 H locs h hP hk hS => ?_)
  refine lv_aload_n hx hb dX6_wouldCost_4 rfl (lv_at hl 0 rfl) ?_
  refine gM_model_x C hP (C.2.2.2.2.2.2.1 _ wq_924) dX6_wouldCost_5 ?_
  refine lv_iconst (v := 4) hx hb dX6_wouldCost_8 (by decide) ?_
  refine lv_iconst (v := 0) hx hb dX6_wouldCost_9 (by decide) ?_
  refine scM_0 C hap (fun _ h => h) hP hS tc_4 vi_4_810 dX6_wouldCost_10 (fun H locs hP hS => ?_)
  obtain ⟨μ10, e10⟩ : ∃ z : Ar, z = updA μ1 0 (upd (μ1 0) 4 (0 : Int32)) := ⟨_, rfl⟩
  have hP : va_P D vwCl (wM Ad cy σ1 μ10) H := by rw [e10]; exact hP
  have h := h μ10 e10
  refine lv_aload_n hx hb dX6_wouldCost_11 rfl (lv_at hl 0 rfl) ?_
  refine lv_iconst (v := 0) hx hb dX6_wouldCost_12 (by decide) ?_
  refine lv_iconst (v := 0) hx hb dX6_wouldCost_13 (by decide) ?_
  refine lv_iload_n hx hb dX6_wouldCost_14 rfl (lv_at hl 1 rfl) ?_
  refine kWi (rnV C (ct_X6_sets l D cy Ad hap h) yv_X6_sets wq_1096 ⟨rfl, rfl⟩ ⟨Nat.le_of_ble_eq_true rfl, Nat.le_of_ble_eq_true rfl⟩ ⟨Nat.zero_le _, Nat.zero_le _⟩ (vM_model C hP) hP hl.1 rfl rfl (Nat.le_of_ble_eq_true rfl) dX6_wouldCost_15) hS (fun _ h => h) (fun r15 σ15 μ15 H locs h hP hk hS => ?_)
  refine lv_istore_n (lv' := [(2, .int r15), (0, .ref (Ad 0)), (1, .int x1)]) hx hb dX6_wouldCost_18 rfl hl (by decide) rfl (fun ls hl => ?_)
  refine lv_aload_n hx hb dX6_wouldCost_19 rfl (lv_at hl 1 rfl) ?_
  refine kWv (rnV C (ct_X6_putsBack l D cy Ad hap h) yv_X6_putsBack wq_1253 ⟨rfl, rfl⟩ ⟨Nat.le_of_ble_eq_true rfl, Nat.le_of_ble_eq_true rfl⟩ ⟨Nat.zero_le _, Nat.zero_le _⟩ (vM_model C hP) hP hl.1 rfl rfl (Nat.le_of_ble_eq_true rfl) dX6_wouldCost_20) hS (fun _ h => h) (fun σ20 μ20 H locs h hP hk hS => ?_)
  refine lv_iload_n hx hb dX6_wouldCost_23 rfl (lv_at hl 0 rfl) ?_
  exact endI C hS ⟨_, _, _, rfl, h, hP⟩ dX6_wouldCost_24
abbrev rmX6_costs : Room := { frames := 9, cells := 0, slots := 0, locals := 201 }
def wb_X6_costs_40 (Q : Int32 → Rg → Ar → Prop) (σ : Rg) (μ : Ar) (t0 : Int32) : Prop := Q t0 σ μ
set_option maxHeartbeats 4000000 in
set_option maxRecDepth 100000 in
theorem wk_X6_costs_40 {p : Program} {l : Launch} {e : Env} {s : State} {m : MethodId} {args : Array Value} {below : List Frame} {meth : Method} {c : Code} {D : va_G} {cy : ClassId} {Ad : Nat → Nat} (C : Cx p s m args meth c RX6 cX6_costs 2 (some FieldType.int) D [(cy, .int)]) (hap : apt 8 Ad) {Q : Int32 → Rg → Ar → Prop} {σ : Rg} {μ : Ar} {t0 : Int32} {H : Heap} {locs : List Loc} {ls : Array Slot} (h : wb_X6_costs_40 Q σ μ t0) (hP : va_P D vwCl (wM Ad cy σ μ) H) (hS : va_S (AS 8 Ad) s.heap H locs) (hl : lv_has ls 2 []) : W p l e rmX6_costs s m args below meth c H locs 0 0 (MQ below (Qcg (PWi (wM Ad cy) D Q) (AS 8 Ad)) args s 0 0 (AS 8 Ad)) (F0 m 40 ls [.int t0]) := by
  have hx := C.1
  have hb := C.2.1
  exact endI C hS ⟨_, _, _, rfl, h, hP⟩ dX6_costs_40
def wb_X6_costs_39 (Q : Int32 → Rg → Ar → Prop) (σ : Rg) (μ : Ar) : Prop := wb_X6_costs_40 Q σ μ (-1 : Int32)
set_option maxHeartbeats 4000000 in
set_option maxRecDepth 100000 in
theorem wk_X6_costs_39 {p : Program} {l : Launch} {e : Env} {s : State} {m : MethodId} {args : Array Value} {below : List Frame} {meth : Method} {c : Code} {D : va_G} {cy : ClassId} {Ad : Nat → Nat} (C : Cx p s m args meth c RX6 cX6_costs 2 (some FieldType.int) D [(cy, .int)]) (hap : apt 8 Ad) {Q : Int32 → Rg → Ar → Prop} {σ : Rg} {μ : Ar}  {H : Heap} {locs : List Loc} {ls : Array Slot} (h : wb_X6_costs_39 Q σ μ) (hP : va_P D vwCl (wM Ad cy σ μ) H) (hS : va_S (AS 8 Ad) s.heap H locs) (hl : lv_has ls 2 []) : W p l e rmX6_costs s m args below meth c H locs 0 0 (MQ below (Qcg (PWi (wM Ad cy) D Q) (AS 8 Ad)) args s 0 0 (AS 8 Ad)) (F0 m 39 ls []) := by
  have hx := C.1
  have hb := C.2.1
  refine lv_iconst (v := -1) hx hb dX6_costs_39 (by decide) ?_
  exact wk_X6_costs_40 C hap h hP hS (lv_sub hl [] rfl)
def wp_X6_costs (σ : Rg) (μ : Ar) (x1 : Int32) (Q : Int32 → Rg → Ar → Prop) : Prop := ∀ σ2 : Rg, σ2 = upd σ 0 (0 : Int32) → (wp_X6_isOn σ2 μ  (fun r6 σ6 μ6 => ((r6 = 0 → wb_X6_costs_39 Q σ6 μ6) ∧ (¬ r6 = 0 → ((¬ (μ6 0 10) = 0 → wb_X6_costs_39 Q σ6 μ6) ∧ ((μ6 0 10) = 0 → wp_X6_within x1 (1 : Int32) (4 : Int32) (fun r25 => ((r25 = 0 → wb_X6_costs_39 Q σ6 μ6) ∧ (¬ r25 = 0 → wp_X6_wouldCost σ6 μ6 x1 (fun r33 σ33 μ33 => wb_X6_costs_40 Q σ33 μ33 r33))))))))))
set_option maxHeartbeats 4000000 in
set_option maxRecDepth 100000 in
theorem ct_X6_costs (l : Launch) (D : va_G) (cy : ClassId) (Ad : Nat → Nat) (hap : apt 8 Ad) {σ : Rg} {μ : Ar} {x1 : Int32} {Q : Int32 → Rg → Ar → Prop} (h : wp_X6_costs σ μ x1 Q) : Ct l yX6_costs cX6_costs 2 (some FieldType.int) rmX6_costs D [(cy, .int)] (fun H => va_P D vwCl (wM Ad cy σ μ) H) [.ref (Ad 0), .int x1] (AS 8 Ad) (PWi (wM Ad cy) D Q) := by
  refine Ct.of (by decide) (Nat.le_of_ble_eq_true rfl) ?_
  intro p e s m below meth c ls C hP hl
  have hl : lv_has ls 2 [(0, .ref (Ad 0)), (1, .int x1)] := hl
  have hS : va_S (AS 8 Ad) s.heap s.heap [] := va_S.rf
  have hx := C.1
  have hb := C.2.1
  refine lv_aload_n hx hb dX6_costs_0 rfl (lv_at hl 0 rfl) ?_
  refine lv_iconst (v := 0) hx hb dX6_costs_1 (by decide) ?_
  refine pM_model_thrown C hap (fun _ h => h) hP hS (C.2.2.2.2.2.2.1 _ wq_926) dX6_costs_2 (fun H locs hP hS => ?_)
  obtain ⟨σ2, e2⟩ : ∃ z : Rg, z = upd σ 0 (0 : Int32) := ⟨_, rfl⟩
  have hP : va_P D vwCl (wM Ad cy σ2 μ) H := by rw [e2]; exact hP
  have h := h σ2 e2
  refine lv_aload_n hx hb dX6_costs_5 rfl (lv_at hl 0 rfl) ?_
  refine kWi (rnV C (ct_X6_isOn l D cy Ad hap h) yv_X6_isOn wq_981 ⟨rfl, rfl⟩ ⟨Nat.le_of_ble_eq_true rfl, Nat.le_of_ble_eq_true rfl⟩ ⟨Nat.zero_le _, Nat.zero_le _⟩ (vM_model C hP) hP hl.1 rfl rfl (Nat.le_of_ble_eq_true rfl) dX6_costs_6) hS (fun _ h => h) (fun r6 σ6 μ6 H locs h hP hk hS => ?_)
  refine lv_if_eq (tgt := 39) hx hb dX6_costs_9 (by decide) (fun hc => ?_) (fun hc => ?_)
  · have h := h.1 hc
    exact wk_X6_costs_39 C hap h hP hS (lv_sub hl [] rfl)
  · have h := h.2 hc
    refine lv_aload_n hx hb dX6_costs_12 rfl (lv_at hl 0 rfl) ?_
    refine gM_model_x C hP (C.2.2.2.2.2.2.1 _ wq_924) dX6_costs_13 ?_
    refine lv_bipush (v := 10) hx hb dX6_costs_16 (by decide) ?_
    refine lcM_0 C hP tc_10 vi_10_810 dX6_costs_18 ?_
    refine lv_if_ne (tgt := 39) hx hb dX6_costs_19 (by decide) (fun hc => ?_) (fun hc => ?_)
    · have h := h.1 hc
      exact wk_X6_costs_39 C hap h hP hS (lv_sub hl [] rfl)
    · have h := h.2 hc
      refine lv_iload_n hx hb dX6_costs_22 rfl (lv_at hl 1 rfl) ?_
      refine lv_iconst (v := 1) hx hb dX6_costs_23 (by decide) ?_
      refine lv_iconst (v := 4) hx hb dX6_costs_24 (by decide) ?_
      refine kNi (rnS (C.none) (ct_X6_within l D h) ys_X6_within wq_974 ⟨rfl, rfl⟩ ⟨Nat.le_of_ble_eq_true rfl, Nat.le_of_ble_eq_true rfl⟩ ⟨Nat.zero_le _, Nat.zero_le _⟩ trivial hl.1 rfl rfl (Nat.le_of_ble_eq_true rfl) dX6_costs_25) hS (fun _ h => h.elim) (fun r25 H locs h hk hS => ?_)
      have hP := keepN hP hk
      refine lv_if_eq (tgt := 39) hx hb dX6_costs_28 (by decide) (fun hc => ?_) (fun hc => ?_)
      · have h := h.1 hc
        exact wk_X6_costs_39 C hap h hP hS (lv_sub hl [] rfl)
      · have h := h.2 hc
        refine lv_aload_n hx hb dX6_costs_31 rfl (lv_at hl 0 rfl) ?_
        refine lv_iload_n hx hb dX6_costs_32 rfl (lv_at hl 1 rfl) ?_
        refine kWi (rnV C (ct_X6_wouldCost l D cy Ad hap h) yv_X6_wouldCost wq_1245 ⟨rfl, rfl⟩ ⟨Nat.le_of_ble_eq_true rfl, Nat.le_of_ble_eq_true rfl⟩ ⟨Nat.zero_le _, Nat.zero_le _⟩ (vM_model C hP) hP hl.1 rfl rfl (Nat.le_of_ble_eq_true rfl) dX6_costs_33) hS (fun _ h => h) (fun r33 σ33 μ33 H locs h hP hk hS => ?_)
        refine lv_goto (tgt := 40) hx hb dX6_costs_36 (by decide) ?_
        exact wk_X6_costs_40 C hap h hP hS (lv_sub hl [] rfl)
abbrev rmX6_torn : Room := { frames := 9, cells := 0, slots := 0, locals := 201 }
def wb_X6_torn_47 (Q : Int64 → Rg → Ar → Prop) (σ : Rg) (μ : Ar) : Prop := Q (-1 : Int64) σ μ
set_option maxHeartbeats 4000000 in
set_option maxRecDepth 100000 in
theorem wk_X6_torn_47 {p : Program} {l : Launch} {e : Env} {s : State} {m : MethodId} {args : Array Value} {below : List Frame} {meth : Method} {c : Code} {D : va_G} {cy : ClassId} {Ad : Nat → Nat} (C : Cx p s m args meth c RX6 cX6_torn 11 (some FieldType.long) D [(cy, .int)]) (hap : apt 8 Ad) {Q : Int64 → Rg → Ar → Prop} {σ : Rg} {μ : Ar}  {H : Heap} {locs : List Loc} {ls : Array Slot} (h : wb_X6_torn_47 Q σ μ) (hP : va_P D vwCl (wM Ad cy σ μ) H) (hS : va_S (AS 8 Ad) s.heap H locs) (hl : lv_has ls 11 []) : W p l e rmX6_torn s m args below meth c H locs 0 0 (MQ below (Qcg (PWl (wM Ad cy) D Q) (AS 8 Ad)) args s 0 0 (AS 8 Ad)) (F0 m 47 ls []) := by
  have hx := C.1
  have hb := C.2.1
  refine lv_ldc2 hx hb C.2.2.2.1 (C.2.2.2.2.2.2.1 _ wq_1208) dX6_torn_47 ?_
  exact endL C hS ⟨_, _, _, rfl, h, hP⟩ dX6_torn_50
def wb_X6_torn_67 (Q : Int64 → Rg → Ar → Prop) (σ : Rg) (μ : Ar) : Prop := Q (-1 : Int64) σ μ
set_option maxHeartbeats 4000000 in
set_option maxRecDepth 100000 in
theorem wk_X6_torn_67 {p : Program} {l : Launch} {e : Env} {s : State} {m : MethodId} {args : Array Value} {below : List Frame} {meth : Method} {c : Code} {D : va_G} {cy : ClassId} {Ad : Nat → Nat} (C : Cx p s m args meth c RX6 cX6_torn 11 (some FieldType.long) D [(cy, .int)]) (hap : apt 8 Ad) {Q : Int64 → Rg → Ar → Prop} {σ : Rg} {μ : Ar}  {H : Heap} {locs : List Loc} {ls : Array Slot} (h : wb_X6_torn_67 Q σ μ) (hP : va_P D vwCl (wM Ad cy σ μ) H) (hS : va_S (AS 8 Ad) s.heap H locs) (hl : lv_has ls 11 []) : W p l e rmX6_torn s m args below meth c H locs 0 0 (MQ below (Qcg (PWl (wM Ad cy) D Q) (AS 8 Ad)) args s 0 0 (AS 8 Ad)) (F0 m 67 ls []) := by
  have hx := C.1
  have hb := C.2.1
  refine lv_ldc2 hx hb C.2.2.2.1 (C.2.2.2.2.2.2.1 _ wq_1208) dX6_torn_67 ?_
  exact endL C hS ⟨_, _, _, rfl, h, hP⟩ dX6_torn_70
def wb_X6_torn_178 (Q : Int64 → Rg → Ar → Prop) (σ : Rg) (μ : Ar) (v9 : Int64) : Prop := wp_X6_putsBack σ μ  (fun σ179 μ179 => Q v9 σ179 μ179)
set_option maxHeartbeats 4000000 in
set_option maxRecDepth 100000 in
theorem wk_X6_torn_178 {p : Program} {l : Launch} {e : Env} {s : State} {m : MethodId} {args : Array Value} {below : List Frame} {meth : Method} {c : Code} {D : va_G} {cy : ClassId} {Ad : Nat → Nat} (C : Cx p s m args meth c RX6 cX6_torn 11 (some FieldType.long) D [(cy, .int)]) (hap : apt 8 Ad) {Q : Int64 → Rg → Ar → Prop} {σ : Rg} {μ : Ar} {v9 : Int64} {H : Heap} {locs : List Loc} {ls : Array Slot} (h : wb_X6_torn_178 Q σ μ v9) (hP : va_P D vwCl (wM Ad cy σ μ) H) (hS : va_S (AS 8 Ad) s.heap H locs) (hl : lv_has ls 11 [(0, .ref (Ad 0)), (9, .long v9)]) : W p l e rmX6_torn s m args below meth c H locs 0 0 (MQ below (Qcg (PWl (wM Ad cy) D Q) (AS 8 Ad)) args s 0 0 (AS 8 Ad)) (F0 m 178 ls []) := by
  have hx := C.1
  have hb := C.2.1
  refine lv_aload_n hx hb dX6_torn_178 rfl (lv_at hl 0 rfl) ?_
  refine kWv (rnV C (ct_X6_putsBack l D cy Ad hap h) yv_X6_putsBack wq_1253 ⟨rfl, rfl⟩ ⟨Nat.le_of_ble_eq_true rfl, Nat.le_of_ble_eq_true rfl⟩ ⟨Nat.zero_le _, Nat.zero_le _⟩ (vM_model C hP) hP hl.1 rfl rfl (Nat.le_of_ble_eq_true rfl) dX6_torn_179) hS (fun _ h => h) (fun σ179 μ179 H locs h hP hk hS => ?_)
  refine lv_lload hx hb dX6_torn_182 (lv_at hl 1 rfl) ?_
  exact endL C hS ⟨_, _, _, rfl, h, hP⟩ dX6_torn_184
def wb_X6_torn_147 (Q : Int64 → Rg → Ar → Prop) (σ : Rg) (μ : Ar) (v6 : Int32) (t0 : Int64) : Prop := ((¬ v6 = (3 : Int32) → wb_X6_torn_178 Q σ μ t0) ∧ (v6 = (3 : Int32) → wp_X6_reads σ μ (μ 0 3) (fun σ162 μ162 => wp_X6_valued σ162 μ162 (μ162 0 3) (fun r172 σ172 μ172 => ∀ y176 : Int64, y176 = (r172).toInt64 → (wb_X6_torn_178 Q σ172 μ172 y176)))))
set_option maxHeartbeats 4000000 in
set_option maxRecDepth 100000 in
theorem wk_X6_torn_147 {p : Program} {l : Launch} {e : Env} {s : State} {m : MethodId} {args : Array Value} {below : List Frame} {meth : Method} {c : Code} {D : va_G} {cy : ClassId} {Ad : Nat → Nat} (C : Cx p s m args meth c RX6 cX6_torn 11 (some FieldType.long) D [(cy, .int)]) (hap : apt 8 Ad) {Q : Int64 → Rg → Ar → Prop} {σ : Rg} {μ : Ar} {v6 : Int32} {t0 : Int64} {H : Heap} {locs : List Loc} {ls : Array Slot} (h : wb_X6_torn_147 Q σ μ v6 t0) (hP : va_P D vwCl (wM Ad cy σ μ) H) (hS : va_S (AS 8 Ad) s.heap H locs) (hl : lv_has ls 11 [(0, .ref (Ad 0)), (6, .int v6)]) : W p l e rmX6_torn s m args below meth c H locs 0 0 (MQ below (Qcg (PWl (wM Ad cy) D Q) (AS 8 Ad)) args s 0 0 (AS 8 Ad)) (F0 m 147 ls [.long t0]) := by
  have hx := C.1
  have hb := C.2.1
  refine lv_lstore (lv' := [(9, .long t0), (0, .ref (Ad 0)), (6, .int v6)]) hx hb dX6_torn_147 hl (by decide) rfl (fun ls hl => ?_)
  refine lv_iload hx hb dX6_torn_149 (lv_at hl 2 rfl) ?_
  refine lv_iconst (v := 3) hx hb dX6_torn_151 (by decide) ?_
  refine lv_icmp_ne (tgt := 178) hx hb dX6_torn_152 (by decide) (fun hc => ?_) (fun hc => ?_)
  · have h := h.1 hc
    exact wk_X6_torn_178 C hap h hP hS (lv_sub hl [1, 0] rfl)
  · have h := h.2 hc
    refine lv_aload_n hx hb dX6_torn_155 rfl (lv_at hl 1 rfl) ?_
    refine lv_aload_n hx hb dX6_torn_156 rfl (lv_at hl 1 rfl) ?_
    refine gM_model_x C hP (C.2.2.2.2.2.2.1 _ wq_924) dX6_torn_157 ?_
    refine lv_iconst (v := 3) hx hb dX6_torn_160 (by decide) ?_
    refine lcM_0 C hP tc_3 vi_3_810 dX6_torn_161 ?_
    refine kWv (rnV C (ct_X6_reads l D cy Ad hap h) yv_X6_reads wq_1036 ⟨rfl, rfl⟩ ⟨Nat.le_of_ble_eq_true rfl, Nat.le_of_ble_eq_true rfl⟩ ⟨Nat.zero_le _, Nat.zero_le _⟩ (vM_model C hP) hP hl.1 rfl rfl (Nat.le_of_ble_eq_true rfl) dX6_torn_162) hS (fun _ h => h) (fun σ162 μ162 H locs h hP hk hS => ?_)
    refine lv_aload_n hx hb dX6_torn_165 rfl (lv_at hl 1 rfl) ?_
    refine lv_aload_n hx hb dX6_torn_166 rfl (lv_at hl 1 rfl) ?_
    refine gM_model_x C hP (C.2.2.2.2.2.2.1 _ wq_924) dX6_torn_167 ?_
    refine lv_iconst (v := 3) hx hb dX6_torn_170 (by decide) ?_
    refine lcM_0 C hP tc_3 vi_3_810 dX6_torn_171 ?_
    refine kWi (rnV C (ct_X6_valued l D cy Ad hap h) yv_X6_valued wq_1060 ⟨rfl, rfl⟩ ⟨Nat.le_of_ble_eq_true rfl, Nat.le_of_ble_eq_true rfl⟩ ⟨Nat.zero_le _, Nat.zero_le _⟩ (vM_model C hP) hP hl.1 rfl rfl (Nat.le_of_ble_eq_true rfl) dX6_torn_172) hS (fun _ h => h) (fun r172 σ172 μ172 H locs h hP hk hS => ?_)
    refine lv_i2l hx hb dX6_torn_175 rfl ?_
    refine lv_topl (fun y176 e176 => ?_)
    have h := h y176 e176
    refine lv_lstore (lv' := [(9, .long y176), (0, .ref (Ad 0)), (6, .int v6)]) hx hb dX6_torn_176 hl (by decide) rfl (fun ls hl => ?_)
    exact wk_X6_torn_178 C hap h hP hS (lv_sub hl [1, 0] rfl)
def wp_X6_torn (σ : Rg) (μ : Ar) (x1 : Int32) (x2 : Int32) (x3 : Int32) (x4 : Int32) (x5 : Int32) (x6 : Int32) (Q : Int64 → Rg → Ar → Prop) : Prop := ∀ σ2 : Rg, σ2 = upd σ 0 (0 : Int32) → (wp_X6_isSetting σ2 μ x1 x3 (fun r8 σ8 μ8 => ((r8 = 0 → wb_X6_torn_47 Q σ8 μ8) ∧ (¬ r8 = 0 → (((μ8 0 10) = (1 : Int32) → wb_X6_torn_47 Q σ8 μ8) ∧ (¬ (μ8 0 10) = (1 : Int32) → wp_X6_within x5 (0 : Int32) (255 : Int32) (fun r31 => ((r31 = 0 → wb_X6_torn_47 Q σ8 μ8) ∧ (¬ r31 = 0 → wp_X6_within x6 (0 : Int32) (3 : Int32) (fun r41 => ((¬ r41 = 0 → ((x4 < (1 : Int32) → wb_X6_torn_67 Q σ8 μ8) ∧ (¬ x4 < (1 : Int32) → wp_X6_wouldCost σ8 μ8 x3 (fun r61 σ61 μ61 => ((x4 ≤ r61 → wp_X6_putsAside σ61 μ61  (fun σ72 μ72 => ∀ μ82 : Ar, μ82 = updA μ72 0 (upd (μ72 0) 4 x4) → (∀ μ90 : Ar, μ90 = updA μ82 0 (upd (μ82 0) 5 x5) → (wp_X6_sets σ72 μ90 x1 x2 x3 (fun r95 σ95 μ95 => wp_X6_begins σ95 μ95  (fun σ101 μ101 => wp_X6_switchesOn σ101 μ101  (fun σ105 μ105 => ∀ y115 : Int32, y115 = (μ105 0 8) → (((¬ x6 = 0 → ((¬ x6 = (1 : Int32) → wb_X6_torn_147 Q σ105 μ105 x6 (y115).toInt64) ∧ (x6 = (1 : Int32) → wp_X6_freeNow σ105 μ105  (fun r137 σ137 μ137 => wb_X6_torn_147 Q σ137 μ137 x6 (r137).toInt64)))) ∧ (x6 = 0 → wp_X6_valueNow σ105 μ105 x1 (fun r124 σ124 μ124 => wb_X6_torn_147 Q σ124 μ124 x6 r124))))))))))) ∧ (¬ x4 ≤ r61 → wb_X6_torn_67 Q σ61 μ61)))))) ∧ (r41 = 0 → wb_X6_torn_47 Q σ8 μ8))))))))))))
set_option maxHeartbeats 4000000 in
set_option maxRecDepth 100000 in
theorem ct_X6_torn (l : Launch) (D : va_G) (cy : ClassId) (Ad : Nat → Nat) (hap : apt 8 Ad) {σ : Rg} {μ : Ar} {x1 : Int32} {x2 : Int32} {x3 : Int32} {x4 : Int32} {x5 : Int32} {x6 : Int32} {Q : Int64 → Rg → Ar → Prop} (h : wp_X6_torn σ μ x1 x2 x3 x4 x5 x6 Q) : Ct l yX6_torn cX6_torn 11 (some FieldType.long) rmX6_torn D [(cy, .int)] (fun H => va_P D vwCl (wM Ad cy σ μ) H) [.ref (Ad 0), .int x1, .int x2, .int x3, .int x4, .int x5, .int x6] (AS 8 Ad) (PWl (wM Ad cy) D Q) := by
  refine Ct.of (by decide) (Nat.le_of_ble_eq_true rfl) ?_
  intro p e s m below meth c ls C hP hl
  have hl : lv_has ls 11 [(0, .ref (Ad 0)), (1, .int x1), (2, .int x2), (3, .int x3), (4, .int x4), (5, .int x5), (6, .int x6)] := hl
  have hS : va_S (AS 8 Ad) s.heap s.heap [] := va_S.rf
  have hx := C.1
  have hb := C.2.1
  refine lv_aload_n hx hb dX6_torn_0 rfl (lv_at hl 0 rfl) ?_
  refine lv_iconst (v := 0) hx hb dX6_torn_1 (by decide) ?_
  refine pM_model_thrown C hap (fun _ h => h) hP hS (C.2.2.2.2.2.2.1 _ wq_926) dX6_torn_2 (fun H locs hP hS => ?_)
  obtain ⟨σ2, e2⟩ : ∃ z : Rg, z = upd σ 0 (0 : Int32) := ⟨_, rfl⟩
  have hP : va_P D vwCl (wM Ad cy σ2 μ) H := by rw [e2]; exact hP
  have h := h σ2 e2
  refine lv_aload_n hx hb dX6_torn_5 rfl (lv_at hl 0 rfl) ?_
  refine lv_iload_n hx hb dX6_torn_6 rfl (lv_at hl 1 rfl) ?_
  refine lv_iload_n hx hb dX6_torn_7 rfl (lv_at hl 3 rfl) ?_
  refine kWi (rnV C (ct_X6_isSetting l D cy Ad hap h) yv_X6_isSetting wq_1092 ⟨rfl, rfl⟩ ⟨Nat.le_of_ble_eq_true rfl, Nat.le_of_ble_eq_true rfl⟩ ⟨Nat.zero_le _, Nat.zero_le _⟩ (vM_model C hP) hP hl.1 rfl rfl (Nat.le_of_ble_eq_true rfl) dX6_torn_8) hS (fun _ h => h) (fun r8 σ8 μ8 H locs h hP hk hS => ?_)
  refine lv_if_eq (tgt := 47) hx hb dX6_torn_11 (by decide) (fun hc => ?_) (fun hc => ?_)
  · have h := h.1 hc
    exact wk_X6_torn_47 C hap h hP hS (lv_sub hl [] rfl)
  · have h := h.2 hc
    refine lv_aload_n hx hb dX6_torn_14 rfl (lv_at hl 0 rfl) ?_
    refine gM_model_x C hP (C.2.2.2.2.2.2.1 _ wq_924) dX6_torn_15 ?_
    refine lv_bipush (v := 10) hx hb dX6_torn_18 (by decide) ?_
    refine lcM_0 C hP tc_10 vi_10_810 dX6_torn_20 ?_
    refine lv_iconst (v := 1) hx hb dX6_torn_21 (by decide) ?_
    refine lv_icmp_eq (tgt := 47) hx hb dX6_torn_22 (by decide) (fun hc => ?_) (fun hc => ?_)
    · have h := h.1 hc
      exact wk_X6_torn_47 C hap h hP hS (lv_sub hl [] rfl)
    · have h := h.2 hc
      refine lv_iload hx hb dX6_torn_25 (lv_at hl 5 rfl) ?_
      refine lv_iconst (v := 0) hx hb dX6_torn_27 (by decide) ?_
      refine lv_sipush (v := 255) hx hb dX6_torn_28 (by decide) ?_
      refine kNi (rnS (C.none) (ct_X6_within l D h) ys_X6_within wq_974 ⟨rfl, rfl⟩ ⟨Nat.le_of_ble_eq_true rfl, Nat.le_of_ble_eq_true rfl⟩ ⟨Nat.zero_le _, Nat.zero_le _⟩ trivial hl.1 rfl rfl (Nat.le_of_ble_eq_true rfl) dX6_torn_31) hS (fun _ h => h.elim) (fun r31 H locs h hk hS => ?_)
      have hP := keepN hP hk
      refine lv_if_eq (tgt := 47) hx hb dX6_torn_34 (by decide) (fun hc => ?_) (fun hc => ?_)
      · have h := h.1 hc
        exact wk_X6_torn_47 C hap h hP hS (lv_sub hl [] rfl)
      · have h := h.2 hc
        refine lv_iload hx hb dX6_torn_37 (lv_at hl 6 rfl) ?_
        refine lv_iconst (v := 0) hx hb dX6_torn_39 (by decide) ?_
        refine lv_iconst (v := 3) hx hb dX6_torn_40 (by decide) ?_
        refine kNi (rnS (C.none) (ct_X6_within l D h) ys_X6_within wq_974 ⟨rfl, rfl⟩ ⟨Nat.le_of_ble_eq_true rfl, Nat.le_of_ble_eq_true rfl⟩ ⟨Nat.zero_le _, Nat.zero_le _⟩ trivial hl.1 rfl rfl (Nat.le_of_ble_eq_true rfl) dX6_torn_41) hS (fun _ h => h.elim) (fun r41 H locs h hk hS => ?_)
        have hP := keepN hP hk
        refine lv_if_ne (tgt := 51) hx hb dX6_torn_44 (by decide) (fun hc => ?_) (fun hc => ?_)
        · have h := h.1 hc
          refine lv_iload hx hb dX6_torn_51 (lv_at hl 4 rfl) ?_
          refine lv_iconst (v := 1) hx hb dX6_torn_53 (by decide) ?_
          refine lv_icmp_lt (tgt := 67) hx hb dX6_torn_54 (by decide) (fun hc => ?_) (fun hc => ?_)
          · have h := h.1 hc
            exact wk_X6_torn_67 C hap h hP hS (lv_sub hl [] rfl)
          · have h := h.2 hc
            refine lv_iload hx hb dX6_torn_57 (lv_at hl 4 rfl) ?_
            refine lv_aload_n hx hb dX6_torn_59 rfl (lv_at hl 0 rfl) ?_
            refine lv_iload_n hx hb dX6_torn_60 rfl (lv_at hl 3 rfl) ?_
            refine kWi (rnV C (ct_X6_wouldCost l D cy Ad hap h) yv_X6_wouldCost wq_1245 ⟨rfl, rfl⟩ ⟨Nat.le_of_ble_eq_true rfl, Nat.le_of_ble_eq_true rfl⟩ ⟨Nat.zero_le _, Nat.zero_le _⟩ (vM_model C hP) hP hl.1 rfl rfl (Nat.le_of_ble_eq_true rfl) dX6_torn_61) hS (fun _ h => h) (fun r61 σ61 μ61 H locs h hP hk hS => ?_)
            refine lv_icmp_le (tgt := 71) hx hb dX6_torn_64 (by decide) (fun hc => ?_) (fun hc => ?_)
            · have h := h.1 hc
              refine lv_aload_n hx hb dX6_torn_71 rfl (lv_at hl 0 rfl) ?_
              refine kWv (rnV C (ct_X6_putsAside l D cy Ad hap h) yv_X6_putsAside wq_1249 ⟨rfl, rfl⟩ ⟨Nat.le_of_ble_eq_true rfl, Nat.le_of_ble_eq_true rfl⟩ ⟨Nat.zero_le _, Nat.zero_le _⟩ (vM_model C hP) hP hl.1 rfl rfl (Nat.le_of_ble_eq_true rfl) dX6_torn_72) hS (fun _ h => h) (fun σ72 μ72 H locs h hP hk hS => ?_)
              refine lv_aload_n hx hb dX6_torn_75 rfl (lv_at hl 0 rfl) ?_
              refine gM_model_x C hP (C.2.2.2.2.2.2.1 _ wq_924) dX6_torn_76 ?_
              refine lv_iconst (v := 4) hx hb dX6_torn_79 (by decide) ?_
              refine lv_iload hx hb dX6_torn_80 (lv_at hl 4 rfl) ?_
              refine scM_0 C hap (fun _ h => h) hP hS tc_4 vi_4_810 dX6_torn_82 (fun H locs hP hS => ?_)
              obtain ⟨μ82, e82⟩ : ∃ z : Ar, z = updA μ72 0 (upd (μ72 0) 4 x4) := ⟨_, rfl⟩
              have hP : va_P D vwCl (wM Ad cy σ72 μ82) H := by rw [e82]; exact hP
              have h := h μ82 e82
              refine lv_aload_n hx hb dX6_torn_83 rfl (lv_at hl 0 rfl) ?_
              refine gM_model_x C hP (C.2.2.2.2.2.2.1 _ wq_924) dX6_torn_84 ?_
              refine lv_iconst (v := 5) hx hb dX6_torn_87 (by decide) ?_
              refine lv_iload hx hb dX6_torn_88 (lv_at hl 5 rfl) ?_
              refine scM_0 C hap (fun _ h => h) hP hS tc_5 vi_5_810 dX6_torn_90 (fun H locs hP hS => ?_)
              obtain ⟨μ90, e90⟩ : ∃ z : Ar, z = updA μ82 0 (upd (μ82 0) 5 x5) := ⟨_, rfl⟩
              have hP : va_P D vwCl (wM Ad cy σ72 μ90) H := by rw [e90]; exact hP
              have h := h μ90 e90
              refine lv_aload_n hx hb dX6_torn_91 rfl (lv_at hl 0 rfl) ?_
              refine lv_iload_n hx hb dX6_torn_92 rfl (lv_at hl 1 rfl) ?_
              refine lv_iload_n hx hb dX6_torn_93 rfl (lv_at hl 2 rfl) ?_
              refine lv_iload_n hx hb dX6_torn_94 rfl (lv_at hl 3 rfl) ?_
              refine kWi (rnV C (ct_X6_sets l D cy Ad hap h) yv_X6_sets wq_1096 ⟨rfl, rfl⟩ ⟨Nat.le_of_ble_eq_true rfl, Nat.le_of_ble_eq_true rfl⟩ ⟨Nat.zero_le _, Nat.zero_le _⟩ (vM_model C hP) hP hl.1 rfl rfl (Nat.le_of_ble_eq_true rfl) dX6_torn_95) hS (fun _ h => h) (fun r95 σ95 μ95 H locs h hP hk hS => ?_)
              refine lv_istore (lv' := [(7, .int r95), (0, .ref (Ad 0)), (1, .int x1), (2, .int x2), (3, .int x3), (4, .int x4), (5, .int x5), (6, .int x6)]) hx hb dX6_torn_98 hl (by decide) rfl (fun ls hl => ?_)
              refine lv_aload_n hx hb dX6_torn_100 rfl (lv_at hl 1 rfl) ?_
              refine kWv (rnV C (ct_X6_begins l D cy Ad hap h) yv_X6_begins wq_985 ⟨rfl, rfl⟩ ⟨Nat.le_of_ble_eq_true rfl, Nat.le_of_ble_eq_true rfl⟩ ⟨Nat.zero_le _, Nat.zero_le _⟩ (vM_model C hP) hP hl.1 rfl rfl (Nat.le_of_ble_eq_true rfl) dX6_torn_101) hS (fun _ h => h) (fun σ101 μ101 H locs h hP hk hS => ?_)
              refine lv_aload_n hx hb dX6_torn_104 rfl (lv_at hl 1 rfl) ?_
              refine kWv (rnV C (ct_X6_switchesOn l D cy Ad hap h) yv_X6_switchesOn wq_989 ⟨rfl, rfl⟩ ⟨Nat.le_of_ble_eq_true rfl, Nat.le_of_ble_eq_true rfl⟩ ⟨Nat.zero_le _, Nat.zero_le _⟩ (vM_model C hP) hP hl.1 rfl rfl (Nat.le_of_ble_eq_true rfl) dX6_torn_105) hS (fun _ h => h) (fun σ105 μ105 H locs h hP hk hS => ?_)
              refine lv_aload_n hx hb dX6_torn_108 rfl (lv_at hl 1 rfl) ?_
              refine gM_model_x C hP (C.2.2.2.2.2.2.1 _ wq_924) dX6_torn_109 ?_
              refine lv_bipush (v := 8) hx hb dX6_torn_112 (by decide) ?_
              refine lcM_0 C hP tc_8 vi_8_810 dX6_torn_114 ?_
              refine lv_topi (fun y115 e115 => ?_)
              have h := h y115 e115
              refine lv_istore (lv' := [(8, .int y115), (7, .int r95), (0, .ref (Ad 0)), (1, .int x1), (2, .int x2), (3, .int x3), (4, .int x4), (5, .int x5), (6, .int x6)]) hx hb dX6_torn_115 hl (by decide) rfl (fun ls hl => ?_)
              refine lv_iload hx hb dX6_torn_117 (lv_at hl 8 rfl) ?_
              refine lv_if_ne (tgt := 130) hx hb dX6_torn_119 (by decide) (fun hc => ?_) (fun hc => ?_)
              · have h := h.1 hc
                refine lv_iload hx hb dX6_torn_130 (lv_at hl 8 rfl) ?_
                refine lv_iconst (v := 1) hx hb dX6_torn_132 (by decide) ?_
                refine lv_icmp_ne (tgt := 144) hx hb dX6_torn_133 (by decide) (fun hc => ?_) (fun hc => ?_)
                · have h := h.1 hc
                  refine lv_iload hx hb dX6_torn_144 (lv_at hl 0 rfl) ?_
                  refine lv_i2l hx hb dX6_torn_146 rfl ?_
                  exact wk_X6_torn_147 C hap h hP hS (lv_sub hl [2, 8] rfl)
                · have h := h.2 hc
                  refine lv_aload_n hx hb dX6_torn_136 rfl (lv_at hl 2 rfl) ?_
                  refine kWi (rnV C (ct_X6_freeNow l D cy Ad hap h) yv_X6_freeNow wq_1112 ⟨rfl, rfl⟩ ⟨Nat.le_of_ble_eq_true rfl, Nat.le_of_ble_eq_true rfl⟩ ⟨Nat.zero_le _, Nat.zero_le _⟩ (vM_model C hP) hP hl.1 rfl rfl (Nat.le_of_ble_eq_true rfl) dX6_torn_137) hS (fun _ h => h) (fun r137 σ137 μ137 H locs h hP hk hS => ?_)
                  refine lv_i2l hx hb dX6_torn_140 rfl ?_
                  refine lv_goto (tgt := 147) hx hb dX6_torn_141 (by decide) ?_
                  exact wk_X6_torn_147 C hap h hP hS (lv_sub hl [2, 8] rfl)
              · have h := h.2 hc
                refine lv_aload_n hx hb dX6_torn_122 rfl (lv_at hl 2 rfl) ?_
                refine lv_iload_n hx hb dX6_torn_123 rfl (lv_at hl 3 rfl) ?_
                refine kWl (rnV C (ct_X6_valueNow l D cy Ad hap h) yv_X6_valueNow wq_1204 ⟨rfl, rfl⟩ ⟨Nat.le_of_ble_eq_true rfl, Nat.le_of_ble_eq_true rfl⟩ ⟨Nat.zero_le _, Nat.zero_le _⟩ (vM_model C hP) hP hl.1 rfl rfl (Nat.le_of_ble_eq_true rfl) dX6_torn_124) hS (fun _ h => h) (fun r124 σ124 μ124 H locs h hP hk hS => ?_)
                refine lv_goto (tgt := 147) hx hb dX6_torn_127 (by decide) ?_
                exact wk_X6_torn_147 C hap h hP hS (lv_sub hl [2, 8] rfl)
            · have h := h.2 hc
              exact wk_X6_torn_67 C hap h hP hS (lv_sub hl [] rfl)
        · have h := h.2 hc
          exact wk_X6_torn_47 C hap h hP hS (lv_sub hl [] rfl)
abbrev rmX6_isOf : Room := { frames := 1, cells := 0, slots := 0, locals := 22 }
def wb_X6_isOf_40 (Q : Int32 → Rg → Ar → Prop) (σ : Rg) (μ : Ar) (t0 : Int32) : Prop := (bz t0) ∧ (Q t0 σ μ)
set_option maxHeartbeats 4000000 in
set_option maxRecDepth 100000 in
theorem wk_X6_isOf_40 {p : Program} {l : Launch} {e : Env} {s : State} {m : MethodId} {args : Array Value} {below : List Frame} {meth : Method} {c : Code} {D : va_G} {cy : ClassId} {Ad : Nat → Nat} (C : Cx p s m args meth c RX6 cX6_isOf 4 (some FieldType.boolean) D [(cy, .int)]) (hap : apt 8 Ad) {Q : Int32 → Rg → Ar → Prop} {σ : Rg} {μ : Ar} {t0 : Int32} {H : Heap} {locs : List Loc} {ls : Array Slot} (h : wb_X6_isOf_40 Q σ μ t0) (hP : va_P D vwCl (wM Ad cy σ μ) H) (hS : va_S (AS 8 Ad) s.heap H locs) (hl : lv_has ls 4 []) : W p l e rmX6_isOf s m args below meth c H locs 0 0 (MQ below (Qcg (PWi (wM Ad cy) D Q) (AS 8 Ad)) args s 0 0 (AS 8 Ad)) (F0 m 40 ls [.int t0]) := by
  have hx := C.1
  have hb := C.2.1
  obtain ⟨hc, h⟩ := h
  exact endZ C hS hc ⟨_, _, _, rfl, h, hP⟩ dX6_isOf_40
def wb_X6_isOf_39 (Q : Int32 → Rg → Ar → Prop) (σ : Rg) (μ : Ar) : Prop := wb_X6_isOf_40 Q σ μ (0 : Int32)
set_option maxHeartbeats 4000000 in
set_option maxRecDepth 100000 in
theorem wk_X6_isOf_39 {p : Program} {l : Launch} {e : Env} {s : State} {m : MethodId} {args : Array Value} {below : List Frame} {meth : Method} {c : Code} {D : va_G} {cy : ClassId} {Ad : Nat → Nat} (C : Cx p s m args meth c RX6 cX6_isOf 4 (some FieldType.boolean) D [(cy, .int)]) (hap : apt 8 Ad) {Q : Int32 → Rg → Ar → Prop} {σ : Rg} {μ : Ar}  {H : Heap} {locs : List Loc} {ls : Array Slot} (h : wb_X6_isOf_39 Q σ μ) (hP : va_P D vwCl (wM Ad cy σ μ) H) (hS : va_S (AS 8 Ad) s.heap H locs) (hl : lv_has ls 4 []) : W p l e rmX6_isOf s m args below meth c H locs 0 0 (MQ below (Qcg (PWi (wM Ad cy) D Q) (AS 8 Ad)) args s 0 0 (AS 8 Ad)) (F0 m 39 ls []) := by
  have hx := C.1
  have hb := C.2.1
  refine lv_iconst (v := 0) hx hb dX6_isOf_39 (by decide) ?_
  exact wk_X6_isOf_40 C hap h hP hS (lv_sub hl [] rfl)
def wp_X6_isOf (σ : Rg) (μ : Ar) (x1 : Int32) (x2 : Int32) (x3 : Int32) (Q : Int32 → Rg → Ar → Prop) : Prop := (vp_in x2 64) ∧ (wp_X6_byteAt σ μ x1 (μ 2 (x2).toNatClampNeg) (fun r8 σ8 μ8 => ((¬ r8 = x3 → wb_X6_isOf_39 Q σ8 μ8) ∧ (r8 = x3 → (vp_in x2 64) ∧ ((((μ8 3 (x2).toNatClampNeg) = (3 : Int32) → wb_X6_isOf_39 Q σ8 μ8) ∧ (¬ (μ8 3 (x2).toNatClampNeg) = (3 : Int32) → (vp_in x2 64) ∧ ((((2 : Int32) ≤ (μ8 5 (x2).toNatClampNeg) → wb_X6_isOf_39 Q σ8 μ8) ∧ (¬ (2 : Int32) ≤ (μ8 5 (x2).toNatClampNeg) → wb_X6_isOf_40 Q σ8 μ8 (1 : Int32)))))))))))
set_option maxHeartbeats 4000000 in
set_option maxRecDepth 100000 in
theorem ct_X6_isOf (l : Launch) (D : va_G) (cy : ClassId) (Ad : Nat → Nat) (hap : apt 8 Ad) {σ : Rg} {μ : Ar} {x1 : Int32} {x2 : Int32} {x3 : Int32} {Q : Int32 → Rg → Ar → Prop} (h : wp_X6_isOf σ μ x1 x2 x3 Q) : Ct l yX6_isOf cX6_isOf 4 (some FieldType.boolean) rmX6_isOf D [(cy, .int)] (fun H => va_P D vwCl (wM Ad cy σ μ) H) [.ref (Ad 0), .int x1, .int x2, .int x3] (AS 8 Ad) (PWi (wM Ad cy) D Q) := by
  refine Ct.of (by decide) (Nat.le_of_ble_eq_true rfl) ?_
  intro p e s m below meth c ls C hP hl
  have hl : lv_has ls 4 [(0, .ref (Ad 0)), (1, .int x1), (2, .int x2), (3, .int x3)] := hl
  have hS : va_S (AS 8 Ad) s.heap s.heap [] := va_S.rf
  have hx := C.1
  have hb := C.2.1
  refine lv_aload_n hx hb dX6_isOf_0 rfl (lv_at hl 0 rfl) ?_
  refine lv_iload_n hx hb dX6_isOf_1 rfl (lv_at hl 1 rfl) ?_
  refine lv_aload_n hx hb dX6_isOf_2 rfl (lv_at hl 0 rfl) ?_
  refine gM_model_place C hP (C.2.2.2.2.2.2.1 _ wq_931) dX6_isOf_3 ?_
  refine lv_iload_n hx hb dX6_isOf_6 rfl (lv_at hl 2 rfl) ?_
  obtain ⟨hc, h⟩ := h
  refine lM_2 C hP hc dX6_isOf_7 ?_
  refine kWi (rnV C (ct_X6_byteAt l D cy Ad hap h) yv_X6_byteAt wq_997 ⟨rfl, rfl⟩ ⟨Nat.le_of_ble_eq_true rfl, Nat.le_of_ble_eq_true rfl⟩ ⟨Nat.zero_le _, Nat.zero_le _⟩ (vM_model C hP) hP hl.1 rfl rfl (Nat.le_of_ble_eq_true rfl) dX6_isOf_8) hS (fun _ h => h) (fun r8 σ8 μ8 H locs h hP hk hS => ?_)
  refine lv_iload_n hx hb dX6_isOf_11 rfl (lv_at hl 3 rfl) ?_
  refine lv_icmp_ne (tgt := 39) hx hb dX6_isOf_12 (by decide) (fun hc => ?_) (fun hc => ?_)
  · have h := h.1 hc
    exact wk_X6_isOf_39 C hap h hP hS (lv_sub hl [] rfl)
  · have h := h.2 hc
    refine lv_aload_n hx hb dX6_isOf_15 rfl (lv_at hl 0 rfl) ?_
    refine gM_model_sort C hP (C.2.2.2.2.2.2.1 _ wq_932) dX6_isOf_16 ?_
    refine lv_iload_n hx hb dX6_isOf_19 rfl (lv_at hl 2 rfl) ?_
    obtain ⟨hc, h⟩ := h
    refine lM_3 C hP hc dX6_isOf_20 ?_
    refine lv_iconst (v := 3) hx hb dX6_isOf_21 (by decide) ?_
    refine lv_icmp_eq (tgt := 39) hx hb dX6_isOf_22 (by decide) (fun hc => ?_) (fun hc => ?_)
    · have h := h.1 hc
      exact wk_X6_isOf_39 C hap h hP hS (lv_sub hl [] rfl)
    · have h := h.2 hc
      refine lv_aload_n hx hb dX6_isOf_25 rfl (lv_at hl 0 rfl) ?_
      refine gM_model_state C hP (C.2.2.2.2.2.2.1 _ wq_934) dX6_isOf_26 ?_
      refine lv_iload_n hx hb dX6_isOf_29 rfl (lv_at hl 2 rfl) ?_
      obtain ⟨hc, h⟩ := h
      refine lM_5 C hP hc dX6_isOf_30 ?_
      refine lv_iconst (v := 2) hx hb dX6_isOf_31 (by decide) ?_
      refine lv_icmp_ge (tgt := 39) hx hb dX6_isOf_32 (by decide) (fun hc => ?_) (fun hc => ?_)
      · have h := h.1 hc
        exact wk_X6_isOf_39 C hap h hP hS (lv_sub hl [] rfl)
      · have h := h.2 hc
        refine lv_iconst (v := 1) hx hb dX6_isOf_35 (by decide) ?_
        refine lv_goto (tgt := 40) hx hb dX6_isOf_36 (by decide) ?_
        exact wk_X6_isOf_40 C hap h hP hS (lv_sub hl [] rfl)
abbrev rmX6_history : Room := { frames := 3, cells := 0, slots := 0, locals := 72 }
def wb_X6_history_25 (Q : Int64 → Rg → Ar → Prop) (σ : Rg) (μ : Ar) : Prop := Q (-1 : Int64) σ μ
set_option maxHeartbeats 4000000 in
set_option maxRecDepth 100000 in
theorem wk_X6_history_25 {p : Program} {l : Launch} {e : Env} {s : State} {m : MethodId} {args : Array Value} {below : List Frame} {meth : Method} {c : Code} {D : va_G} {cy : ClassId} {Ad : Nat → Nat} (C : Cx p s m args meth c RX6 cX6_history 6 (some FieldType.long) D [(cy, .int)]) (hap : apt 8 Ad) {Q : Int64 → Rg → Ar → Prop} {σ : Rg} {μ : Ar}  {H : Heap} {locs : List Loc} {ls : Array Slot} (h : wb_X6_history_25 Q σ μ) (hP : va_P D vwCl (wM Ad cy σ μ) H) (hS : va_S (AS 8 Ad) s.heap H locs) (hl : lv_has ls 6 []) : W p l e rmX6_history s m args below meth c H locs 0 0 (MQ below (Qcg (PWl (wM Ad cy) D Q) (AS 8 Ad)) args s 0 0 (AS 8 Ad)) (F0 m 25 ls []) := by
  have hx := C.1
  have hb := C.2.1
  refine lv_ldc2 hx hb C.2.2.2.1 (C.2.2.2.2.2.2.1 _ wq_1208) dX6_history_25 ?_
  exact endL C hS ⟨_, _, _, rfl, h, hP⟩ dX6_history_28
def wb_X6_history_108 (Q : Int64 → Rg → Ar → Prop) (σ : Rg) (μ : Ar) (t0 : Int64) : Prop := Q t0 σ μ
set_option maxHeartbeats 4000000 in
set_option maxRecDepth 100000 in
theorem wk_X6_history_108 {p : Program} {l : Launch} {e : Env} {s : State} {m : MethodId} {args : Array Value} {below : List Frame} {meth : Method} {c : Code} {D : va_G} {cy : ClassId} {Ad : Nat → Nat} (C : Cx p s m args meth c RX6 cX6_history 6 (some FieldType.long) D [(cy, .int)]) (hap : apt 8 Ad) {Q : Int64 → Rg → Ar → Prop} {σ : Rg} {μ : Ar} {t0 : Int64} {H : Heap} {locs : List Loc} {ls : Array Slot} (h : wb_X6_history_108 Q σ μ t0) (hP : va_P D vwCl (wM Ad cy σ μ) H) (hS : va_S (AS 8 Ad) s.heap H locs) (hl : lv_has ls 6 []) : W p l e rmX6_history s m args below meth c H locs 0 0 (MQ below (Qcg (PWl (wM Ad cy) D Q) (AS 8 Ad)) args s 0 0 (AS 8 Ad)) (F0 m 108 ls [.long t0]) := by
  have hx := C.1
  have hb := C.2.1
  exact endL C hS ⟨_, _, _, rfl, h, hP⟩ dX6_history_108
def wb_X6_history_88 (Q : Int64 → Rg → Ar → Prop) (k52 : Rg → Ar → Int32 → Int32 → Int32 → Int32 → Int32 → Prop) (σ : Rg) (μ : Ar) (v1 : Int32) (v2 : Int32) (v3 : Int32) (v4 : Int32) (v5 : Int32) : Prop := ∀ y88 : Int32, y88 = v5 + (-1 : Int32) → (k52 σ μ v1 v2 v3 v4 y88)
set_option maxHeartbeats 4000000 in
set_option maxRecDepth 100000 in
theorem wk_X6_history_88 {p : Program} {l : Launch} {e : Env} {s : State} {m : MethodId} {args : Array Value} {below : List Frame} {meth : Method} {c : Code} {D : va_G} {cy : ClassId} {Ad : Nat → Nat} (C : Cx p s m args meth c RX6 cX6_history 6 (some FieldType.long) D [(cy, .int)]) (hap : apt 8 Ad) {Q : Int64 → Rg → Ar → Prop} {k52 : Rg → Ar → Int32 → Int32 → Int32 → Int32 → Int32 → Prop} (hk52 : ∀ {σ : Rg} {μ : Ar} {v1 : Int32} {v2 : Int32} {v3 : Int32} {v4 : Int32} {v5 : Int32} {H : Heap} {locs : List Loc} {ls : Array Slot}, k52 σ μ v1 v2 v3 v4 v5 → va_P D vwCl (wM Ad cy σ μ) H → va_S (AS 8 Ad) s.heap H locs → lv_has ls 6 [(0, .ref (Ad 0)), (1, .int v1), (2, .int v2), (3, .int v3), (4, .int v4), (5, .int v5)] → W p l e rmX6_history s m args below meth c H locs 0 0 (MQ below (Qcg (PWl (wM Ad cy) D Q) (AS 8 Ad)) args s 0 0 (AS 8 Ad)) (F0 m 52 ls [])) {σ : Rg} {μ : Ar} {v1 : Int32} {v2 : Int32} {v3 : Int32} {v4 : Int32} {v5 : Int32} {H : Heap} {locs : List Loc} {ls : Array Slot} (h : wb_X6_history_88 Q k52 σ μ v1 v2 v3 v4 v5) (hP : va_P D vwCl (wM Ad cy σ μ) H) (hS : va_S (AS 8 Ad) s.heap H locs) (hl : lv_has ls 6 [(0, .ref (Ad 0)), (1, .int v1), (2, .int v2), (3, .int v3), (4, .int v4), (5, .int v5)]) : W p l e rmX6_history s m args below meth c H locs 0 0 (MQ below (Qcg (PWl (wM Ad cy) D Q) (AS 8 Ad)) args s 0 0 (AS 8 Ad)) (F0 m 88 ls []) := by
  have hx := C.1
  have hb := C.2.1
  obtain ⟨y88, e88⟩ : ∃ y : Int32, y = v5 + (-1 : Int32) := ⟨_, rfl⟩
  have h := h y88 e88
  refine lv_iinc (v := y88) (lv' := [(5, .int y88), (0, .ref (Ad 0)), (1, .int v1), (2, .int v2), (3, .int v3), (4, .int v4)]) hx hb dX6_history_88 hl (k := 5) rfl (by rw [e88]; rfl) (by decide) rfl (fun ls hl => ?_)
  refine lv_goto (tgt := 52) hx hb dX6_history_91 (by decide) ?_
  exact hk52 h hP hS (lv_sub hl [1, 2, 3, 4, 5, 0] rfl)
def wb_X6_history_52 (Q : Int64 → Rg → Ar → Prop) (k52 : Rg → Ar → Int32 → Int32 → Int32 → Int32 → Int32 → Prop) (σ : Rg) (μ : Ar) (v1 : Int32) (v2 : Int32) (v3 : Int32) (v4 : Int32) (v5 : Int32) : Prop := ((v5 < 0 → ((¬ v2 = (-1 : Int32) → wb_X6_history_108 Q σ μ (-5 : Int64)) ∧ (v2 = (-1 : Int32) → wb_X6_history_108 Q σ μ (v4).toInt64))) ∧ (¬ v5 < 0 → wp_X6_isOf σ μ v3 v5 v1 (fun r62 σ62 μ62 => ((¬ r62 = 0 → ((¬ v4 = v2 → ∀ y85 : Int32, y85 = v4 + (1 : Int32) → (wb_X6_history_88 Q k52 σ62 μ62 v1 v2 v3 y85 v5)) ∧ (v4 = v2 → wp_X6_valueOf σ62 μ62 v3 v5 (fun r81 σ81 μ81 => Q r81 σ81 μ81)))) ∧ (r62 = 0 → wb_X6_history_88 Q k52 σ62 μ62 v1 v2 v3 v4 v5)))))
set_option maxHeartbeats 4000000 in
set_option maxRecDepth 100000 in
theorem wk_X6_history_52 {p : Program} {l : Launch} {e : Env} {s : State} {m : MethodId} {args : Array Value} {below : List Frame} {meth : Method} {c : Code} {D : va_G} {cy : ClassId} {Ad : Nat → Nat} (C : Cx p s m args meth c RX6 cX6_history 6 (some FieldType.long) D [(cy, .int)]) (hap : apt 8 Ad) {Q : Int64 → Rg → Ar → Prop} {k52 : Rg → Ar → Int32 → Int32 → Int32 → Int32 → Int32 → Prop} (hk52 : ∀ {σ : Rg} {μ : Ar} {v1 : Int32} {v2 : Int32} {v3 : Int32} {v4 : Int32} {v5 : Int32} {H : Heap} {locs : List Loc} {ls : Array Slot}, k52 σ μ v1 v2 v3 v4 v5 → va_P D vwCl (wM Ad cy σ μ) H → va_S (AS 8 Ad) s.heap H locs → lv_has ls 6 [(0, .ref (Ad 0)), (1, .int v1), (2, .int v2), (3, .int v3), (4, .int v4), (5, .int v5)] → W p l e rmX6_history s m args below meth c H locs 0 0 (MQ below (Qcg (PWl (wM Ad cy) D Q) (AS 8 Ad)) args s 0 0 (AS 8 Ad)) (F0 m 52 ls [])) {σ : Rg} {μ : Ar} {v1 : Int32} {v2 : Int32} {v3 : Int32} {v4 : Int32} {v5 : Int32} {H : Heap} {locs : List Loc} {ls : Array Slot} (h : wb_X6_history_52 Q k52 σ μ v1 v2 v3 v4 v5) (hP : va_P D vwCl (wM Ad cy σ μ) H) (hS : va_S (AS 8 Ad) s.heap H locs) (hl : lv_has ls 6 [(0, .ref (Ad 0)), (1, .int v1), (2, .int v2), (3, .int v3), (4, .int v4), (5, .int v5)]) : W p l e rmX6_history s m args below meth c H locs 0 0 (MQ below (Qcg (PWl (wM Ad cy) D Q) (AS 8 Ad)) args s 0 0 (AS 8 Ad)) (F0 m 52 ls []) := by
  have hx := C.1
  have hb := C.2.1
  refine lv_iload hx hb dX6_history_52 (lv_at hl 5 rfl) ?_
  refine lv_if_lt (tgt := 94) hx hb dX6_history_54 (by decide) (fun hc => ?_) (fun hc => ?_)
  · have h := h.1 hc
    refine lv_iload_n hx hb dX6_history_94 rfl (lv_at hl 2 rfl) ?_
    refine lv_iconst (v := -1) hx hb dX6_history_95 (by decide) ?_
    refine lv_icmp_ne (tgt := 105) hx hb dX6_history_96 (by decide) (fun hc => ?_) (fun hc => ?_)
    · have h := h.1 hc
      refine lv_ldc2 hx hb C.2.2.2.1 (C.2.2.2.2.2.2.1 _ wq_1269) dX6_history_105 ?_
      exact wk_X6_history_108 C hap h hP hS (lv_sub hl [] rfl)
    · have h := h.2 hc
      refine lv_iload hx hb dX6_history_99 (lv_at hl 4 rfl) ?_
      refine lv_i2l hx hb dX6_history_101 rfl ?_
      refine lv_goto (tgt := 108) hx hb dX6_history_102 (by decide) ?_
      exact wk_X6_history_108 C hap h hP hS (lv_sub hl [] rfl)
  · have h := h.2 hc
    refine lv_aload_n hx hb dX6_history_57 rfl (lv_at hl 0 rfl) ?_
    refine lv_iload_n hx hb dX6_history_58 rfl (lv_at hl 3 rfl) ?_
    refine lv_iload hx hb dX6_history_59 (lv_at hl 5 rfl) ?_
    refine lv_iload_n hx hb dX6_history_61 rfl (lv_at hl 1 rfl) ?_
    refine kWi (rnV C (ct_X6_isOf l D cy Ad hap h) yv_X6_isOf wq_1265 ⟨rfl, rfl⟩ ⟨Nat.le_of_ble_eq_true rfl, Nat.le_of_ble_eq_true rfl⟩ ⟨Nat.zero_le _, Nat.zero_le _⟩ (vM_model C hP) hP hl.1 rfl rfl (Nat.le_of_ble_eq_true rfl) dX6_history_62) hS (fun _ h => h) (fun r62 σ62 μ62 H locs h hP hk hS => ?_)
    refine lv_if_ne (tgt := 71) hx hb dX6_history_65 (by decide) (fun hc => ?_) (fun hc => ?_)
    · have h := h.1 hc
      refine lv_iload hx hb dX6_history_71 (lv_at hl 4 rfl) ?_
      refine lv_iload_n hx hb dX6_history_73 rfl (lv_at hl 2 rfl) ?_
      refine lv_icmp_ne (tgt := 85) hx hb dX6_history_74 (by decide) (fun hc => ?_) (fun hc => ?_)
      · have h := h.1 hc
        obtain ⟨y85, e85⟩ : ∃ y : Int32, y = v4 + (1 : Int32) := ⟨_, rfl⟩
        have h := h y85 e85
        refine lv_iinc (v := y85) (lv' := [(4, .int y85), (0, .ref (Ad 0)), (1, .int v1), (2, .int v2), (3, .int v3), (5, .int v5)]) hx hb dX6_history_85 hl (k := 4) rfl (by rw [e85]; rfl) (by decide) rfl (fun ls hl => ?_)
        exact wk_X6_history_88 C hap hk52 h hP hS (lv_sub hl [1, 2, 3, 4, 0, 5] rfl)
      · have h := h.2 hc
        refine lv_aload_n hx hb dX6_history_77 rfl (lv_at hl 0 rfl) ?_
        refine lv_iload_n hx hb dX6_history_78 rfl (lv_at hl 3 rfl) ?_
        refine lv_iload hx hb dX6_history_79 (lv_at hl 5 rfl) ?_
        refine kWl (rnV C (ct_X6_valueOf l D cy Ad hap h) yv_X6_valueOf wq_1129 ⟨rfl, rfl⟩ ⟨Nat.le_of_ble_eq_true rfl, Nat.le_of_ble_eq_true rfl⟩ ⟨Nat.zero_le _, Nat.zero_le _⟩ (vM_model C hP) hP hl.1 rfl rfl (Nat.le_of_ble_eq_true rfl) dX6_history_81) hS (fun _ h => h) (fun r81 σ81 μ81 H locs h hP hk hS => ?_)
        exact endL C hS ⟨_, _, _, rfl, h, hP⟩ dX6_history_84
    · have h := h.2 hc
      refine lv_goto (tgt := 88) hx hb dX6_history_68 (by decide) ?_
      exact wk_X6_history_88 C hap hk52 h hP hS (lv_sub hl [0, 1, 2, 3, 4, 5] rfl)
def wl_X6_history_52 (Q : Int64 → Rg → Ar → Prop) (n : Nat) : Rg → Ar → Int32 → Int32 → Int32 → Int32 → Int32 → Prop := Nat.rec (motive := fun _ => Rg → Ar → Int32 → Int32 → Int32 → Int32 → Int32 → Prop) (fun _ _ _ _ _ _ _ => False) (fun _ k => wb_X6_history_52 Q k) n
set_option maxHeartbeats 4000000 in
theorem wkl_X6_history_52 {p : Program} {l : Launch} {e : Env} {s : State} {m : MethodId} {args : Array Value} {below : List Frame} {meth : Method} {c : Code} {D : va_G} {cy : ClassId} {Ad : Nat → Nat} (C : Cx p s m args meth c RX6 cX6_history 6 (some FieldType.long) D [(cy, .int)]) (hap : apt 8 Ad) {Q : Int64 → Rg → Ar → Prop}  : ∀ (n : Nat) {σ : Rg} {μ : Ar} {v1 : Int32} {v2 : Int32} {v3 : Int32} {v4 : Int32} {v5 : Int32} {H : Heap} {locs : List Loc} {ls : Array Slot} (h : wl_X6_history_52 Q  n σ μ v1 v2 v3 v4 v5) (hP : va_P D vwCl (wM Ad cy σ μ) H) (hS : va_S (AS 8 Ad) s.heap H locs) (hl : lv_has ls 6 [(0, .ref (Ad 0)), (1, .int v1), (2, .int v2), (3, .int v3), (4, .int v4), (5, .int v5)]), W p l e rmX6_history s m args below meth c H locs 0 0 (MQ below (Qcg (PWl (wM Ad cy) D Q) (AS 8 Ad)) args s 0 0 (AS 8 Ad)) (F0 m 52 ls []) := by
  intro n
  induction n with
  | zero => intro σ μ v1 v2 v3 v4 v5 H locs ls h; exact h.elim
  | succ n ih =>
    intro σ μ v1 v2 v3 v4 v5 H locs ls h hP hS hl
    exact wk_X6_history_52 C hap (fun h hP hS hl => ih h hP hS hl) h hP hS hl
def wp_X6_history (σ : Rg) (μ : Ar) (x1 : Int32) (x2 : Int32) (Q : Int64 → Rg → Ar → Prop) : Prop := ∀ σ2 : Rg, σ2 = upd σ 0 (0 : Int32) → (wp_X6_isOn σ2 μ  (fun r6 σ6 μ6 => ((r6 = 0 → wb_X6_history_25 Q σ6 μ6) ∧ (¬ r6 = 0 → wp_X6_isTag σ6 μ6 x1 (fun r14 σ14 μ14 => ((r14 = 0 → wb_X6_history_25 Q σ14 μ14) ∧ (¬ r14 = 0 → (((-1 : Int32) ≤ x2 → ∀ y35 : Int32, y35 = (μ14 0 3) → (wp_X6_reads σ14 μ14 y35 (fun σ38 μ38 => ∀ y50 : Int32, y50 = ((σ38 2) - (1 : Int32)) → (∃ n, wl_X6_history_52 Q n σ38 μ38 x1 x2 y35 (0 : Int32) y50)))) ∧ (¬ (-1 : Int32) ≤ x2 → wb_X6_history_25 Q σ14 μ14)))))))))
set_option maxHeartbeats 4000000 in
set_option maxRecDepth 100000 in
theorem ct_X6_history (l : Launch) (D : va_G) (cy : ClassId) (Ad : Nat → Nat) (hap : apt 8 Ad) {σ : Rg} {μ : Ar} {x1 : Int32} {x2 : Int32} {Q : Int64 → Rg → Ar → Prop} (h : wp_X6_history σ μ x1 x2 Q) : Ct l yX6_history cX6_history 6 (some FieldType.long) rmX6_history D [(cy, .int)] (fun H => va_P D vwCl (wM Ad cy σ μ) H) [.ref (Ad 0), .int x1, .int x2] (AS 8 Ad) (PWl (wM Ad cy) D Q) := by
  refine Ct.of (by decide) (Nat.le_of_ble_eq_true rfl) ?_
  intro p e s m below meth c ls C hP hl
  have hl : lv_has ls 6 [(0, .ref (Ad 0)), (1, .int x1), (2, .int x2)] := hl
  have hS : va_S (AS 8 Ad) s.heap s.heap [] := va_S.rf
  have hx := C.1
  have hb := C.2.1
  refine lv_aload_n hx hb dX6_history_0 rfl (lv_at hl 0 rfl) ?_
  refine lv_iconst (v := 0) hx hb dX6_history_1 (by decide) ?_
  refine pM_model_thrown C hap (fun _ h => h) hP hS (C.2.2.2.2.2.2.1 _ wq_926) dX6_history_2 (fun H locs hP hS => ?_)
  obtain ⟨σ2, e2⟩ : ∃ z : Rg, z = upd σ 0 (0 : Int32) := ⟨_, rfl⟩
  have hP : va_P D vwCl (wM Ad cy σ2 μ) H := by rw [e2]; exact hP
  have h := h σ2 e2
  refine lv_aload_n hx hb dX6_history_5 rfl (lv_at hl 0 rfl) ?_
  refine kWi (rnV C (ct_X6_isOn l D cy Ad hap h) yv_X6_isOn wq_981 ⟨rfl, rfl⟩ ⟨Nat.le_of_ble_eq_true rfl, Nat.le_of_ble_eq_true rfl⟩ ⟨Nat.zero_le _, Nat.zero_le _⟩ (vM_model C hP) hP hl.1 rfl rfl (Nat.le_of_ble_eq_true rfl) dX6_history_6) hS (fun _ h => h) (fun r6 σ6 μ6 H locs h hP hk hS => ?_)
  refine lv_if_eq (tgt := 25) hx hb dX6_history_9 (by decide) (fun hc => ?_) (fun hc => ?_)
  · have h := h.1 hc
    exact wk_X6_history_25 C hap h hP hS (lv_sub hl [] rfl)
  · have h := h.2 hc
    refine lv_aload_n hx hb dX6_history_12 rfl (lv_at hl 0 rfl) ?_
    refine lv_iload_n hx hb dX6_history_13 rfl (lv_at hl 1 rfl) ?_
    refine kWi (rnV C (ct_X6_isTag l D cy Ad hap h) yv_X6_isTag wq_1200 ⟨rfl, rfl⟩ ⟨Nat.le_of_ble_eq_true rfl, Nat.le_of_ble_eq_true rfl⟩ ⟨Nat.zero_le _, Nat.zero_le _⟩ (vM_model C hP) hP hl.1 rfl rfl (Nat.le_of_ble_eq_true rfl) dX6_history_14) hS (fun _ h => h) (fun r14 σ14 μ14 H locs h hP hk hS => ?_)
    refine lv_if_eq (tgt := 25) hx hb dX6_history_17 (by decide) (fun hc => ?_) (fun hc => ?_)
    · have h := h.1 hc
      exact wk_X6_history_25 C hap h hP hS (lv_sub hl [] rfl)
    · have h := h.2 hc
      refine lv_iload_n hx hb dX6_history_20 rfl (lv_at hl 2 rfl) ?_
      refine lv_iconst (v := -1) hx hb dX6_history_21 (by decide) ?_
      refine lv_icmp_ge (tgt := 29) hx hb dX6_history_22 (by decide) (fun hc => ?_) (fun hc => ?_)
      · have h := h.1 hc
        refine lv_aload_n hx hb dX6_history_29 rfl (lv_at hl 0 rfl) ?_
        refine gM_model_x C hP (C.2.2.2.2.2.2.1 _ wq_924) dX6_history_30 ?_
        refine lv_iconst (v := 3) hx hb dX6_history_33 (by decide) ?_
        refine lcM_0 C hP tc_3 vi_3_810 dX6_history_34 ?_
        refine lv_topi (fun y35 e35 => ?_)
        have h := h y35 e35
        refine lv_istore_n (lv' := [(3, .int y35), (0, .ref (Ad 0)), (1, .int x1), (2, .int x2)]) hx hb dX6_history_35 rfl hl (by decide) rfl (fun ls hl => ?_)
        refine lv_aload_n hx hb dX6_history_36 rfl (lv_at hl 1 rfl) ?_
        refine lv_iload_n hx hb dX6_history_37 rfl (lv_at hl 0 rfl) ?_
        refine kWv (rnV C (ct_X6_reads l D cy Ad hap h) yv_X6_reads wq_1036 ⟨rfl, rfl⟩ ⟨Nat.le_of_ble_eq_true rfl, Nat.le_of_ble_eq_true rfl⟩ ⟨Nat.zero_le _, Nat.zero_le _⟩ (vM_model C hP) hP hl.1 rfl rfl (Nat.le_of_ble_eq_true rfl) dX6_history_38) hS (fun _ h => h) (fun σ38 μ38 H locs h hP hk hS => ?_)
        refine lv_iconst (v := 0) hx hb dX6_history_41 (by decide) ?_
        refine lv_istore (lv' := [(4, .int (0 : Int32)), (3, .int y35), (0, .ref (Ad 0)), (1, .int x1), (2, .int x2)]) hx hb dX6_history_42 hl (by decide) rfl (fun ls hl => ?_)
        refine lv_aload_n hx hb dX6_history_44 rfl (lv_at hl 2 rfl) ?_
        refine gM_model_entries C hP (C.2.2.2.2.2.2.1 _ wq_928) dX6_history_45 ?_
        refine lv_iconst (v := 1) hx hb dX6_history_48 (by decide) ?_
        refine lv_isub hx hb dX6_history_49 ?_
        refine lv_topi (fun y50 e50 => ?_)
        have h := h y50 e50
        refine lv_istore (lv' := [(5, .int y50), (4, .int (0 : Int32)), (3, .int y35), (0, .ref (Ad 0)), (1, .int x1), (2, .int x2)]) hx hb dX6_history_50 hl (by decide) rfl (fun ls hl => ?_)
        obtain ⟨n, h⟩ := h
        exact wkl_X6_history_52 C hap n h hP hS (lv_sub hl [3, 4, 5, 2, 1, 0] rfl)
      · have h := h.2 hc
        exact wk_X6_history_25 C hap h hP hS (lv_sub hl [] rfl)
abbrev rmX6_extreme : Room := { frames := 0, cells := 0, slots := 0, locals := 0 }
def wb_X6_extreme_65 (Q : Int32 → Rg → Ar → Prop) (k4 : Rg → Ar → Int32 → Int32 → Int32 → Prop) (σ : Rg) (μ : Ar) (v1 : Int32) (v2 : Int32) (v3 : Int32) : Prop := ∀ y65 : Int32, y65 = v3 + (1 : Int32) → (k4 σ μ v1 v2 y65)
set_option maxHeartbeats 4000000 in
set_option maxRecDepth 100000 in
theorem wk_X6_extreme_65 {p : Program} {l : Launch} {e : Env} {s : State} {m : MethodId} {args : Array Value} {below : List Frame} {meth : Method} {c : Code} {D : va_G} {cy : ClassId} {Ad : Nat → Nat} (C : Cx p s m args meth c RX6 cX6_extreme 4 (some FieldType.int) D [(cy, .int)]) (hap : apt 8 Ad) {Q : Int32 → Rg → Ar → Prop} {k4 : Rg → Ar → Int32 → Int32 → Int32 → Prop} (hk4 : ∀ {σ : Rg} {μ : Ar} {v1 : Int32} {v2 : Int32} {v3 : Int32} {H : Heap} {locs : List Loc} {ls : Array Slot}, k4 σ μ v1 v2 v3 → va_P D vwCl (wM Ad cy σ μ) H → va_S (AS 8 Ad) s.heap H locs → lv_has ls 4 [(0, .ref (Ad 0)), (1, .int v1), (2, .int v2), (3, .int v3)] → W p l e rmX6_extreme s m args below meth c H locs 0 0 (MQ below (Qcg (PWi (wM Ad cy) D Q) (AS 8 Ad)) args s 0 0 (AS 8 Ad)) (F0 m 4 ls [])) {σ : Rg} {μ : Ar} {v1 : Int32} {v2 : Int32} {v3 : Int32} {H : Heap} {locs : List Loc} {ls : Array Slot} (h : wb_X6_extreme_65 Q k4 σ μ v1 v2 v3) (hP : va_P D vwCl (wM Ad cy σ μ) H) (hS : va_S (AS 8 Ad) s.heap H locs) (hl : lv_has ls 4 [(0, .ref (Ad 0)), (1, .int v1), (2, .int v2), (3, .int v3)]) : W p l e rmX6_extreme s m args below meth c H locs 0 0 (MQ below (Qcg (PWi (wM Ad cy) D Q) (AS 8 Ad)) args s 0 0 (AS 8 Ad)) (F0 m 65 ls []) := by
  have hx := C.1
  have hb := C.2.1
  obtain ⟨y65, e65⟩ : ∃ y : Int32, y = v3 + (1 : Int32) := ⟨_, rfl⟩
  have h := h y65 e65
  refine lv_iinc (v := y65) (lv' := [(3, .int y65), (0, .ref (Ad 0)), (1, .int v1), (2, .int v2)]) hx hb dX6_extreme_65 hl (k := 3) rfl (by rw [e65]; rfl) (by decide) rfl (fun ls hl => ?_)
  refine lv_goto (tgt := 4) hx hb dX6_extreme_68 (by decide) ?_
  exact hk4 h hP hS (lv_sub hl [1, 2, 3, 0] rfl)
def wb_X6_extreme_63 (Q : Int32 → Rg → Ar → Prop) (k4 : Rg → Ar → Int32 → Int32 → Int32 → Prop) (σ : Rg) (μ : Ar) (v1 : Int32) (v3 : Int32) : Prop := wb_X6_extreme_65 Q k4 σ μ v1 v3 v3
set_option maxHeartbeats 4000000 in
set_option maxRecDepth 100000 in
theorem wk_X6_extreme_63 {p : Program} {l : Launch} {e : Env} {s : State} {m : MethodId} {args : Array Value} {below : List Frame} {meth : Method} {c : Code} {D : va_G} {cy : ClassId} {Ad : Nat → Nat} (C : Cx p s m args meth c RX6 cX6_extreme 4 (some FieldType.int) D [(cy, .int)]) (hap : apt 8 Ad) {Q : Int32 → Rg → Ar → Prop} {k4 : Rg → Ar → Int32 → Int32 → Int32 → Prop} (hk4 : ∀ {σ : Rg} {μ : Ar} {v1 : Int32} {v2 : Int32} {v3 : Int32} {H : Heap} {locs : List Loc} {ls : Array Slot}, k4 σ μ v1 v2 v3 → va_P D vwCl (wM Ad cy σ μ) H → va_S (AS 8 Ad) s.heap H locs → lv_has ls 4 [(0, .ref (Ad 0)), (1, .int v1), (2, .int v2), (3, .int v3)] → W p l e rmX6_extreme s m args below meth c H locs 0 0 (MQ below (Qcg (PWi (wM Ad cy) D Q) (AS 8 Ad)) args s 0 0 (AS 8 Ad)) (F0 m 4 ls [])) {σ : Rg} {μ : Ar} {v1 : Int32} {v3 : Int32} {H : Heap} {locs : List Loc} {ls : Array Slot} (h : wb_X6_extreme_63 Q k4 σ μ v1 v3) (hP : va_P D vwCl (wM Ad cy σ μ) H) (hS : va_S (AS 8 Ad) s.heap H locs) (hl : lv_has ls 4 [(0, .ref (Ad 0)), (1, .int v1), (3, .int v3)]) : W p l e rmX6_extreme s m args below meth c H locs 0 0 (MQ below (Qcg (PWi (wM Ad cy) D Q) (AS 8 Ad)) args s 0 0 (AS 8 Ad)) (F0 m 63 ls []) := by
  have hx := C.1
  have hb := C.2.1
  refine lv_iload_n hx hb dX6_extreme_63 rfl (lv_at hl 2 rfl) ?_
  refine lv_istore_n (lv' := [(2, .int v3), (0, .ref (Ad 0)), (1, .int v1), (3, .int v3)]) hx hb dX6_extreme_64 rfl hl (by decide) rfl (fun ls hl => ?_)
  exact wk_X6_extreme_65 C hap hk4 h hP hS (lv_sub hl [1, 2, 0, 3] rfl)
def wb_X6_extreme_4 (Q : Int32 → Rg → Ar → Prop) (k4 : Rg → Ar → Int32 → Int32 → Int32 → Prop) (σ : Rg) (μ : Ar) (v1 : Int32) (v2 : Int32) (v3 : Int32) : Prop := (((μ 0 0) ≤ v3 → (vp_in ((36 : Int32) + v2) 810) ∧ (Q (μ 0 (((36 : Int32) + v2)).toNatClampNeg) σ μ)) ∧ (¬ (μ 0 0) ≤ v3 → ((v1 = 0 → (vp_in ((36 : Int32) + v3) 810) ∧ ((vp_in ((36 : Int32) + v2) 810) ∧ ((((μ 0 (((36 : Int32) + v2)).toNatClampNeg) ≤ (μ 0 (((36 : Int32) + v3)).toNatClampNeg) → wb_X6_extreme_65 Q k4 σ μ v1 v2 v3) ∧ (¬ (μ 0 (((36 : Int32) + v2)).toNatClampNeg) ≤ (μ 0 (((36 : Int32) + v3)).toNatClampNeg) → wb_X6_extreme_63 Q k4 σ μ v1 v3))))) ∧ (¬ v1 = 0 → (vp_in ((36 : Int32) + v3) 810) ∧ ((vp_in ((36 : Int32) + v2) 810) ∧ ((((μ 0 (((36 : Int32) + v3)).toNatClampNeg) ≤ (μ 0 (((36 : Int32) + v2)).toNatClampNeg) → wb_X6_extreme_65 Q k4 σ μ v1 v2 v3) ∧ (¬ (μ 0 (((36 : Int32) + v3)).toNatClampNeg) ≤ (μ 0 (((36 : Int32) + v2)).toNatClampNeg) → wb_X6_extreme_63 Q k4 σ μ v1 v3))))))))
set_option maxHeartbeats 4000000 in
set_option maxRecDepth 100000 in
theorem wk_X6_extreme_4 {p : Program} {l : Launch} {e : Env} {s : State} {m : MethodId} {args : Array Value} {below : List Frame} {meth : Method} {c : Code} {D : va_G} {cy : ClassId} {Ad : Nat → Nat} (C : Cx p s m args meth c RX6 cX6_extreme 4 (some FieldType.int) D [(cy, .int)]) (hap : apt 8 Ad) {Q : Int32 → Rg → Ar → Prop} {k4 : Rg → Ar → Int32 → Int32 → Int32 → Prop} (hk4 : ∀ {σ : Rg} {μ : Ar} {v1 : Int32} {v2 : Int32} {v3 : Int32} {H : Heap} {locs : List Loc} {ls : Array Slot}, k4 σ μ v1 v2 v3 → va_P D vwCl (wM Ad cy σ μ) H → va_S (AS 8 Ad) s.heap H locs → lv_has ls 4 [(0, .ref (Ad 0)), (1, .int v1), (2, .int v2), (3, .int v3)] → W p l e rmX6_extreme s m args below meth c H locs 0 0 (MQ below (Qcg (PWi (wM Ad cy) D Q) (AS 8 Ad)) args s 0 0 (AS 8 Ad)) (F0 m 4 ls [])) {σ : Rg} {μ : Ar} {v1 : Int32} {v2 : Int32} {v3 : Int32} {H : Heap} {locs : List Loc} {ls : Array Slot} (h : wb_X6_extreme_4 Q k4 σ μ v1 v2 v3) (hP : va_P D vwCl (wM Ad cy σ μ) H) (hS : va_S (AS 8 Ad) s.heap H locs) (hl : lv_has ls 4 [(0, .ref (Ad 0)), (1, .int v1), (2, .int v2), (3, .int v3)]) : W p l e rmX6_extreme s m args below meth c H locs 0 0 (MQ below (Qcg (PWi (wM Ad cy) D Q) (AS 8 Ad)) args s 0 0 (AS 8 Ad)) (F0 m 4 ls []) := by
  have hx := C.1
  have hb := C.2.1
  refine lv_iload_n hx hb dX6_extreme_4 rfl (lv_at hl 3 rfl) ?_
  refine lv_aload_n hx hb dX6_extreme_5 rfl (lv_at hl 0 rfl) ?_
  refine gM_model_x C hP (C.2.2.2.2.2.2.1 _ wq_924) dX6_extreme_6 ?_
  refine lv_iconst (v := 0) hx hb dX6_extreme_9 (by decide) ?_
  refine lcM_0 C hP tc_0 vi_0_810 dX6_extreme_10 ?_
  refine lv_icmp_ge (tgt := 71) hx hb dX6_extreme_11 (by decide) (fun hc => ?_) (fun hc => ?_)
  · have h := h.1 hc
    refine lv_aload_n hx hb dX6_extreme_71 rfl (lv_at hl 0 rfl) ?_
    refine gM_model_x C hP (C.2.2.2.2.2.2.1 _ wq_924) dX6_extreme_72 ?_
    refine lv_bipush (v := 36) hx hb dX6_extreme_75 (by decide) ?_
    refine lv_iload_n hx hb dX6_extreme_77 rfl (lv_at hl 2 rfl) ?_
    refine lv_iadd hx hb dX6_extreme_78 ?_
    obtain ⟨hc, h⟩ := h
    refine lM_0 C hP hc dX6_extreme_79 ?_
    exact endI C hS ⟨_, _, _, rfl, h, hP⟩ dX6_extreme_80
  · have h := h.2 hc
    refine lv_iload_n hx hb dX6_extreme_14 rfl (lv_at hl 1 rfl) ?_
    refine lv_if_eq (tgt := 42) hx hb dX6_extreme_15 (by decide) (fun hc => ?_) (fun hc => ?_)
    · have h := h.1 hc
      refine lv_aload_n hx hb dX6_extreme_42 rfl (lv_at hl 0 rfl) ?_
      refine gM_model_x C hP (C.2.2.2.2.2.2.1 _ wq_924) dX6_extreme_43 ?_
      refine lv_bipush (v := 36) hx hb dX6_extreme_46 (by decide) ?_
      refine lv_iload_n hx hb dX6_extreme_48 rfl (lv_at hl 3 rfl) ?_
      refine lv_iadd hx hb dX6_extreme_49 ?_
      obtain ⟨hc, h⟩ := h
      refine lM_0 C hP hc dX6_extreme_50 ?_
      refine lv_aload_n hx hb dX6_extreme_51 rfl (lv_at hl 0 rfl) ?_
      refine gM_model_x C hP (C.2.2.2.2.2.2.1 _ wq_924) dX6_extreme_52 ?_
      refine lv_bipush (v := 36) hx hb dX6_extreme_55 (by decide) ?_
      refine lv_iload_n hx hb dX6_extreme_57 rfl (lv_at hl 2 rfl) ?_
      refine lv_iadd hx hb dX6_extreme_58 ?_
      obtain ⟨hc, h⟩ := h
      refine lM_0 C hP hc dX6_extreme_59 ?_
      refine lv_icmp_ge (tgt := 65) hx hb dX6_extreme_60 (by decide) (fun hc => ?_) (fun hc => ?_)
      · have h := h.1 hc
        exact wk_X6_extreme_65 C hap hk4 h hP hS (lv_sub hl [0, 1, 2, 3] rfl)
      · have h := h.2 hc
        exact wk_X6_extreme_63 C hap hk4 h hP hS (lv_sub hl [0, 1, 3] rfl)
    · have h := h.2 hc
      refine lv_aload_n hx hb dX6_extreme_18 rfl (lv_at hl 0 rfl) ?_
      refine gM_model_x C hP (C.2.2.2.2.2.2.1 _ wq_924) dX6_extreme_19 ?_
      refine lv_bipush (v := 36) hx hb dX6_extreme_22 (by decide) ?_
      refine lv_iload_n hx hb dX6_extreme_24 rfl (lv_at hl 3 rfl) ?_
      refine lv_iadd hx hb dX6_extreme_25 ?_
      obtain ⟨hc, h⟩ := h
      refine lM_0 C hP hc dX6_extreme_26 ?_
      refine lv_aload_n hx hb dX6_extreme_27 rfl (lv_at hl 0 rfl) ?_
      refine gM_model_x C hP (C.2.2.2.2.2.2.1 _ wq_924) dX6_extreme_28 ?_
      refine lv_bipush (v := 36) hx hb dX6_extreme_31 (by decide) ?_
      refine lv_iload_n hx hb dX6_extreme_33 rfl (lv_at hl 2 rfl) ?_
      refine lv_iadd hx hb dX6_extreme_34 ?_
      obtain ⟨hc, h⟩ := h
      refine lM_0 C hP hc dX6_extreme_35 ?_
      refine lv_icmp_le (tgt := 65) hx hb dX6_extreme_36 (by decide) (fun hc => ?_) (fun hc => ?_)
      · have h := h.1 hc
        exact wk_X6_extreme_65 C hap hk4 h hP hS (lv_sub hl [0, 1, 2, 3] rfl)
      · have h := h.2 hc
        refine lv_goto (tgt := 63) hx hb dX6_extreme_39 (by decide) ?_
        exact wk_X6_extreme_63 C hap hk4 h hP hS (lv_sub hl [0, 1, 3] rfl)
def wl_X6_extreme_4 (Q : Int32 → Rg → Ar → Prop) (n : Nat) : Rg → Ar → Int32 → Int32 → Int32 → Prop := Nat.rec (motive := fun _ => Rg → Ar → Int32 → Int32 → Int32 → Prop) (fun _ _ _ _ _ => False) (fun _ k => wb_X6_extreme_4 Q k) n
set_option maxHeartbeats 4000000 in
theorem wkl_X6_extreme_4 {p : Program} {l : Launch} {e : Env} {s : State} {m : MethodId} {args : Array Value} {below : List Frame} {meth : Method} {c : Code} {D : va_G} {cy : ClassId} {Ad : Nat → Nat} (C : Cx p s m args meth c RX6 cX6_extreme 4 (some FieldType.int) D [(cy, .int)]) (hap : apt 8 Ad) {Q : Int32 → Rg → Ar → Prop}  : ∀ (n : Nat) {σ : Rg} {μ : Ar} {v1 : Int32} {v2 : Int32} {v3 : Int32} {H : Heap} {locs : List Loc} {ls : Array Slot} (h : wl_X6_extreme_4 Q  n σ μ v1 v2 v3) (hP : va_P D vwCl (wM Ad cy σ μ) H) (hS : va_S (AS 8 Ad) s.heap H locs) (hl : lv_has ls 4 [(0, .ref (Ad 0)), (1, .int v1), (2, .int v2), (3, .int v3)]), W p l e rmX6_extreme s m args below meth c H locs 0 0 (MQ below (Qcg (PWi (wM Ad cy) D Q) (AS 8 Ad)) args s 0 0 (AS 8 Ad)) (F0 m 4 ls []) := by
  intro n
  induction n with
  | zero => intro σ μ v1 v2 v3 H locs ls h; exact h.elim
  | succ n ih =>
    intro σ μ v1 v2 v3 H locs ls h hP hS hl
    exact wk_X6_extreme_4 C hap (fun h hP hS hl => ih h hP hS hl) h hP hS hl
def wp_X6_extreme (σ : Rg) (μ : Ar) (x1 : Int32) (Q : Int32 → Rg → Ar → Prop) : Prop := ∃ n, wl_X6_extreme_4 Q n σ μ x1 (0 : Int32) (1 : Int32)
set_option maxHeartbeats 4000000 in
set_option maxRecDepth 100000 in
theorem ct_X6_extreme (l : Launch) (D : va_G) (cy : ClassId) (Ad : Nat → Nat) (hap : apt 8 Ad) {σ : Rg} {μ : Ar} {x1 : Int32} {Q : Int32 → Rg → Ar → Prop} (h : wp_X6_extreme σ μ x1 Q) : Ct l yX6_extreme cX6_extreme 4 (some FieldType.int) rmX6_extreme D [(cy, .int)] (fun H => va_P D vwCl (wM Ad cy σ μ) H) [.ref (Ad 0), .int x1] (AS 8 Ad) (PWi (wM Ad cy) D Q) := by
  refine Ct.of (by decide) (Nat.le_of_ble_eq_true rfl) ?_
  intro p e s m below meth c ls C hP hl
  have hl : lv_has ls 4 [(0, .ref (Ad 0)), (1, .int x1)] := hl
  have hS : va_S (AS 8 Ad) s.heap s.heap [] := va_S.rf
  have hx := C.1
  have hb := C.2.1
  refine lv_iconst (v := 0) hx hb dX6_extreme_0 (by decide) ?_
  refine lv_istore_n (lv' := [(2, .int (0 : Int32)), (0, .ref (Ad 0)), (1, .int x1)]) hx hb dX6_extreme_1 rfl hl (by decide) rfl (fun ls hl => ?_)
  refine lv_iconst (v := 1) hx hb dX6_extreme_2 (by decide) ?_
  refine lv_istore_n (lv' := [(3, .int (1 : Int32)), (2, .int (0 : Int32)), (0, .ref (Ad 0)), (1, .int x1)]) hx hb dX6_extreme_3 rfl hl (by decide) rfl (fun ls hl => ?_)
  obtain ⟨n, h⟩ := h
  exact wkl_X6_extreme_4 C hap n h hP hS (lv_sub hl [2, 3, 1, 0] rfl)
abbrev rmX6_wears : Room := { frames := 2, cells := 0, slots := 0, locals := 45 }
def wb_X6_wears_32 (Q : Int32 → Rg → Ar → Prop) (σ : Rg) (μ : Ar) : Prop := Q (-1 : Int32) σ μ
set_option maxHeartbeats 4000000 in
set_option maxRecDepth 100000 in
theorem wk_X6_wears_32 {p : Program} {l : Launch} {e : Env} {s : State} {m : MethodId} {args : Array Value} {below : List Frame} {meth : Method} {c : Code} {D : va_G} {cy : ClassId} {Ad : Nat → Nat} (C : Cx p s m args meth c RX6 cX6_wears 7 (some FieldType.int) D [(cy, .int)]) (hap : apt 8 Ad) {Q : Int32 → Rg → Ar → Prop} {σ : Rg} {μ : Ar}  {H : Heap} {locs : List Loc} {ls : Array Slot} (h : wb_X6_wears_32 Q σ μ) (hP : va_P D vwCl (wM Ad cy σ μ) H) (hS : va_S (AS 8 Ad) s.heap H locs) (hl : lv_has ls 7 []) : W p l e rmX6_wears s m args below meth c H locs 0 0 (MQ below (Qcg (PWi (wM Ad cy) D Q) (AS 8 Ad)) args s 0 0 (AS 8 Ad)) (F0 m 32 ls []) := by
  have hx := C.1
  have hb := C.2.1
  refine lv_iconst (v := -1) hx hb dX6_wears_32 (by decide) ?_
  exact endI C hS ⟨_, _, _, rfl, h, hP⟩ dX6_wears_33
def wb_X6_wears_206 (Q : Int32 → Rg → Ar → Prop) (σ : Rg) (μ : Ar) (t0 : Int32) : Prop := wp_X6_putsBack σ μ  (fun σ209 μ209 => Q t0 σ209 μ209)
set_option maxHeartbeats 4000000 in
set_option maxRecDepth 100000 in
theorem wk_X6_wears_206 {p : Program} {l : Launch} {e : Env} {s : State} {m : MethodId} {args : Array Value} {below : List Frame} {meth : Method} {c : Code} {D : va_G} {cy : ClassId} {Ad : Nat → Nat} (C : Cx p s m args meth c RX6 cX6_wears 7 (some FieldType.int) D [(cy, .int)]) (hap : apt 8 Ad) {Q : Int32 → Rg → Ar → Prop} {σ : Rg} {μ : Ar} {t0 : Int32} {H : Heap} {locs : List Loc} {ls : Array Slot} (h : wb_X6_wears_206 Q σ μ t0) (hP : va_P D vwCl (wM Ad cy σ μ) H) (hS : va_S (AS 8 Ad) s.heap H locs) (hl : lv_has ls 7 [(0, .ref (Ad 0))]) : W p l e rmX6_wears s m args below meth c H locs 0 0 (MQ below (Qcg (PWi (wM Ad cy) D Q) (AS 8 Ad)) args s 0 0 (AS 8 Ad)) (F0 m 206 ls [.int t0]) := by
  have hx := C.1
  have hb := C.2.1
  refine lv_istore (lv' := [(4, .int t0), (0, .ref (Ad 0))]) hx hb dX6_wears_206 hl (by decide) rfl (fun ls hl => ?_)
  refine lv_aload_n hx hb dX6_wears_208 rfl (lv_at hl 1 rfl) ?_
  refine kWv (rnV C (ct_X6_putsBack l D cy Ad hap h) yv_X6_putsBack wq_1253 ⟨rfl, rfl⟩ ⟨Nat.le_of_ble_eq_true rfl, Nat.le_of_ble_eq_true rfl⟩ ⟨Nat.zero_le _, Nat.zero_le _⟩ (vM_model C hP) hP hl.1 rfl rfl (Nat.le_of_ble_eq_true rfl) dX6_wears_209) hS (fun _ h => h) (fun σ209 μ209 H locs h hP hk hS => ?_)
  refine lv_iload hx hb dX6_wears_212 (lv_at hl 0 rfl) ?_
  exact endI C hS ⟨_, _, _, rfl, h, hP⟩ dX6_wears_214
def wb_X6_wears_203 (Q : Int32 → Rg → Ar → Prop) (σ : Rg) (μ : Ar) (t0 : Int32) : Prop := wp_X6_extreme σ μ t0 (fun r203 σ203 μ203 => wb_X6_wears_206 Q σ203 μ203 r203)
set_option maxHeartbeats 4000000 in
set_option maxRecDepth 100000 in
theorem wk_X6_wears_203 {p : Program} {l : Launch} {e : Env} {s : State} {m : MethodId} {args : Array Value} {below : List Frame} {meth : Method} {c : Code} {D : va_G} {cy : ClassId} {Ad : Nat → Nat} (C : Cx p s m args meth c RX6 cX6_wears 7 (some FieldType.int) D [(cy, .int)]) (hap : apt 8 Ad) {Q : Int32 → Rg → Ar → Prop} {σ : Rg} {μ : Ar} {t0 : Int32} {H : Heap} {locs : List Loc} {ls : Array Slot} (h : wb_X6_wears_203 Q σ μ t0) (hP : va_P D vwCl (wM Ad cy σ μ) H) (hS : va_S (AS 8 Ad) s.heap H locs) (hl : lv_has ls 7 [(0, .ref (Ad 0))]) : W p l e rmX6_wears s m args below meth c H locs 0 0 (MQ below (Qcg (PWi (wM Ad cy) D Q) (AS 8 Ad)) args s 0 0 (AS 8 Ad)) (F0 m 203 ls [.int t0, .ref (Ad 0)]) := by
  have hx := C.1
  have hb := C.2.1
  refine kWi (rnV C (ct_X6_extreme l D cy Ad hap h) yv_X6_extreme wq_1274 ⟨rfl, rfl⟩ ⟨Nat.le_of_ble_eq_true rfl, Nat.le_of_ble_eq_true rfl⟩ ⟨Nat.zero_le _, Nat.zero_le _⟩ (vM_model C hP) hP hl.1 rfl rfl (Nat.le_of_ble_eq_true rfl) dX6_wears_203) hS (fun _ h => h) (fun r203 σ203 μ203 H locs h hP hk hS => ?_)
  exact wk_X6_wears_206 C hap h hP hS (lv_sub hl [0] rfl)
def wb_X6_wears_126 (Q : Int32 → Rg → Ar → Prop) (k48 : Rg → Ar → Int32 → Int32 → Int32 → Int32 → Prop) (k126 : Rg → Ar → Int32 → Int32 → Int32 → Int32 → Int32 → Int32 → Prop) (σ : Rg) (μ : Ar) (v1 : Int32) (v2 : Int32) (v3 : Int32) (v4 : Int32) (v5 : Int32) (v6 : Int32) : Prop := (((μ 0 1) ≤ v6 → (vp_in ((36 : Int32) + v3) 810) ∧ ((vp_in ((36 : Int32) + v3) 810) ∧ (∀ μ174 : Ar, μ174 = updA μ 0 (upd (μ 0) (((36 : Int32) + v3)).toNatClampNeg ((μ 0 (((36 : Int32) + v3)).toNatClampNeg) + (1 : Int32))) → (∀ y178 : Int32, y178 = v4 + (1 : Int32) → (k48 σ μ174 v1 v2 v5 y178))))) ∧ (¬ (μ 0 1) ≤ v6 → (vp_in (((42 : Int32) + ((128 : Int32) * v3)) + v6) 810) ∧ (∀ μ155 : Ar, μ155 = updA μ 0 (upd (μ 0) ((((42 : Int32) + ((128 : Int32) * v3)) + v6)).toNatClampNeg (255 : Int32)) → (∀ y156 : Int32, y156 = v6 + (1 : Int32) → (k126 σ μ155 v1 v2 v3 v4 v5 y156)))))
set_option maxHeartbeats 4000000 in
set_option maxRecDepth 100000 in
theorem wk_X6_wears_126 {p : Program} {l : Launch} {e : Env} {s : State} {m : MethodId} {args : Array Value} {below : List Frame} {meth : Method} {c : Code} {D : va_G} {cy : ClassId} {Ad : Nat → Nat} (C : Cx p s m args meth c RX6 cX6_wears 7 (some FieldType.int) D [(cy, .int)]) (hap : apt 8 Ad) {Q : Int32 → Rg → Ar → Prop} {k48 : Rg → Ar → Int32 → Int32 → Int32 → Int32 → Prop} {k126 : Rg → Ar → Int32 → Int32 → Int32 → Int32 → Int32 → Int32 → Prop} (hk48 : ∀ {σ : Rg} {μ : Ar} {v1 : Int32} {v2 : Int32} {v3 : Int32} {v4 : Int32} {H : Heap} {locs : List Loc} {ls : Array Slot}, k48 σ μ v1 v2 v3 v4 → va_P D vwCl (wM Ad cy σ μ) H → va_S (AS 8 Ad) s.heap H locs → lv_has ls 7 [(0, .ref (Ad 0)), (1, .int v1), (2, .int v2), (3, .int v3), (4, .int v4)] → W p l e rmX6_wears s m args below meth c H locs 0 0 (MQ below (Qcg (PWi (wM Ad cy) D Q) (AS 8 Ad)) args s 0 0 (AS 8 Ad)) (F0 m 48 ls [])) (hk126 : ∀ {σ : Rg} {μ : Ar} {v1 : Int32} {v2 : Int32} {v3 : Int32} {v4 : Int32} {v5 : Int32} {v6 : Int32} {H : Heap} {locs : List Loc} {ls : Array Slot}, k126 σ μ v1 v2 v3 v4 v5 v6 → va_P D vwCl (wM Ad cy σ μ) H → va_S (AS 8 Ad) s.heap H locs → lv_has ls 7 [(0, .ref (Ad 0)), (1, .int v1), (2, .int v2), (3, .int v3), (4, .int v4), (5, .int v5), (6, .int v6)] → W p l e rmX6_wears s m args below meth c H locs 0 0 (MQ below (Qcg (PWi (wM Ad cy) D Q) (AS 8 Ad)) args s 0 0 (AS 8 Ad)) (F0 m 126 ls [])) {σ : Rg} {μ : Ar} {v1 : Int32} {v2 : Int32} {v3 : Int32} {v4 : Int32} {v5 : Int32} {v6 : Int32} {H : Heap} {locs : List Loc} {ls : Array Slot} (h : wb_X6_wears_126 Q k48 k126 σ μ v1 v2 v3 v4 v5 v6) (hP : va_P D vwCl (wM Ad cy σ μ) H) (hS : va_S (AS 8 Ad) s.heap H locs) (hl : lv_has ls 7 [(0, .ref (Ad 0)), (1, .int v1), (2, .int v2), (3, .int v3), (4, .int v4), (5, .int v5), (6, .int v6)]) : W p l e rmX6_wears s m args below meth c H locs 0 0 (MQ below (Qcg (PWi (wM Ad cy) D Q) (AS 8 Ad)) args s 0 0 (AS 8 Ad)) (F0 m 126 ls []) := by
  have hx := C.1
  have hb := C.2.1
  refine lv_iload hx hb dX6_wears_126 (lv_at hl 6 rfl) ?_
  refine lv_aload_n hx hb dX6_wears_128 rfl (lv_at hl 0 rfl) ?_
  refine gM_model_x C hP (C.2.2.2.2.2.2.1 _ wq_924) dX6_wears_129 ?_
  refine lv_iconst (v := 1) hx hb dX6_wears_132 (by decide) ?_
  refine lcM_0 C hP tc_1 vi_1_810 dX6_wears_133 ?_
  refine lv_icmp_ge (tgt := 162) hx hb dX6_wears_134 (by decide) (fun hc => ?_) (fun hc => ?_)
  · have h := h.1 hc
    refine lv_aload_n hx hb dX6_wears_162 rfl (lv_at hl 0 rfl) ?_
    refine gM_model_x C hP (C.2.2.2.2.2.2.1 _ wq_924) dX6_wears_163 ?_
    refine lv_bipush (v := 36) hx hb dX6_wears_166 (by decide) ?_
    refine lv_iload_n hx hb dX6_wears_168 rfl (lv_at hl 3 rfl) ?_
    refine lv_iadd hx hb dX6_wears_169 ?_
    refine lv_dup2_11 hx hb dX6_wears_170 rfl rfl ?_
    obtain ⟨hc, h⟩ := h
    refine lM_0 C hP hc dX6_wears_171 ?_
    refine lv_iconst (v := 1) hx hb dX6_wears_172 (by decide) ?_
    refine lv_iadd hx hb dX6_wears_173 ?_
    obtain ⟨hc, h⟩ := h
    refine sM_0 C hap (fun _ h => h) hP hS hc dX6_wears_174 (fun H locs hP hS => ?_)
    obtain ⟨μ174, e174⟩ : ∃ z : Ar, z = updA μ 0 (upd (μ 0) (((36 : Int32) + v3)).toNatClampNeg ((μ 0 (((36 : Int32) + v3)).toNatClampNeg) + (1 : Int32))) := ⟨_, rfl⟩
    have hP : va_P D vwCl (wM Ad cy σ μ174) H := by rw [e174]; exact hP
    have h := h μ174 e174
    refine lv_iload hx hb dX6_wears_175 (lv_at hl 5 rfl) ?_
    refine lv_istore_n (lv' := [(3, .int v5), (0, .ref (Ad 0)), (1, .int v1), (2, .int v2), (4, .int v4), (5, .int v5), (6, .int v6)]) hx hb dX6_wears_177 rfl hl (by decide) rfl (fun ls hl => ?_)
    obtain ⟨y178, e178⟩ : ∃ y : Int32, y = v4 + (1 : Int32) := ⟨_, rfl⟩
    have h := h y178 e178
    refine lv_iinc (v := y178) (lv' := [(4, .int y178), (3, .int v5), (0, .ref (Ad 0)), (1, .int v1), (2, .int v2), (5, .int v5), (6, .int v6)]) hx hb dX6_wears_178 hl (k := 4) rfl (by rw [e178]; rfl) (by decide) rfl (fun ls hl => ?_)
    refine lv_goto (tgt := 48) hx hb dX6_wears_181 (by decide) ?_
    exact hk48 h hP hS (lv_sub hl [2, 3, 4, 1, 0] rfl)
  · have h := h.2 hc
    refine lv_aload_n hx hb dX6_wears_137 rfl (lv_at hl 0 rfl) ?_
    refine gM_model_x C hP (C.2.2.2.2.2.2.1 _ wq_924) dX6_wears_138 ?_
    refine lv_bipush (v := 42) hx hb dX6_wears_141 (by decide) ?_
    refine lv_sipush (v := 128) hx hb dX6_wears_143 (by decide) ?_
    refine lv_iload_n hx hb dX6_wears_146 rfl (lv_at hl 3 rfl) ?_
    refine lv_imul hx hb dX6_wears_147 ?_
    refine lv_iadd hx hb dX6_wears_148 ?_
    refine lv_iload hx hb dX6_wears_149 (lv_at hl 6 rfl) ?_
    refine lv_iadd hx hb dX6_wears_151 ?_
    refine lv_sipush (v := 255) hx hb dX6_wears_152 (by decide) ?_
    obtain ⟨hc, h⟩ := h
    refine sM_0 C hap (fun _ h => h) hP hS hc dX6_wears_155 (fun H locs hP hS => ?_)
    obtain ⟨μ155, e155⟩ : ∃ z : Ar, z = updA μ 0 (upd (μ 0) ((((42 : Int32) + ((128 : Int32) * v3)) + v6)).toNatClampNeg (255 : Int32)) := ⟨_, rfl⟩
    have hP : va_P D vwCl (wM Ad cy σ μ155) H := by rw [e155]; exact hP
    have h := h μ155 e155
    obtain ⟨y156, e156⟩ : ∃ y : Int32, y = v6 + (1 : Int32) := ⟨_, rfl⟩
    have h := h y156 e156
    refine lv_iinc (v := y156) (lv' := [(6, .int y156), (0, .ref (Ad 0)), (1, .int v1), (2, .int v2), (3, .int v3), (4, .int v4), (5, .int v5)]) hx hb dX6_wears_156 hl (k := 6) rfl (by rw [e156]; rfl) (by decide) rfl (fun ls hl => ?_)
    refine lv_goto (tgt := 126) hx hb dX6_wears_159 (by decide) ?_
    exact hk126 h hP hS (lv_sub hl [1, 2, 3, 4, 5, 6, 0] rfl)
def wl_X6_wears_126 (Q : Int32 → Rg → Ar → Prop) (k48 : Rg → Ar → Int32 → Int32 → Int32 → Int32 → Prop) (n : Nat) : Rg → Ar → Int32 → Int32 → Int32 → Int32 → Int32 → Int32 → Prop := Nat.rec (motive := fun _ => Rg → Ar → Int32 → Int32 → Int32 → Int32 → Int32 → Int32 → Prop) (fun _ _ _ _ _ _ _ _ => False) (fun _ k => wb_X6_wears_126 Q k48 k) n
set_option maxHeartbeats 4000000 in
theorem wkl_X6_wears_126 {p : Program} {l : Launch} {e : Env} {s : State} {m : MethodId} {args : Array Value} {below : List Frame} {meth : Method} {c : Code} {D : va_G} {cy : ClassId} {Ad : Nat → Nat} (C : Cx p s m args meth c RX6 cX6_wears 7 (some FieldType.int) D [(cy, .int)]) (hap : apt 8 Ad) {Q : Int32 → Rg → Ar → Prop} {k48 : Rg → Ar → Int32 → Int32 → Int32 → Int32 → Prop} (hk48 : ∀ {σ : Rg} {μ : Ar} {v1 : Int32} {v2 : Int32} {v3 : Int32} {v4 : Int32} {H : Heap} {locs : List Loc} {ls : Array Slot}, k48 σ μ v1 v2 v3 v4 → va_P D vwCl (wM Ad cy σ μ) H → va_S (AS 8 Ad) s.heap H locs → lv_has ls 7 [(0, .ref (Ad 0)), (1, .int v1), (2, .int v2), (3, .int v3), (4, .int v4)] → W p l e rmX6_wears s m args below meth c H locs 0 0 (MQ below (Qcg (PWi (wM Ad cy) D Q) (AS 8 Ad)) args s 0 0 (AS 8 Ad)) (F0 m 48 ls [])) : ∀ (n : Nat) {σ : Rg} {μ : Ar} {v1 : Int32} {v2 : Int32} {v3 : Int32} {v4 : Int32} {v5 : Int32} {v6 : Int32} {H : Heap} {locs : List Loc} {ls : Array Slot} (h : wl_X6_wears_126 Q k48 n σ μ v1 v2 v3 v4 v5 v6) (hP : va_P D vwCl (wM Ad cy σ μ) H) (hS : va_S (AS 8 Ad) s.heap H locs) (hl : lv_has ls 7 [(0, .ref (Ad 0)), (1, .int v1), (2, .int v2), (3, .int v3), (4, .int v4), (5, .int v5), (6, .int v6)]), W p l e rmX6_wears s m args below meth c H locs 0 0 (MQ below (Qcg (PWi (wM Ad cy) D Q) (AS 8 Ad)) args s 0 0 (AS 8 Ad)) (F0 m 126 ls []) := by
  intro n
  induction n with
  | zero => intro σ μ v1 v2 v3 v4 v5 v6 H locs ls h; exact h.elim
  | succ n ih =>
    intro σ μ v1 v2 v3 v4 v5 v6 H locs ls h hP hS hl
    exact wk_X6_wears_126 C hap hk48 (fun h hP hS hl => ih h hP hS hl) h hP hS hl
def wb_X6_wears_88 (Q : Int32 → Rg → Ar → Prop) (k48 : Rg → Ar → Int32 → Int32 → Int32 → Int32 → Prop) (k88 : Rg → Ar → Int32 → Int32 → Int32 → Int32 → Int32 → Int32 → Prop) (σ : Rg) (μ : Ar) (v1 : Int32) (v2 : Int32) (v3 : Int32) (v4 : Int32) (v5 : Int32) (v6 : Int32) : Prop := (((μ 0 1) ≤ v6 → ∃ n, wl_X6_wears_126 Q k48 n σ μ v1 v2 v3 v4 v5 (0 : Int32)) ∧ (¬ (μ 0 1) ≤ v6 → (vp_in (((42 : Int32) + ((128 : Int32) * v5)) + v6) 810) ∧ (∀ μ116 : Ar, μ116 = updA μ 0 (upd (μ 0) ((((42 : Int32) + ((128 : Int32) * v5)) + v6)).toNatClampNeg (0 : Int32)) → (∀ y117 : Int32, y117 = v6 + (1 : Int32) → (k88 σ μ116 v1 v2 v3 v4 v5 y117)))))
set_option maxHeartbeats 4000000 in
set_option maxRecDepth 100000 in
theorem wk_X6_wears_88 {p : Program} {l : Launch} {e : Env} {s : State} {m : MethodId} {args : Array Value} {below : List Frame} {meth : Method} {c : Code} {D : va_G} {cy : ClassId} {Ad : Nat → Nat} (C : Cx p s m args meth c RX6 cX6_wears 7 (some FieldType.int) D [(cy, .int)]) (hap : apt 8 Ad) {Q : Int32 → Rg → Ar → Prop} {k48 : Rg → Ar → Int32 → Int32 → Int32 → Int32 → Prop} {k88 : Rg → Ar → Int32 → Int32 → Int32 → Int32 → Int32 → Int32 → Prop} (hk48 : ∀ {σ : Rg} {μ : Ar} {v1 : Int32} {v2 : Int32} {v3 : Int32} {v4 : Int32} {H : Heap} {locs : List Loc} {ls : Array Slot}, k48 σ μ v1 v2 v3 v4 → va_P D vwCl (wM Ad cy σ μ) H → va_S (AS 8 Ad) s.heap H locs → lv_has ls 7 [(0, .ref (Ad 0)), (1, .int v1), (2, .int v2), (3, .int v3), (4, .int v4)] → W p l e rmX6_wears s m args below meth c H locs 0 0 (MQ below (Qcg (PWi (wM Ad cy) D Q) (AS 8 Ad)) args s 0 0 (AS 8 Ad)) (F0 m 48 ls [])) (hk88 : ∀ {σ : Rg} {μ : Ar} {v1 : Int32} {v2 : Int32} {v3 : Int32} {v4 : Int32} {v5 : Int32} {v6 : Int32} {H : Heap} {locs : List Loc} {ls : Array Slot}, k88 σ μ v1 v2 v3 v4 v5 v6 → va_P D vwCl (wM Ad cy σ μ) H → va_S (AS 8 Ad) s.heap H locs → lv_has ls 7 [(0, .ref (Ad 0)), (1, .int v1), (2, .int v2), (3, .int v3), (4, .int v4), (5, .int v5), (6, .int v6)] → W p l e rmX6_wears s m args below meth c H locs 0 0 (MQ below (Qcg (PWi (wM Ad cy) D Q) (AS 8 Ad)) args s 0 0 (AS 8 Ad)) (F0 m 88 ls [])) {σ : Rg} {μ : Ar} {v1 : Int32} {v2 : Int32} {v3 : Int32} {v4 : Int32} {v5 : Int32} {v6 : Int32} {H : Heap} {locs : List Loc} {ls : Array Slot} (h : wb_X6_wears_88 Q k48 k88 σ μ v1 v2 v3 v4 v5 v6) (hP : va_P D vwCl (wM Ad cy σ μ) H) (hS : va_S (AS 8 Ad) s.heap H locs) (hl : lv_has ls 7 [(0, .ref (Ad 0)), (1, .int v1), (2, .int v2), (3, .int v3), (4, .int v4), (5, .int v5), (6, .int v6)]) : W p l e rmX6_wears s m args below meth c H locs 0 0 (MQ below (Qcg (PWi (wM Ad cy) D Q) (AS 8 Ad)) args s 0 0 (AS 8 Ad)) (F0 m 88 ls []) := by
  have hx := C.1
  have hb := C.2.1
  refine lv_iload hx hb dX6_wears_88 (lv_at hl 6 rfl) ?_
  refine lv_aload_n hx hb dX6_wears_90 rfl (lv_at hl 0 rfl) ?_
  refine gM_model_x C hP (C.2.2.2.2.2.2.1 _ wq_924) dX6_wears_91 ?_
  refine lv_iconst (v := 1) hx hb dX6_wears_94 (by decide) ?_
  refine lcM_0 C hP tc_1 vi_1_810 dX6_wears_95 ?_
  refine lv_icmp_ge (tgt := 123) hx hb dX6_wears_96 (by decide) (fun hc => ?_) (fun hc => ?_)
  · have h := h.1 hc
    refine lv_iconst (v := 0) hx hb dX6_wears_123 (by decide) ?_
    refine lv_istore (lv' := [(6, .int (0 : Int32)), (0, .ref (Ad 0)), (1, .int v1), (2, .int v2), (3, .int v3), (4, .int v4), (5, .int v5)]) hx hb dX6_wears_124 hl (by decide) rfl (fun ls hl => ?_)
    obtain ⟨n, h⟩ := h
    exact wkl_X6_wears_126 C hap hk48 n h hP hS (lv_sub hl [1, 2, 3, 4, 5, 6, 0] rfl)
  · have h := h.2 hc
    refine lv_aload_n hx hb dX6_wears_99 rfl (lv_at hl 0 rfl) ?_
    refine gM_model_x C hP (C.2.2.2.2.2.2.1 _ wq_924) dX6_wears_100 ?_
    refine lv_bipush (v := 42) hx hb dX6_wears_103 (by decide) ?_
    refine lv_sipush (v := 128) hx hb dX6_wears_105 (by decide) ?_
    refine lv_iload hx hb dX6_wears_108 (lv_at hl 5 rfl) ?_
    refine lv_imul hx hb dX6_wears_110 ?_
    refine lv_iadd hx hb dX6_wears_111 ?_
    refine lv_iload hx hb dX6_wears_112 (lv_at hl 6 rfl) ?_
    refine lv_iadd hx hb dX6_wears_114 ?_
    refine lv_iconst (v := 0) hx hb dX6_wears_115 (by decide) ?_
    obtain ⟨hc, h⟩ := h
    refine sM_0 C hap (fun _ h => h) hP hS hc dX6_wears_116 (fun H locs hP hS => ?_)
    obtain ⟨μ116, e116⟩ : ∃ z : Ar, z = updA μ 0 (upd (μ 0) ((((42 : Int32) + ((128 : Int32) * v5)) + v6)).toNatClampNeg (0 : Int32)) := ⟨_, rfl⟩
    have hP : va_P D vwCl (wM Ad cy σ μ116) H := by rw [e116]; exact hP
    have h := h μ116 e116
    obtain ⟨y117, e117⟩ : ∃ y : Int32, y = v6 + (1 : Int32) := ⟨_, rfl⟩
    have h := h y117 e117
    refine lv_iinc (v := y117) (lv' := [(6, .int y117), (0, .ref (Ad 0)), (1, .int v1), (2, .int v2), (3, .int v3), (4, .int v4), (5, .int v5)]) hx hb dX6_wears_117 hl (k := 6) rfl (by rw [e117]; rfl) (by decide) rfl (fun ls hl => ?_)
    refine lv_goto (tgt := 88) hx hb dX6_wears_120 (by decide) ?_
    exact hk88 h hP hS (lv_sub hl [1, 2, 3, 4, 5, 6, 0] rfl)
def wl_X6_wears_88 (Q : Int32 → Rg → Ar → Prop) (k48 : Rg → Ar → Int32 → Int32 → Int32 → Int32 → Prop) (n : Nat) : Rg → Ar → Int32 → Int32 → Int32 → Int32 → Int32 → Int32 → Prop := Nat.rec (motive := fun _ => Rg → Ar → Int32 → Int32 → Int32 → Int32 → Int32 → Int32 → Prop) (fun _ _ _ _ _ _ _ _ => False) (fun _ k => wb_X6_wears_88 Q k48 k) n
set_option maxHeartbeats 4000000 in
theorem wkl_X6_wears_88 {p : Program} {l : Launch} {e : Env} {s : State} {m : MethodId} {args : Array Value} {below : List Frame} {meth : Method} {c : Code} {D : va_G} {cy : ClassId} {Ad : Nat → Nat} (C : Cx p s m args meth c RX6 cX6_wears 7 (some FieldType.int) D [(cy, .int)]) (hap : apt 8 Ad) {Q : Int32 → Rg → Ar → Prop} {k48 : Rg → Ar → Int32 → Int32 → Int32 → Int32 → Prop} (hk48 : ∀ {σ : Rg} {μ : Ar} {v1 : Int32} {v2 : Int32} {v3 : Int32} {v4 : Int32} {H : Heap} {locs : List Loc} {ls : Array Slot}, k48 σ μ v1 v2 v3 v4 → va_P D vwCl (wM Ad cy σ μ) H → va_S (AS 8 Ad) s.heap H locs → lv_has ls 7 [(0, .ref (Ad 0)), (1, .int v1), (2, .int v2), (3, .int v3), (4, .int v4)] → W p l e rmX6_wears s m args below meth c H locs 0 0 (MQ below (Qcg (PWi (wM Ad cy) D Q) (AS 8 Ad)) args s 0 0 (AS 8 Ad)) (F0 m 48 ls [])) : ∀ (n : Nat) {σ : Rg} {μ : Ar} {v1 : Int32} {v2 : Int32} {v3 : Int32} {v4 : Int32} {v5 : Int32} {v6 : Int32} {H : Heap} {locs : List Loc} {ls : Array Slot} (h : wl_X6_wears_88 Q k48 n σ μ v1 v2 v3 v4 v5 v6) (hP : va_P D vwCl (wM Ad cy σ μ) H) (hS : va_S (AS 8 Ad) s.heap H locs) (hl : lv_has ls 7 [(0, .ref (Ad 0)), (1, .int v1), (2, .int v2), (3, .int v3), (4, .int v4), (5, .int v5), (6, .int v6)]), W p l e rmX6_wears s m args below meth c H locs 0 0 (MQ below (Qcg (PWi (wM Ad cy) D Q) (AS 8 Ad)) args s 0 0 (AS 8 Ad)) (F0 m 88 ls []) := by
  intro n
  induction n with
  | zero => intro σ μ v1 v2 v3 v4 v5 v6 H locs ls h; exact h.elim
  | succ n ih =>
    intro σ μ v1 v2 v3 v4 v5 v6 H locs ls h hP hS hl
    exact wk_X6_wears_88 C hap hk48 (fun h hP hS hl => ih h hP hS hl) h hP hS hl
def wb_X6_wears_85 (Q : Int32 → Rg → Ar → Prop) (k48 : Rg → Ar → Int32 → Int32 → Int32 → Int32 → Prop) (σ : Rg) (μ : Ar) (v1 : Int32) (v2 : Int32) (v3 : Int32) (v4 : Int32) (v5 : Int32) : Prop := ∃ n, wl_X6_wears_88 Q k48 n σ μ v1 v2 v3 v4 v5 (0 : Int32)
set_option maxHeartbeats 4000000 in
set_option maxRecDepth 100000 in
theorem wk_X6_wears_85 {p : Program} {l : Launch} {e : Env} {s : State} {m : MethodId} {args : Array Value} {below : List Frame} {meth : Method} {c : Code} {D : va_G} {cy : ClassId} {Ad : Nat → Nat} (C : Cx p s m args meth c RX6 cX6_wears 7 (some FieldType.int) D [(cy, .int)]) (hap : apt 8 Ad) {Q : Int32 → Rg → Ar → Prop} {k48 : Rg → Ar → Int32 → Int32 → Int32 → Int32 → Prop} (hk48 : ∀ {σ : Rg} {μ : Ar} {v1 : Int32} {v2 : Int32} {v3 : Int32} {v4 : Int32} {H : Heap} {locs : List Loc} {ls : Array Slot}, k48 σ μ v1 v2 v3 v4 → va_P D vwCl (wM Ad cy σ μ) H → va_S (AS 8 Ad) s.heap H locs → lv_has ls 7 [(0, .ref (Ad 0)), (1, .int v1), (2, .int v2), (3, .int v3), (4, .int v4)] → W p l e rmX6_wears s m args below meth c H locs 0 0 (MQ below (Qcg (PWi (wM Ad cy) D Q) (AS 8 Ad)) args s 0 0 (AS 8 Ad)) (F0 m 48 ls [])) {σ : Rg} {μ : Ar} {v1 : Int32} {v2 : Int32} {v3 : Int32} {v4 : Int32} {v5 : Int32} {H : Heap} {locs : List Loc} {ls : Array Slot} (h : wb_X6_wears_85 Q k48 σ μ v1 v2 v3 v4 v5) (hP : va_P D vwCl (wM Ad cy σ μ) H) (hS : va_S (AS 8 Ad) s.heap H locs) (hl : lv_has ls 7 [(0, .ref (Ad 0)), (1, .int v1), (2, .int v2), (3, .int v3), (4, .int v4), (5, .int v5)]) : W p l e rmX6_wears s m args below meth c H locs 0 0 (MQ below (Qcg (PWi (wM Ad cy) D Q) (AS 8 Ad)) args s 0 0 (AS 8 Ad)) (F0 m 85 ls []) := by
  have hx := C.1
  have hb := C.2.1
  refine lv_iconst (v := 0) hx hb dX6_wears_85 (by decide) ?_
  refine lv_istore (lv' := [(6, .int (0 : Int32)), (0, .ref (Ad 0)), (1, .int v1), (2, .int v2), (3, .int v3), (4, .int v4), (5, .int v5)]) hx hb dX6_wears_86 hl (by decide) rfl (fun ls hl => ?_)
  obtain ⟨n, h⟩ := h
  exact wkl_X6_wears_88 C hap hk48 n h hP hS (lv_sub hl [1, 2, 3, 4, 5, 6, 0] rfl)
def wb_X6_wears_48 (Q : Int32 → Rg → Ar → Prop) (k48 : Rg → Ar → Int32 → Int32 → Int32 → Int32 → Prop) (σ : Rg) (μ : Ar) (v1 : Int32) (v2 : Int32) (v3 : Int32) (v4 : Int32) : Prop := ((v1 ≤ v4 → ((¬ v2 = (2 : Int32) → ((¬ v2 = 0 → wb_X6_wears_203 Q σ μ (0 : Int32)) ∧ (v2 = 0 → wb_X6_wears_203 Q σ μ (1 : Int32)))) ∧ (v2 = (2 : Int32) → wb_X6_wears_206 Q σ μ v3))) ∧ (¬ v1 ≤ v4 → wp_X6_leastErased σ μ v3 (fun r56 σ56 μ56 => wp_X6_isBlank σ56 μ56 r56 (0 : Int32) (fun r65 σ65 μ65 => ((¬ r65 = 0 → wb_X6_wears_85 Q k48 σ65 μ65 v1 v2 v3 v4 r56) ∧ (r65 = 0 → (vp_in ((36 : Int32) + r56) 810) ∧ ((vp_in ((36 : Int32) + r56) 810) ∧ (∀ μ84 : Ar, μ84 = updA μ65 0 (upd (μ65 0) (((36 : Int32) + r56)).toNatClampNeg ((μ65 0 (((36 : Int32) + r56)).toNatClampNeg) + (1 : Int32))) → (wb_X6_wears_85 Q k48 σ65 μ84 v1 v2 v3 v4 r56)))))))))
set_option maxHeartbeats 4000000 in
set_option maxRecDepth 100000 in
theorem wk_X6_wears_48 {p : Program} {l : Launch} {e : Env} {s : State} {m : MethodId} {args : Array Value} {below : List Frame} {meth : Method} {c : Code} {D : va_G} {cy : ClassId} {Ad : Nat → Nat} (C : Cx p s m args meth c RX6 cX6_wears 7 (some FieldType.int) D [(cy, .int)]) (hap : apt 8 Ad) {Q : Int32 → Rg → Ar → Prop} {k48 : Rg → Ar → Int32 → Int32 → Int32 → Int32 → Prop} (hk48 : ∀ {σ : Rg} {μ : Ar} {v1 : Int32} {v2 : Int32} {v3 : Int32} {v4 : Int32} {H : Heap} {locs : List Loc} {ls : Array Slot}, k48 σ μ v1 v2 v3 v4 → va_P D vwCl (wM Ad cy σ μ) H → va_S (AS 8 Ad) s.heap H locs → lv_has ls 7 [(0, .ref (Ad 0)), (1, .int v1), (2, .int v2), (3, .int v3), (4, .int v4)] → W p l e rmX6_wears s m args below meth c H locs 0 0 (MQ below (Qcg (PWi (wM Ad cy) D Q) (AS 8 Ad)) args s 0 0 (AS 8 Ad)) (F0 m 48 ls [])) {σ : Rg} {μ : Ar} {v1 : Int32} {v2 : Int32} {v3 : Int32} {v4 : Int32} {H : Heap} {locs : List Loc} {ls : Array Slot} (h : wb_X6_wears_48 Q k48 σ μ v1 v2 v3 v4) (hP : va_P D vwCl (wM Ad cy σ μ) H) (hS : va_S (AS 8 Ad) s.heap H locs) (hl : lv_has ls 7 [(0, .ref (Ad 0)), (1, .int v1), (2, .int v2), (3, .int v3), (4, .int v4)]) : W p l e rmX6_wears s m args below meth c H locs 0 0 (MQ below (Qcg (PWi (wM Ad cy) D Q) (AS 8 Ad)) args s 0 0 (AS 8 Ad)) (F0 m 48 ls []) := by
  have hx := C.1
  have hb := C.2.1
  refine lv_iload hx hb dX6_wears_48 (lv_at hl 4 rfl) ?_
  refine lv_iload_n hx hb dX6_wears_50 rfl (lv_at hl 1 rfl) ?_
  refine lv_icmp_ge (tgt := 184) hx hb dX6_wears_51 (by decide) (fun hc => ?_) (fun hc => ?_)
  · have h := h.1 hc
    refine lv_iload_n hx hb dX6_wears_184 rfl (lv_at hl 2 rfl) ?_
    refine lv_iconst (v := 2) hx hb dX6_wears_185 (by decide) ?_
    refine lv_icmp_ne (tgt := 193) hx hb dX6_wears_186 (by decide) (fun hc => ?_) (fun hc => ?_)
    · have h := h.1 hc
      refine lv_aload_n hx hb dX6_wears_193 rfl (lv_at hl 0 rfl) ?_
      refine lv_iload_n hx hb dX6_wears_194 rfl (lv_at hl 2 rfl) ?_
      refine lv_if_ne (tgt := 202) hx hb dX6_wears_195 (by decide) (fun hc => ?_) (fun hc => ?_)
      · have h := h.1 hc
        refine lv_iconst (v := 0) hx hb dX6_wears_202 (by decide) ?_
        exact wk_X6_wears_203 C hap h hP hS (lv_sub hl [0] rfl)
      · have h := h.2 hc
        refine lv_iconst (v := 1) hx hb dX6_wears_198 (by decide) ?_
        refine lv_goto (tgt := 203) hx hb dX6_wears_199 (by decide) ?_
        exact wk_X6_wears_203 C hap h hP hS (lv_sub hl [0] rfl)
    · have h := h.2 hc
      refine lv_iload_n hx hb dX6_wears_189 rfl (lv_at hl 3 rfl) ?_
      refine lv_goto (tgt := 206) hx hb dX6_wears_190 (by decide) ?_
      exact wk_X6_wears_206 C hap h hP hS (lv_sub hl [0] rfl)
  · have h := h.2 hc
    refine lv_aload_n hx hb dX6_wears_54 rfl (lv_at hl 0 rfl) ?_
    refine lv_iload_n hx hb dX6_wears_55 rfl (lv_at hl 3 rfl) ?_
    refine kWi (rnV C (ct_X6_leastErased l D cy Ad hap h) yv_X6_leastErased wq_1024 ⟨rfl, rfl⟩ ⟨Nat.le_of_ble_eq_true rfl, Nat.le_of_ble_eq_true rfl⟩ ⟨Nat.zero_le _, Nat.zero_le _⟩ (vM_model C hP) hP hl.1 rfl rfl (Nat.le_of_ble_eq_true rfl) dX6_wears_56) hS (fun _ h => h) (fun r56 σ56 μ56 H locs h hP hk hS => ?_)
    refine lv_istore (lv' := [(5, .int r56), (0, .ref (Ad 0)), (1, .int v1), (2, .int v2), (3, .int v3), (4, .int v4)]) hx hb dX6_wears_59 hl (by decide) rfl (fun ls hl => ?_)
    refine lv_aload_n hx hb dX6_wears_61 rfl (lv_at hl 1 rfl) ?_
    refine lv_iload hx hb dX6_wears_62 (lv_at hl 0 rfl) ?_
    refine lv_iconst (v := 0) hx hb dX6_wears_64 (by decide) ?_
    refine kWi (rnV C (ct_X6_isBlank l D cy Ad hap h) yv_X6_isBlank wq_1012 ⟨rfl, rfl⟩ ⟨Nat.le_of_ble_eq_true rfl, Nat.le_of_ble_eq_true rfl⟩ ⟨Nat.zero_le _, Nat.zero_le _⟩ (vM_model C hP) hP hl.1 rfl rfl (Nat.le_of_ble_eq_true rfl) dX6_wears_65) hS (fun _ h => h) (fun r65 σ65 μ65 H locs h hP hk hS => ?_)
    refine lv_if_ne (tgt := 85) hx hb dX6_wears_68 (by decide) (fun hc => ?_) (fun hc => ?_)
    · have h := h.1 hc
      exact wk_X6_wears_85 C hap hk48 h hP hS (lv_sub hl [1, 2, 3, 4, 5, 0] rfl)
    · have h := h.2 hc
      refine lv_aload_n hx hb dX6_wears_71 rfl (lv_at hl 1 rfl) ?_
      refine gM_model_x C hP (C.2.2.2.2.2.2.1 _ wq_924) dX6_wears_72 ?_
      refine lv_bipush (v := 36) hx hb dX6_wears_75 (by decide) ?_
      refine lv_iload hx hb dX6_wears_77 (lv_at hl 0 rfl) ?_
      refine lv_iadd hx hb dX6_wears_79 ?_
      refine lv_dup2_11 hx hb dX6_wears_80 rfl rfl ?_
      obtain ⟨hc, h⟩ := h
      refine lM_0 C hP hc dX6_wears_81 ?_
      refine lv_iconst (v := 1) hx hb dX6_wears_82 (by decide) ?_
      refine lv_iadd hx hb dX6_wears_83 ?_
      obtain ⟨hc, h⟩ := h
      refine sM_0 C hap (fun _ h => h) hP hS hc dX6_wears_84 (fun H locs hP hS => ?_)
      obtain ⟨μ84, e84⟩ : ∃ z : Ar, z = updA μ65 0 (upd (μ65 0) (((36 : Int32) + r56)).toNatClampNeg ((μ65 0 (((36 : Int32) + r56)).toNatClampNeg) + (1 : Int32))) := ⟨_, rfl⟩
      have hP : va_P D vwCl (wM Ad cy σ65 μ84) H := by rw [e84]; exact hP
      have h := h μ84 e84
      exact wk_X6_wears_85 C hap hk48 h hP hS (lv_sub hl [1, 2, 3, 4, 5, 0] rfl)
def wl_X6_wears_48 (Q : Int32 → Rg → Ar → Prop) (n : Nat) : Rg → Ar → Int32 → Int32 → Int32 → Int32 → Prop := Nat.rec (motive := fun _ => Rg → Ar → Int32 → Int32 → Int32 → Int32 → Prop) (fun _ _ _ _ _ _ => False) (fun _ k => wb_X6_wears_48 Q k) n
set_option maxHeartbeats 4000000 in
theorem wkl_X6_wears_48 {p : Program} {l : Launch} {e : Env} {s : State} {m : MethodId} {args : Array Value} {below : List Frame} {meth : Method} {c : Code} {D : va_G} {cy : ClassId} {Ad : Nat → Nat} (C : Cx p s m args meth c RX6 cX6_wears 7 (some FieldType.int) D [(cy, .int)]) (hap : apt 8 Ad) {Q : Int32 → Rg → Ar → Prop}  : ∀ (n : Nat) {σ : Rg} {μ : Ar} {v1 : Int32} {v2 : Int32} {v3 : Int32} {v4 : Int32} {H : Heap} {locs : List Loc} {ls : Array Slot} (h : wl_X6_wears_48 Q  n σ μ v1 v2 v3 v4) (hP : va_P D vwCl (wM Ad cy σ μ) H) (hS : va_S (AS 8 Ad) s.heap H locs) (hl : lv_has ls 7 [(0, .ref (Ad 0)), (1, .int v1), (2, .int v2), (3, .int v3), (4, .int v4)]), W p l e rmX6_wears s m args below meth c H locs 0 0 (MQ below (Qcg (PWi (wM Ad cy) D Q) (AS 8 Ad)) args s 0 0 (AS 8 Ad)) (F0 m 48 ls []) := by
  intro n
  induction n with
  | zero => intro σ μ v1 v2 v3 v4 H locs ls h; exact h.elim
  | succ n ih =>
    intro σ μ v1 v2 v3 v4 H locs ls h hP hS hl
    exact wk_X6_wears_48 C hap (fun h hP hS hl => ih h hP hS hl) h hP hS hl
def wp_X6_wears (σ : Rg) (μ : Ar) (x1 : Int32) (x2 : Int32) (Q : Int32 → Rg → Ar → Prop) : Prop := ∀ σ2 : Rg, σ2 = upd σ 0 (0 : Int32) → (wp_X6_isOn σ2 μ  (fun r6 σ6 μ6 => ((r6 = 0 → wb_X6_wears_32 Q σ6 μ6) ∧ (¬ r6 = 0 → wp_X6_within x1 (0 : Int32) (1000 : Int32) (fun r17 => ((r17 = 0 → wb_X6_wears_32 Q σ6 μ6) ∧ (¬ r17 = 0 → wp_X6_within x2 (0 : Int32) (2 : Int32) (fun r26 => ((¬ r26 = 0 → wp_X6_putsAside σ6 μ6  (fun σ35 μ35 => ∀ y44 : Int32, y44 = (μ35 0 3) → (∃ n, wl_X6_wears_48 Q n σ35 μ35 x1 x2 y44 (0 : Int32)))) ∧ (r26 = 0 → wb_X6_wears_32 Q σ6 μ6))))))))))
set_option maxHeartbeats 4000000 in
set_option maxRecDepth 100000 in
theorem ct_X6_wears (l : Launch) (D : va_G) (cy : ClassId) (Ad : Nat → Nat) (hap : apt 8 Ad) {σ : Rg} {μ : Ar} {x1 : Int32} {x2 : Int32} {Q : Int32 → Rg → Ar → Prop} (h : wp_X6_wears σ μ x1 x2 Q) : Ct l yX6_wears cX6_wears 7 (some FieldType.int) rmX6_wears D [(cy, .int)] (fun H => va_P D vwCl (wM Ad cy σ μ) H) [.ref (Ad 0), .int x1, .int x2] (AS 8 Ad) (PWi (wM Ad cy) D Q) := by
  refine Ct.of (by decide) (Nat.le_of_ble_eq_true rfl) ?_
  intro p e s m below meth c ls C hP hl
  have hl : lv_has ls 7 [(0, .ref (Ad 0)), (1, .int x1), (2, .int x2)] := hl
  have hS : va_S (AS 8 Ad) s.heap s.heap [] := va_S.rf
  have hx := C.1
  have hb := C.2.1
  refine lv_aload_n hx hb dX6_wears_0 rfl (lv_at hl 0 rfl) ?_
  refine lv_iconst (v := 0) hx hb dX6_wears_1 (by decide) ?_
  refine pM_model_thrown C hap (fun _ h => h) hP hS (C.2.2.2.2.2.2.1 _ wq_926) dX6_wears_2 (fun H locs hP hS => ?_)
  obtain ⟨σ2, e2⟩ : ∃ z : Rg, z = upd σ 0 (0 : Int32) := ⟨_, rfl⟩
  have hP : va_P D vwCl (wM Ad cy σ2 μ) H := by rw [e2]; exact hP
  have h := h σ2 e2
  refine lv_aload_n hx hb dX6_wears_5 rfl (lv_at hl 0 rfl) ?_
  refine kWi (rnV C (ct_X6_isOn l D cy Ad hap h) yv_X6_isOn wq_981 ⟨rfl, rfl⟩ ⟨Nat.le_of_ble_eq_true rfl, Nat.le_of_ble_eq_true rfl⟩ ⟨Nat.zero_le _, Nat.zero_le _⟩ (vM_model C hP) hP hl.1 rfl rfl (Nat.le_of_ble_eq_true rfl) dX6_wears_6) hS (fun _ h => h) (fun r6 σ6 μ6 H locs h hP hk hS => ?_)
  refine lv_if_eq (tgt := 32) hx hb dX6_wears_9 (by decide) (fun hc => ?_) (fun hc => ?_)
  · have h := h.1 hc
    exact wk_X6_wears_32 C hap h hP hS (lv_sub hl [] rfl)
  · have h := h.2 hc
    refine lv_iload_n hx hb dX6_wears_12 rfl (lv_at hl 1 rfl) ?_
    refine lv_iconst (v := 0) hx hb dX6_wears_13 (by decide) ?_
    refine lv_sipush (v := 1000) hx hb dX6_wears_14 (by decide) ?_
    refine kNi (rnS (C.none) (ct_X6_within l D h) ys_X6_within wq_974 ⟨rfl, rfl⟩ ⟨Nat.le_of_ble_eq_true rfl, Nat.le_of_ble_eq_true rfl⟩ ⟨Nat.zero_le _, Nat.zero_le _⟩ trivial hl.1 rfl rfl (Nat.le_of_ble_eq_true rfl) dX6_wears_17) hS (fun _ h => h.elim) (fun r17 H locs h hk hS => ?_)
    have hP := keepN hP hk
    refine lv_if_eq (tgt := 32) hx hb dX6_wears_20 (by decide) (fun hc => ?_) (fun hc => ?_)
    · have h := h.1 hc
      exact wk_X6_wears_32 C hap h hP hS (lv_sub hl [] rfl)
    · have h := h.2 hc
      refine lv_iload_n hx hb dX6_wears_23 rfl (lv_at hl 2 rfl) ?_
      refine lv_iconst (v := 0) hx hb dX6_wears_24 (by decide) ?_
      refine lv_iconst (v := 2) hx hb dX6_wears_25 (by decide) ?_
      refine kNi (rnS (C.none) (ct_X6_within l D h) ys_X6_within wq_974 ⟨rfl, rfl⟩ ⟨Nat.le_of_ble_eq_true rfl, Nat.le_of_ble_eq_true rfl⟩ ⟨Nat.zero_le _, Nat.zero_le _⟩ trivial hl.1 rfl rfl (Nat.le_of_ble_eq_true rfl) dX6_wears_26) hS (fun _ h => h.elim) (fun r26 H locs h hk hS => ?_)
      have hP := keepN hP hk
      refine lv_if_ne (tgt := 34) hx hb dX6_wears_29 (by decide) (fun hc => ?_) (fun hc => ?_)
      · have h := h.1 hc
        refine lv_aload_n hx hb dX6_wears_34 rfl (lv_at hl 0 rfl) ?_
        refine kWv (rnV C (ct_X6_putsAside l D cy Ad hap h) yv_X6_putsAside wq_1249 ⟨rfl, rfl⟩ ⟨Nat.le_of_ble_eq_true rfl, Nat.le_of_ble_eq_true rfl⟩ ⟨Nat.zero_le _, Nat.zero_le _⟩ (vM_model C hP) hP hl.1 rfl rfl (Nat.le_of_ble_eq_true rfl) dX6_wears_35) hS (fun _ h => h) (fun σ35 μ35 H locs h hP hk hS => ?_)
        refine lv_aload_n hx hb dX6_wears_38 rfl (lv_at hl 0 rfl) ?_
        refine gM_model_x C hP (C.2.2.2.2.2.2.1 _ wq_924) dX6_wears_39 ?_
        refine lv_iconst (v := 3) hx hb dX6_wears_42 (by decide) ?_
        refine lcM_0 C hP tc_3 vi_3_810 dX6_wears_43 ?_
        refine lv_topi (fun y44 e44 => ?_)
        have h := h y44 e44
        refine lv_istore_n (lv' := [(3, .int y44), (0, .ref (Ad 0)), (1, .int x1), (2, .int x2)]) hx hb dX6_wears_44 rfl hl (by decide) rfl (fun ls hl => ?_)
        refine lv_iconst (v := 0) hx hb dX6_wears_45 (by decide) ?_
        refine lv_istore (lv' := [(4, .int (0 : Int32)), (3, .int y44), (0, .ref (Ad 0)), (1, .int x1), (2, .int x2)]) hx hb dX6_wears_46 hl (by decide) rfl (fun ls hl => ?_)
        obtain ⟨n, h⟩ := h
        exact wkl_X6_wears_48 C hap n h hP hS (lv_sub hl [2, 3, 4, 1, 0] rfl)
      · have h := h.2 hc
        exact wk_X6_wears_32 C hap h hP hS (lv_sub hl [] rfl)
abbrev rmX6_erasesOfAll : Room := { frames := 0, cells := 0, slots := 0, locals := 0 }
def wb_X6_erasesOfAll_4 (Q : Int32 → Rg → Ar → Prop) (k4 : Rg → Ar → Int32 → Int32 → Prop) (σ : Rg) (μ : Ar) (v1 : Int32) (v2 : Int32) : Prop := (((μ 0 0) ≤ v2 → Q v1 σ μ) ∧ (¬ (μ 0 0) ≤ v2 → (vp_in ((36 : Int32) + v2) 810) ∧ (∀ y25 : Int32, y25 = (v1 + (μ 0 (((36 : Int32) + v2)).toNatClampNeg)) → (∀ y26 : Int32, y26 = v2 + (1 : Int32) → (k4 σ μ y25 y26)))))
set_option maxHeartbeats 4000000 in
set_option maxRecDepth 100000 in
theorem wk_X6_erasesOfAll_4 {p : Program} {l : Launch} {e : Env} {s : State} {m : MethodId} {args : Array Value} {below : List Frame} {meth : Method} {c : Code} {D : va_G} {cy : ClassId} {Ad : Nat → Nat} (C : Cx p s m args meth c RX6 cX6_erasesOfAll 3 (some FieldType.int) D [(cy, .int)]) (hap : apt 8 Ad) {Q : Int32 → Rg → Ar → Prop} {k4 : Rg → Ar → Int32 → Int32 → Prop} (hk4 : ∀ {σ : Rg} {μ : Ar} {v1 : Int32} {v2 : Int32} {H : Heap} {locs : List Loc} {ls : Array Slot}, k4 σ μ v1 v2 → va_P D vwCl (wM Ad cy σ μ) H → va_S (AS 8 Ad) s.heap H locs → lv_has ls 3 [(0, .ref (Ad 0)), (1, .int v1), (2, .int v2)] → W p l e rmX6_erasesOfAll s m args below meth c H locs 0 0 (MQ below (Qcg (PWi (wM Ad cy) D Q) (AS 8 Ad)) args s 0 0 (AS 8 Ad)) (F0 m 4 ls [])) {σ : Rg} {μ : Ar} {v1 : Int32} {v2 : Int32} {H : Heap} {locs : List Loc} {ls : Array Slot} (h : wb_X6_erasesOfAll_4 Q k4 σ μ v1 v2) (hP : va_P D vwCl (wM Ad cy σ μ) H) (hS : va_S (AS 8 Ad) s.heap H locs) (hl : lv_has ls 3 [(0, .ref (Ad 0)), (1, .int v1), (2, .int v2)]) : W p l e rmX6_erasesOfAll s m args below meth c H locs 0 0 (MQ below (Qcg (PWi (wM Ad cy) D Q) (AS 8 Ad)) args s 0 0 (AS 8 Ad)) (F0 m 4 ls []) := by
  have hx := C.1
  have hb := C.2.1
  refine lv_iload_n hx hb dX6_erasesOfAll_4 rfl (lv_at hl 2 rfl) ?_
  refine lv_aload_n hx hb dX6_erasesOfAll_5 rfl (lv_at hl 0 rfl) ?_
  refine gM_model_x C hP (C.2.2.2.2.2.2.1 _ wq_924) dX6_erasesOfAll_6 ?_
  refine lv_iconst (v := 0) hx hb dX6_erasesOfAll_9 (by decide) ?_
  refine lcM_0 C hP tc_0 vi_0_810 dX6_erasesOfAll_10 ?_
  refine lv_icmp_ge (tgt := 32) hx hb dX6_erasesOfAll_11 (by decide) (fun hc => ?_) (fun hc => ?_)
  · have h := h.1 hc
    refine lv_iload_n hx hb dX6_erasesOfAll_32 rfl (lv_at hl 1 rfl) ?_
    exact endI C hS ⟨_, _, _, rfl, h, hP⟩ dX6_erasesOfAll_33
  · have h := h.2 hc
    refine lv_iload_n hx hb dX6_erasesOfAll_14 rfl (lv_at hl 1 rfl) ?_
    refine lv_aload_n hx hb dX6_erasesOfAll_15 rfl (lv_at hl 0 rfl) ?_
    refine gM_model_x C hP (C.2.2.2.2.2.2.1 _ wq_924) dX6_erasesOfAll_16 ?_
    refine lv_bipush (v := 36) hx hb dX6_erasesOfAll_19 (by decide) ?_
    refine lv_iload_n hx hb dX6_erasesOfAll_21 rfl (lv_at hl 2 rfl) ?_
    refine lv_iadd hx hb dX6_erasesOfAll_22 ?_
    obtain ⟨hc, h⟩ := h
    refine lM_0 C hP hc dX6_erasesOfAll_23 ?_
    refine lv_iadd hx hb dX6_erasesOfAll_24 ?_
    refine lv_topi (fun y25 e25 => ?_)
    have h := h y25 e25
    refine lv_istore_n (lv' := [(1, .int y25), (0, .ref (Ad 0)), (2, .int v2)]) hx hb dX6_erasesOfAll_25 rfl hl (by decide) rfl (fun ls hl => ?_)
    obtain ⟨y26, e26⟩ : ∃ y : Int32, y = v2 + (1 : Int32) := ⟨_, rfl⟩
    have h := h y26 e26
    refine lv_iinc (v := y26) (lv' := [(2, .int y26), (1, .int y25), (0, .ref (Ad 0))]) hx hb dX6_erasesOfAll_26 hl (k := 2) rfl (by rw [e26]; rfl) (by decide) rfl (fun ls hl => ?_)
    refine lv_goto (tgt := 4) hx hb dX6_erasesOfAll_29 (by decide) ?_
    exact hk4 h hP hS (lv_sub hl [2, 1, 0] rfl)
def wl_X6_erasesOfAll_4 (Q : Int32 → Rg → Ar → Prop) (n : Nat) : Rg → Ar → Int32 → Int32 → Prop := Nat.rec (motive := fun _ => Rg → Ar → Int32 → Int32 → Prop) (fun _ _ _ _ => False) (fun _ k => wb_X6_erasesOfAll_4 Q k) n
set_option maxHeartbeats 4000000 in
theorem wkl_X6_erasesOfAll_4 {p : Program} {l : Launch} {e : Env} {s : State} {m : MethodId} {args : Array Value} {below : List Frame} {meth : Method} {c : Code} {D : va_G} {cy : ClassId} {Ad : Nat → Nat} (C : Cx p s m args meth c RX6 cX6_erasesOfAll 3 (some FieldType.int) D [(cy, .int)]) (hap : apt 8 Ad) {Q : Int32 → Rg → Ar → Prop}  : ∀ (n : Nat) {σ : Rg} {μ : Ar} {v1 : Int32} {v2 : Int32} {H : Heap} {locs : List Loc} {ls : Array Slot} (h : wl_X6_erasesOfAll_4 Q  n σ μ v1 v2) (hP : va_P D vwCl (wM Ad cy σ μ) H) (hS : va_S (AS 8 Ad) s.heap H locs) (hl : lv_has ls 3 [(0, .ref (Ad 0)), (1, .int v1), (2, .int v2)]), W p l e rmX6_erasesOfAll s m args below meth c H locs 0 0 (MQ below (Qcg (PWi (wM Ad cy) D Q) (AS 8 Ad)) args s 0 0 (AS 8 Ad)) (F0 m 4 ls []) := by
  intro n
  induction n with
  | zero => intro σ μ v1 v2 H locs ls h; exact h.elim
  | succ n ih =>
    intro σ μ v1 v2 H locs ls h hP hS hl
    exact wk_X6_erasesOfAll_4 C hap (fun h hP hS hl => ih h hP hS hl) h hP hS hl
def wp_X6_erasesOfAll (σ : Rg) (μ : Ar) (Q : Int32 → Rg → Ar → Prop) : Prop := ∃ n, wl_X6_erasesOfAll_4 Q n σ μ (0 : Int32) (0 : Int32)
set_option maxHeartbeats 4000000 in
set_option maxRecDepth 100000 in
theorem ct_X6_erasesOfAll (l : Launch) (D : va_G) (cy : ClassId) (Ad : Nat → Nat) (hap : apt 8 Ad) {σ : Rg} {μ : Ar}  {Q : Int32 → Rg → Ar → Prop} (h : wp_X6_erasesOfAll σ μ  Q) : Ct l yX6_erasesOfAll cX6_erasesOfAll 3 (some FieldType.int) rmX6_erasesOfAll D [(cy, .int)] (fun H => va_P D vwCl (wM Ad cy σ μ) H) [.ref (Ad 0)] (AS 8 Ad) (PWi (wM Ad cy) D Q) := by
  refine Ct.of (by decide) (Nat.le_of_ble_eq_true rfl) ?_
  intro p e s m below meth c ls C hP hl
  have hl : lv_has ls 3 [(0, .ref (Ad 0))] := hl
  have hS : va_S (AS 8 Ad) s.heap s.heap [] := va_S.rf
  have hx := C.1
  have hb := C.2.1
  refine lv_iconst (v := 0) hx hb dX6_erasesOfAll_0 (by decide) ?_
  refine lv_istore_n (lv' := [(1, .int (0 : Int32)), (0, .ref (Ad 0))]) hx hb dX6_erasesOfAll_1 rfl hl (by decide) rfl (fun ls hl => ?_)
  refine lv_iconst (v := 0) hx hb dX6_erasesOfAll_2 (by decide) ?_
  refine lv_istore_n (lv' := [(2, .int (0 : Int32)), (1, .int (0 : Int32)), (0, .ref (Ad 0))]) hx hb dX6_erasesOfAll_3 rfl hl (by decide) rfl (fun ls hl => ?_)
  obtain ⟨n, h⟩ := h
  exact wkl_X6_erasesOfAll_4 C hap n h hP hS (lv_sub hl [2, 1, 0] rfl)
abbrev rmX6_wear : Room := { frames := 2, cells := 0, slots := 0, locals := 40 }
def wb_X6_wear_50 (Q : Int32 → Rg → Ar → Prop) (σ : Rg) (μ : Ar) (t0 : Int32) : Prop := wp_X6_extreme σ μ t0 (fun r50 σ50 μ50 => Q r50 σ50 μ50)
set_option maxHeartbeats 4000000 in
set_option maxRecDepth 100000 in
theorem wk_X6_wear_50 {p : Program} {l : Launch} {e : Env} {s : State} {m : MethodId} {args : Array Value} {below : List Frame} {meth : Method} {c : Code} {D : va_G} {cy : ClassId} {Ad : Nat → Nat} (C : Cx p s m args meth c RX6 cX6_wear 2 (some FieldType.int) D [(cy, .int)]) (hap : apt 8 Ad) {Q : Int32 → Rg → Ar → Prop} {σ : Rg} {μ : Ar} {t0 : Int32} {H : Heap} {locs : List Loc} {ls : Array Slot} (h : wb_X6_wear_50 Q σ μ t0) (hP : va_P D vwCl (wM Ad cy σ μ) H) (hS : va_S (AS 8 Ad) s.heap H locs) (hl : lv_has ls 2 []) : W p l e rmX6_wear s m args below meth c H locs 0 0 (MQ below (Qcg (PWi (wM Ad cy) D Q) (AS 8 Ad)) args s 0 0 (AS 8 Ad)) (F0 m 50 ls [.int t0, .ref (Ad 0)]) := by
  have hx := C.1
  have hb := C.2.1
  refine kWi (rnV C (ct_X6_extreme l D cy Ad hap h) yv_X6_extreme wq_1274 ⟨rfl, rfl⟩ ⟨Nat.le_of_ble_eq_true rfl, Nat.le_of_ble_eq_true rfl⟩ ⟨Nat.zero_le _, Nat.zero_le _⟩ (vM_model C hP) hP hl.1 rfl rfl (Nat.le_of_ble_eq_true rfl) dX6_wear_50) hS (fun _ h => h) (fun r50 σ50 μ50 H locs h hP hk hS => ?_)
  exact endI C hS ⟨_, _, _, rfl, h, hP⟩ dX6_wear_53
def wb_X6_wear_101 (Q : Int32 → Rg → Ar → Prop) (σ : Rg) (μ : Ar) (t0 : Int32) : Prop := Q t0 σ μ
set_option maxHeartbeats 4000000 in
set_option maxRecDepth 100000 in
theorem wk_X6_wear_101 {p : Program} {l : Launch} {e : Env} {s : State} {m : MethodId} {args : Array Value} {below : List Frame} {meth : Method} {c : Code} {D : va_G} {cy : ClassId} {Ad : Nat → Nat} (C : Cx p s m args meth c RX6 cX6_wear 2 (some FieldType.int) D [(cy, .int)]) (hap : apt 8 Ad) {Q : Int32 → Rg → Ar → Prop} {σ : Rg} {μ : Ar} {t0 : Int32} {H : Heap} {locs : List Loc} {ls : Array Slot} (h : wb_X6_wear_101 Q σ μ t0) (hP : va_P D vwCl (wM Ad cy σ μ) H) (hS : va_S (AS 8 Ad) s.heap H locs) (hl : lv_has ls 2 []) : W p l e rmX6_wear s m args below meth c H locs 0 0 (MQ below (Qcg (PWi (wM Ad cy) D Q) (AS 8 Ad)) args s 0 0 (AS 8 Ad)) (F0 m 101 ls [.int t0]) := by
  have hx := C.1
  have hb := C.2.1
  exact endI C hS ⟨_, _, _, rfl, h, hP⟩ dX6_wear_101
def wp_X6_wear (σ : Rg) (μ : Ar) (x1 : Int32) (Q : Int32 → Rg → Ar → Prop) : Prop := ∀ σ2 : Rg, σ2 = upd σ 0 (0 : Int32) → ((((x1).toInt < 0 ∨ 4 < (x1).toInt → Q (-1 : Int32) σ2 μ) ∧ (x1 = 0 → ((¬ x1 = 0 → wb_X6_wear_50 Q σ2 μ (0 : Int32)) ∧ (x1 = 0 → wb_X6_wear_50 Q σ2 μ (1 : Int32)))) ∧ (x1 = 1 → ((¬ x1 = 0 → wb_X6_wear_50 Q σ2 μ (0 : Int32)) ∧ (x1 = 0 → wb_X6_wear_50 Q σ2 μ (1 : Int32)))) ∧ (x1 = 2 → wp_X6_erasesOfAll σ2 μ  (fun r55 σ55 μ55 => Q r55 σ55 μ55)) ∧ (x1 = 3 → Q (μ 0 9) σ2 μ) ∧ (x1 = 4 → wp_X6_erasesOfAll σ2 μ  (fun r68 σ68 μ68 => ((¬ r68 = 0 → wp_X6_extreme σ68 μ68 (1 : Int32) (fun r80 σ80 μ80 => wp_X6_erasesOfAll σ80 μ80  (fun r85 σ85 μ85 => (vf_n32 (FP.fdiv (FP.i2f r85) (FP.i2f (μ85 0 0)))) ∧ ((vf_n32 (FP.fdiv (FP.i2f r80) (FP.fdiv (FP.i2f r85) (FP.i2f (μ85 0 0))))) ∧ (wp_Jxf58ca_floatToIntBits_5c35a (FP.fdiv (FP.i2f r80) (FP.fdiv (FP.i2f r85) (FP.i2f (μ85 0 0)))) (fun r98 => wb_X6_wear_101 Q σ85 μ85 r98)))))) ∧ (r68 = 0 → wb_X6_wear_101 Q σ68 μ68 (0 : Int32)))))))
set_option maxHeartbeats 4000000 in
set_option maxRecDepth 100000 in
theorem ct_X6_wear (l : Launch) (D : va_G) (cy : ClassId) (Ad : Nat → Nat) (hap : apt 8 Ad) {σ : Rg} {μ : Ar} {x1 : Int32} {Q : Int32 → Rg → Ar → Prop} (h : wp_X6_wear σ μ x1 Q) : Ct l yX6_wear cX6_wear 2 (some FieldType.int) rmX6_wear D [(cy, .int)] (fun H => va_P D vwCl (wM Ad cy σ μ) H) [.ref (Ad 0), .int x1] (AS 8 Ad) (PWi (wM Ad cy) D Q) := by
  refine Ct.of (by decide) (Nat.le_of_ble_eq_true rfl) ?_
  intro p e s m below meth c ls C hP hl
  have hl : lv_has ls 2 [(0, .ref (Ad 0)), (1, .int x1)] := hl
  have hS : va_S (AS 8 Ad) s.heap s.heap [] := va_S.rf
  have hx := C.1
  have hb := C.2.1
  refine lv_aload_n hx hb dX6_wear_0 rfl (lv_at hl 0 rfl) ?_
  refine lv_iconst (v := 0) hx hb dX6_wear_1 (by decide) ?_
  refine pM_model_thrown C hap (fun _ h => h) hP hS (C.2.2.2.2.2.2.1 _ wq_926) dX6_wear_2 (fun H locs hP hS => ?_)
  obtain ⟨σ2, e2⟩ : ∃ z : Rg, z = upd σ 0 (0 : Int32) := ⟨_, rfl⟩
  have hP : va_P D vwCl (wM Ad cy σ2 μ) H := by rw [e2]; exact hP
  have h := h σ2 e2
  refine lv_iload_n hx hb dX6_wear_5 rfl (lv_at hl 1 rfl) ?_
  by_cases hc : (x1).toInt < 0 ∨ 4 < (x1).toInt
  · have h := h.1 hc
    refine lv_tableOut (tgt := 102) hx hb dX6_wear_6 hc (by decide) ?_
    refine lv_iconst (v := -1) hx hb dX6_wear_102 (by decide) ?_
    exact endI C hS ⟨_, _, _, rfl, h, hP⟩ dX6_wear_103
  · have hr : (x1).toInt = 0 ∨ (x1).toInt = 1 ∨ (x1).toInt = 2 ∨ (x1).toInt = 3 ∨ (x1).toInt = 4 := by omega
    rcases hr with hr | hr | hr | hr | hr
    · have h := h.2.1 (Int32.toInt_inj.mp (by rw [hr]; rfl))
      refine lv_tableIn (off := 34) (tgt := 40) hx hb dX6_wear_6 (by omega) (by omega) (by rw [hr]; rfl) (by decide) ?_
      refine lv_aload_n hx hb dX6_wear_40 rfl (lv_at hl 0 rfl) ?_
      refine lv_iload_n hx hb dX6_wear_41 rfl (lv_at hl 1 rfl) ?_
      refine lv_if_ne (tgt := 49) hx hb dX6_wear_42 (by decide) (fun hc => ?_) (fun hc => ?_)
      · have h := h.1 hc
        refine lv_iconst (v := 0) hx hb dX6_wear_49 (by decide) ?_
        exact wk_X6_wear_50 C hap h hP hS (lv_sub hl [] rfl)
      · have h := h.2 hc
        refine lv_iconst (v := 1) hx hb dX6_wear_45 (by decide) ?_
        refine lv_goto (tgt := 50) hx hb dX6_wear_46 (by decide) ?_
        exact wk_X6_wear_50 C hap h hP hS (lv_sub hl [] rfl)
    · have h := h.2.2.1 (Int32.toInt_inj.mp (by rw [hr]; rfl))
      refine lv_tableIn (off := 34) (tgt := 40) hx hb dX6_wear_6 (by omega) (by omega) (by rw [hr]; rfl) (by decide) ?_
      refine lv_aload_n hx hb dX6_wear_40 rfl (lv_at hl 0 rfl) ?_
      refine lv_iload_n hx hb dX6_wear_41 rfl (lv_at hl 1 rfl) ?_
      refine lv_if_ne (tgt := 49) hx hb dX6_wear_42 (by decide) (fun hc => ?_) (fun hc => ?_)
      · have h := h.1 hc
        refine lv_iconst (v := 0) hx hb dX6_wear_49 (by decide) ?_
        exact wk_X6_wear_50 C hap h hP hS (lv_sub hl [] rfl)
      · have h := h.2 hc
        refine lv_iconst (v := 1) hx hb dX6_wear_45 (by decide) ?_
        refine lv_goto (tgt := 50) hx hb dX6_wear_46 (by decide) ?_
        exact wk_X6_wear_50 C hap h hP hS (lv_sub hl [] rfl)
    · have h := h.2.2.2.1 (Int32.toInt_inj.mp (by rw [hr]; rfl))
      refine lv_tableIn (off := 48) (tgt := 54) hx hb dX6_wear_6 (by omega) (by omega) (by rw [hr]; rfl) (by decide) ?_
      refine lv_aload_n hx hb dX6_wear_54 rfl (lv_at hl 0 rfl) ?_
      refine kWi (rnV C (ct_X6_erasesOfAll l D cy Ad hap h) yv_X6_erasesOfAll wq_1282 ⟨rfl, rfl⟩ ⟨Nat.le_of_ble_eq_true rfl, Nat.le_of_ble_eq_true rfl⟩ ⟨Nat.zero_le _, Nat.zero_le _⟩ (vM_model C hP) hP hl.1 rfl rfl (Nat.le_of_ble_eq_true rfl) dX6_wear_55) hS (fun _ h => h) (fun r55 σ55 μ55 H locs h hP hk hS => ?_)
      exact endI C hS ⟨_, _, _, rfl, h, hP⟩ dX6_wear_58
    · have h := h.2.2.2.2.1 (Int32.toInt_inj.mp (by rw [hr]; rfl))
      refine lv_tableIn (off := 53) (tgt := 59) hx hb dX6_wear_6 (by omega) (by omega) (by rw [hr]; rfl) (by decide) ?_
      refine lv_aload_n hx hb dX6_wear_59 rfl (lv_at hl 0 rfl) ?_
      refine gM_model_x C hP (C.2.2.2.2.2.2.1 _ wq_924) dX6_wear_60 ?_
      refine lv_bipush (v := 9) hx hb dX6_wear_63 (by decide) ?_
      refine lcM_0 C hP tc_9 vi_9_810 dX6_wear_65 ?_
      exact endI C hS ⟨_, _, _, rfl, h, hP⟩ dX6_wear_66
    · have h := h.2.2.2.2.2 (Int32.toInt_inj.mp (by rw [hr]; rfl))
      refine lv_tableIn (off := 61) (tgt := 67) hx hb dX6_wear_6 (by omega) (by omega) (by rw [hr]; rfl) (by decide) ?_
      refine lv_aload_n hx hb dX6_wear_67 rfl (lv_at hl 0 rfl) ?_
      refine kWi (rnV C (ct_X6_erasesOfAll l D cy Ad hap h) yv_X6_erasesOfAll wq_1282 ⟨rfl, rfl⟩ ⟨Nat.le_of_ble_eq_true rfl, Nat.le_of_ble_eq_true rfl⟩ ⟨Nat.zero_le _, Nat.zero_le _⟩ (vM_model C hP) hP hl.1 rfl rfl (Nat.le_of_ble_eq_true rfl) dX6_wear_68) hS (fun _ h => h) (fun r68 σ68 μ68 H locs h hP hk hS => ?_)
      refine lv_if_ne (tgt := 78) hx hb dX6_wear_71 (by decide) (fun hc => ?_) (fun hc => ?_)
      · have h := h.1 hc
        refine lv_aload_n hx hb dX6_wear_78 rfl (lv_at hl 0 rfl) ?_
        refine lv_iconst (v := 1) hx hb dX6_wear_79 (by decide) ?_
        refine kWi (rnV C (ct_X6_extreme l D cy Ad hap h) yv_X6_extreme wq_1274 ⟨rfl, rfl⟩ ⟨Nat.le_of_ble_eq_true rfl, Nat.le_of_ble_eq_true rfl⟩ ⟨Nat.zero_le _, Nat.zero_le _⟩ (vM_model C hP) hP hl.1 rfl rfl (Nat.le_of_ble_eq_true rfl) dX6_wear_80) hS (fun _ h => h) (fun r80 σ80 μ80 H locs h hP hk hS => ?_)
        refine lv_i2f hx hb dX6_wear_83 ?_
        refine lv_aload_n hx hb dX6_wear_84 rfl (lv_at hl 0 rfl) ?_
        refine kWi (rnV C (ct_X6_erasesOfAll l D cy Ad hap h) yv_X6_erasesOfAll wq_1282 ⟨rfl, rfl⟩ ⟨Nat.le_of_ble_eq_true rfl, Nat.le_of_ble_eq_true rfl⟩ ⟨Nat.zero_le _, Nat.zero_le _⟩ (vM_model C hP) hP hl.1 rfl rfl (Nat.le_of_ble_eq_true rfl) dX6_wear_85) hS (fun _ h => h) (fun r85 σ85 μ85 H locs h hP hk hS => ?_)
        refine lv_i2f hx hb dX6_wear_88 ?_
        refine lv_aload_n hx hb dX6_wear_89 rfl (lv_at hl 0 rfl) ?_
        refine gM_model_x C hP (C.2.2.2.2.2.2.1 _ wq_924) dX6_wear_90 ?_
        refine lv_iconst (v := 0) hx hb dX6_wear_93 (by decide) ?_
        refine lcM_0 C hP tc_0 vi_0_810 dX6_wear_94 ?_
        refine lv_i2f hx hb dX6_wear_95 ?_
        obtain ⟨hc, h⟩ := h
        refine lv_fdiv hx hb dX6_wear_96 hc ?_
        obtain ⟨hc, h⟩ := h
        refine lv_fdiv hx hb dX6_wear_97 hc ?_
        refine kNi (rnS (C.none) (ct_Jxf58ca_floatToIntBits_5c35a l D h) ys_Jxf58ca_floatToIntBits_5c35a wq_1286 ⟨rfl, rfl⟩ ⟨Nat.le_of_ble_eq_true rfl, Nat.le_of_ble_eq_true rfl⟩ ⟨Nat.zero_le _, Nat.zero_le _⟩ trivial hl.1 rfl rfl (Nat.le_of_ble_eq_true rfl) dX6_wear_98) hS (fun _ h => h.elim) (fun r98 H locs h hk hS => ?_)
        have hP := keepN hP hk
        exact wk_X6_wear_101 C hap h hP hS (lv_sub hl [] rfl)
      · have h := h.2 hc
        refine lv_iconst (v := 0) hx hb dX6_wear_74 (by decide) ?_
        refine lv_goto (tgt := 101) hx hb dX6_wear_75 (by decide) ?_
        exact wk_X6_wear_101 C hap h hP hS (lv_sub hl [] rfl)
abbrev rmX6_tags : Room := { frames := 3, cells := 0, slots := 0, locals := 72 }
def wb_X6_tags_56 (Q : Int64 → Rg → Ar → Prop) (k30 : Rg → Ar → Int64 → Int32 → Prop) (σ : Rg) (μ : Ar) (v1 : Int64) (v3 : Int32) : Prop := ∀ y56 : Int32, y56 = v3 + (1 : Int32) → (k30 σ μ v1 y56)
set_option maxHeartbeats 4000000 in
set_option maxRecDepth 100000 in
theorem wk_X6_tags_56 {p : Program} {l : Launch} {e : Env} {s : State} {m : MethodId} {args : Array Value} {below : List Frame} {meth : Method} {c : Code} {D : va_G} {cy : ClassId} {Ad : Nat → Nat} (C : Cx p s m args meth c RX6 cX6_tags 4 (some FieldType.long) D [(cy, .int)]) (hap : apt 8 Ad) {Q : Int64 → Rg → Ar → Prop} {k30 : Rg → Ar → Int64 → Int32 → Prop} (hk30 : ∀ {σ : Rg} {μ : Ar} {v1 : Int64} {v3 : Int32} {H : Heap} {locs : List Loc} {ls : Array Slot}, k30 σ μ v1 v3 → va_P D vwCl (wM Ad cy σ μ) H → va_S (AS 8 Ad) s.heap H locs → lv_has ls 4 [(0, .ref (Ad 0)), (1, .long v1), (3, .int v3)] → W p l e rmX6_tags s m args below meth c H locs 0 0 (MQ below (Qcg (PWl (wM Ad cy) D Q) (AS 8 Ad)) args s 0 0 (AS 8 Ad)) (F0 m 30 ls [])) {σ : Rg} {μ : Ar} {v1 : Int64} {v3 : Int32} {H : Heap} {locs : List Loc} {ls : Array Slot} (h : wb_X6_tags_56 Q k30 σ μ v1 v3) (hP : va_P D vwCl (wM Ad cy σ μ) H) (hS : va_S (AS 8 Ad) s.heap H locs) (hl : lv_has ls 4 [(0, .ref (Ad 0)), (1, .long v1), (3, .int v3)]) : W p l e rmX6_tags s m args below meth c H locs 0 0 (MQ below (Qcg (PWl (wM Ad cy) D Q) (AS 8 Ad)) args s 0 0 (AS 8 Ad)) (F0 m 56 ls []) := by
  have hx := C.1
  have hb := C.2.1
  obtain ⟨y56, e56⟩ : ∃ y : Int32, y = v3 + (1 : Int32) := ⟨_, rfl⟩
  have h := h y56 e56
  refine lv_iinc (v := y56) (lv' := [(3, .int y56), (0, .ref (Ad 0)), (1, .long v1)]) hx hb dX6_tags_56 hl (k := 2) rfl (by rw [e56]; rfl) (by decide) rfl (fun ls hl => ?_)
  refine lv_goto (tgt := 30) hx hb dX6_tags_59 (by decide) ?_
  exact hk30 h hP hS (lv_sub hl [1, 2, 0] rfl)
def wb_X6_tags_30 (Q : Int64 → Rg → Ar → Prop) (k30 : Rg → Ar → Int64 → Int32 → Prop) (σ : Rg) (μ : Ar) (v1 : Int64) (v3 : Int32) : Prop := (((48 : Int32) ≤ v3 → Q v1 σ μ) ∧ (¬ (48 : Int32) ≤ v3 → wp_X6_hasValue σ μ (μ 0 3) v3 (fun r44 σ44 μ44 => ((r44 = 0 → wb_X6_tags_56 Q k30 σ44 μ44 v1 v3) ∧ (¬ r44 = 0 → ∀ y55 : Int64, y55 = (v1 ||| ((1 : Int64) <<< ((v3).toInt64 &&& 63))) → (wb_X6_tags_56 Q k30 σ44 μ44 y55 v3))))))
set_option maxHeartbeats 4000000 in
set_option maxRecDepth 100000 in
theorem wk_X6_tags_30 {p : Program} {l : Launch} {e : Env} {s : State} {m : MethodId} {args : Array Value} {below : List Frame} {meth : Method} {c : Code} {D : va_G} {cy : ClassId} {Ad : Nat → Nat} (C : Cx p s m args meth c RX6 cX6_tags 4 (some FieldType.long) D [(cy, .int)]) (hap : apt 8 Ad) {Q : Int64 → Rg → Ar → Prop} {k30 : Rg → Ar → Int64 → Int32 → Prop} (hk30 : ∀ {σ : Rg} {μ : Ar} {v1 : Int64} {v3 : Int32} {H : Heap} {locs : List Loc} {ls : Array Slot}, k30 σ μ v1 v3 → va_P D vwCl (wM Ad cy σ μ) H → va_S (AS 8 Ad) s.heap H locs → lv_has ls 4 [(0, .ref (Ad 0)), (1, .long v1), (3, .int v3)] → W p l e rmX6_tags s m args below meth c H locs 0 0 (MQ below (Qcg (PWl (wM Ad cy) D Q) (AS 8 Ad)) args s 0 0 (AS 8 Ad)) (F0 m 30 ls [])) {σ : Rg} {μ : Ar} {v1 : Int64} {v3 : Int32} {H : Heap} {locs : List Loc} {ls : Array Slot} (h : wb_X6_tags_30 Q k30 σ μ v1 v3) (hP : va_P D vwCl (wM Ad cy σ μ) H) (hS : va_S (AS 8 Ad) s.heap H locs) (hl : lv_has ls 4 [(0, .ref (Ad 0)), (1, .long v1), (3, .int v3)]) : W p l e rmX6_tags s m args below meth c H locs 0 0 (MQ below (Qcg (PWl (wM Ad cy) D Q) (AS 8 Ad)) args s 0 0 (AS 8 Ad)) (F0 m 30 ls []) := by
  have hx := C.1
  have hb := C.2.1
  refine lv_iload_n hx hb dX6_tags_30 rfl (lv_at hl 2 rfl) ?_
  refine lv_bipush (v := 48) hx hb dX6_tags_31 (by decide) ?_
  refine lv_icmp_ge (tgt := 62) hx hb dX6_tags_33 (by decide) (fun hc => ?_) (fun hc => ?_)
  · have h := h.1 hc
    refine lv_lload_n hx hb dX6_tags_62 rfl (lv_at hl 1 rfl) ?_
    exact endL C hS ⟨_, _, _, rfl, h, hP⟩ dX6_tags_63
  · have h := h.2 hc
    refine lv_aload_n hx hb dX6_tags_36 rfl (lv_at hl 0 rfl) ?_
    refine lv_aload_n hx hb dX6_tags_37 rfl (lv_at hl 0 rfl) ?_
    refine gM_model_x C hP (C.2.2.2.2.2.2.1 _ wq_924) dX6_tags_38 ?_
    refine lv_iconst (v := 3) hx hb dX6_tags_41 (by decide) ?_
    refine lcM_0 C hP tc_3 vi_3_810 dX6_tags_42 ?_
    refine lv_iload_n hx hb dX6_tags_43 rfl (lv_at hl 2 rfl) ?_
    refine kWi (rnV C (ct_X6_hasValue l D cy Ad hap h) yv_X6_hasValue wq_1064 ⟨rfl, rfl⟩ ⟨Nat.le_of_ble_eq_true rfl, Nat.le_of_ble_eq_true rfl⟩ ⟨Nat.zero_le _, Nat.zero_le _⟩ (vM_model C hP) hP hl.1 rfl rfl (Nat.le_of_ble_eq_true rfl) dX6_tags_44) hS (fun _ h => h) (fun r44 σ44 μ44 H locs h hP hk hS => ?_)
    refine lv_if_eq (tgt := 56) hx hb dX6_tags_47 (by decide) (fun hc => ?_) (fun hc => ?_)
    · have h := h.1 hc
      exact wk_X6_tags_56 C hap hk30 h hP hS (lv_sub hl [0, 1, 2] rfl)
    · have h := h.2 hc
      refine lv_lload_n hx hb dX6_tags_50 rfl (lv_at hl 1 rfl) ?_
      refine lv_lconst (v := 1) hx hb dX6_tags_51 (by decide) ?_
      refine lv_iload_n hx hb dX6_tags_52 rfl (lv_at hl 2 rfl) ?_
      refine lv_lshl hx hb dX6_tags_53 rfl ?_
      refine lv_lor hx hb dX6_tags_54 ?_
      refine lv_topl (fun y55 e55 => ?_)
      have h := h y55 e55
      refine lv_lstore_n (lv' := [(1, .long y55), (0, .ref (Ad 0)), (3, .int v3)]) hx hb dX6_tags_55 rfl hl (by decide) rfl (fun ls hl => ?_)
      exact wk_X6_tags_56 C hap hk30 h hP hS (lv_sub hl [1, 0, 2] rfl)
def wl_X6_tags_30 (Q : Int64 → Rg → Ar → Prop) (n : Nat) : Rg → Ar → Int64 → Int32 → Prop := Nat.rec (motive := fun _ => Rg → Ar → Int64 → Int32 → Prop) (fun _ _ _ _ => False) (fun _ k => wb_X6_tags_30 Q k) n
set_option maxHeartbeats 4000000 in
theorem wkl_X6_tags_30 {p : Program} {l : Launch} {e : Env} {s : State} {m : MethodId} {args : Array Value} {below : List Frame} {meth : Method} {c : Code} {D : va_G} {cy : ClassId} {Ad : Nat → Nat} (C : Cx p s m args meth c RX6 cX6_tags 4 (some FieldType.long) D [(cy, .int)]) (hap : apt 8 Ad) {Q : Int64 → Rg → Ar → Prop}  : ∀ (n : Nat) {σ : Rg} {μ : Ar} {v1 : Int64} {v3 : Int32} {H : Heap} {locs : List Loc} {ls : Array Slot} (h : wl_X6_tags_30 Q  n σ μ v1 v3) (hP : va_P D vwCl (wM Ad cy σ μ) H) (hS : va_S (AS 8 Ad) s.heap H locs) (hl : lv_has ls 4 [(0, .ref (Ad 0)), (1, .long v1), (3, .int v3)]), W p l e rmX6_tags s m args below meth c H locs 0 0 (MQ below (Qcg (PWl (wM Ad cy) D Q) (AS 8 Ad)) args s 0 0 (AS 8 Ad)) (F0 m 30 ls []) := by
  intro n
  induction n with
  | zero => intro σ μ v1 v3 H locs ls h; exact h.elim
  | succ n ih =>
    intro σ μ v1 v3 H locs ls h hP hS hl
    exact wk_X6_tags_30 C hap (fun h hP hS hl => ih h hP hS hl) h hP hS hl
def wp_X6_tags (σ : Rg) (μ : Ar) (Q : Int64 → Rg → Ar → Prop) : Prop := ∀ σ2 : Rg, σ2 = upd σ 0 (0 : Int32) → (wp_X6_isOn σ2 μ  (fun r6 σ6 μ6 => ((¬ r6 = 0 → wp_X6_reads σ6 μ6 (μ6 0 3) (fun σ23 μ23 => ∃ n, wl_X6_tags_30 Q n σ23 μ23 (0 : Int64) (0 : Int32))) ∧ (r6 = 0 → Q (-1 : Int64) σ6 μ6))))
set_option maxHeartbeats 4000000 in
set_option maxRecDepth 100000 in
theorem ct_X6_tags (l : Launch) (D : va_G) (cy : ClassId) (Ad : Nat → Nat) (hap : apt 8 Ad) {σ : Rg} {μ : Ar}  {Q : Int64 → Rg → Ar → Prop} (h : wp_X6_tags σ μ  Q) : Ct l yX6_tags cX6_tags 4 (some FieldType.long) rmX6_tags D [(cy, .int)] (fun H => va_P D vwCl (wM Ad cy σ μ) H) [.ref (Ad 0)] (AS 8 Ad) (PWl (wM Ad cy) D Q) := by
  refine Ct.of (by decide) (Nat.le_of_ble_eq_true rfl) ?_
  intro p e s m below meth c ls C hP hl
  have hl : lv_has ls 4 [(0, .ref (Ad 0))] := hl
  have hS : va_S (AS 8 Ad) s.heap s.heap [] := va_S.rf
  have hx := C.1
  have hb := C.2.1
  refine lv_aload_n hx hb dX6_tags_0 rfl (lv_at hl 0 rfl) ?_
  refine lv_iconst (v := 0) hx hb dX6_tags_1 (by decide) ?_
  refine pM_model_thrown C hap (fun _ h => h) hP hS (C.2.2.2.2.2.2.1 _ wq_926) dX6_tags_2 (fun H locs hP hS => ?_)
  obtain ⟨σ2, e2⟩ : ∃ z : Rg, z = upd σ 0 (0 : Int32) := ⟨_, rfl⟩
  have hP : va_P D vwCl (wM Ad cy σ2 μ) H := by rw [e2]; exact hP
  have h := h σ2 e2
  refine lv_aload_n hx hb dX6_tags_5 rfl (lv_at hl 0 rfl) ?_
  refine kWi (rnV C (ct_X6_isOn l D cy Ad hap h) yv_X6_isOn wq_981 ⟨rfl, rfl⟩ ⟨Nat.le_of_ble_eq_true rfl, Nat.le_of_ble_eq_true rfl⟩ ⟨Nat.zero_le _, Nat.zero_le _⟩ (vM_model C hP) hP hl.1 rfl rfl (Nat.le_of_ble_eq_true rfl) dX6_tags_6) hS (fun _ h => h) (fun r6 σ6 μ6 H locs h hP hk hS => ?_)
  refine lv_if_ne (tgt := 16) hx hb dX6_tags_9 (by decide) (fun hc => ?_) (fun hc => ?_)
  · have h := h.1 hc
    refine lv_aload_n hx hb dX6_tags_16 rfl (lv_at hl 0 rfl) ?_
    refine lv_aload_n hx hb dX6_tags_17 rfl (lv_at hl 0 rfl) ?_
    refine gM_model_x C hP (C.2.2.2.2.2.2.1 _ wq_924) dX6_tags_18 ?_
    refine lv_iconst (v := 3) hx hb dX6_tags_21 (by decide) ?_
    refine lcM_0 C hP tc_3 vi_3_810 dX6_tags_22 ?_
    refine kWv (rnV C (ct_X6_reads l D cy Ad hap h) yv_X6_reads wq_1036 ⟨rfl, rfl⟩ ⟨Nat.le_of_ble_eq_true rfl, Nat.le_of_ble_eq_true rfl⟩ ⟨Nat.zero_le _, Nat.zero_le _⟩ (vM_model C hP) hP hl.1 rfl rfl (Nat.le_of_ble_eq_true rfl) dX6_tags_23) hS (fun _ h => h) (fun σ23 μ23 H locs h hP hk hS => ?_)
    refine lv_lconst (v := 0) hx hb dX6_tags_26 (by decide) ?_
    refine lv_lstore_n (lv' := [(1, .long (0 : Int64)), (0, .ref (Ad 0))]) hx hb dX6_tags_27 rfl hl (by decide) rfl (fun ls hl => ?_)
    refine lv_iconst (v := 0) hx hb dX6_tags_28 (by decide) ?_
    refine lv_istore_n (lv' := [(3, .int (0 : Int32)), (1, .long (0 : Int64)), (0, .ref (Ad 0))]) hx hb dX6_tags_29 rfl hl (by decide) rfl (fun ls hl => ?_)
    obtain ⟨n, h⟩ := h
    exact wkl_X6_tags_30 C hap n h hP hS (lv_sub hl [2, 1, 0] rfl)
  · have h := h.2 hc
    refine lv_ldc2 hx hb C.2.2.2.1 (C.2.2.2.2.2.2.1 _ wq_1208) dX6_tags_12 ?_
    exact endL C hS ⟨_, _, _, rfl, h, hP⟩ dX6_tags_15
abbrev rmX6_count : Room := { frames := 1, cells := 0, slots := 0, locals := 20 }
def wb_X6_count_90 (Q : Int32 → Rg → Ar → Prop) (σ : Rg) (μ : Ar) (t0 : Int32) : Prop := Q t0 σ μ
set_option maxHeartbeats 4000000 in
set_option maxRecDepth 100000 in
theorem wk_X6_count_90 {p : Program} {l : Launch} {e : Env} {s : State} {m : MethodId} {args : Array Value} {below : List Frame} {meth : Method} {c : Code} {D : va_G} {cy : ClassId} {Ad : Nat → Nat} (C : Cx p s m args meth c RX6 cX6_count 2 (some FieldType.int) D [(cy, .int)]) (hap : apt 8 Ad) {Q : Int32 → Rg → Ar → Prop} {σ : Rg} {μ : Ar} {t0 : Int32} {H : Heap} {locs : List Loc} {ls : Array Slot} (h : wb_X6_count_90 Q σ μ t0) (hP : va_P D vwCl (wM Ad cy σ μ) H) (hS : va_S (AS 8 Ad) s.heap H locs) (hl : lv_has ls 2 []) : W p l e rmX6_count s m args below meth c H locs 0 0 (MQ below (Qcg (PWi (wM Ad cy) D Q) (AS 8 Ad)) args s 0 0 (AS 8 Ad)) (F0 m 90 ls [.int t0]) := by
  have hx := C.1
  have hb := C.2.1
  exact endI C hS ⟨_, _, _, rfl, h, hP⟩ dX6_count_90
def wb_X6_count_113 (Q : Int32 → Rg → Ar → Prop) (σ : Rg) (μ : Ar) (t0 : Int32) : Prop := Q t0 σ μ
set_option maxHeartbeats 4000000 in
set_option maxRecDepth 100000 in
theorem wk_X6_count_113 {p : Program} {l : Launch} {e : Env} {s : State} {m : MethodId} {args : Array Value} {below : List Frame} {meth : Method} {c : Code} {D : va_G} {cy : ClassId} {Ad : Nat → Nat} (C : Cx p s m args meth c RX6 cX6_count 2 (some FieldType.int) D [(cy, .int)]) (hap : apt 8 Ad) {Q : Int32 → Rg → Ar → Prop} {σ : Rg} {μ : Ar} {t0 : Int32} {H : Heap} {locs : List Loc} {ls : Array Slot} (h : wb_X6_count_113 Q σ μ t0) (hP : va_P D vwCl (wM Ad cy σ μ) H) (hS : va_S (AS 8 Ad) s.heap H locs) (hl : lv_has ls 2 []) : W p l e rmX6_count s m args below meth c H locs 0 0 (MQ below (Qcg (PWi (wM Ad cy) D Q) (AS 8 Ad)) args s 0 0 (AS 8 Ad)) (F0 m 113 ls [.int t0]) := by
  have hx := C.1
  have hb := C.2.1
  exact endI C hS ⟨_, _, _, rfl, h, hP⟩ dX6_count_113
def wp_X6_count (σ : Rg) (μ : Ar) (x1 : Int32) (Q : Int32 → Rg → Ar → Prop) : Prop := ∀ σ2 : Rg, σ2 = upd σ 0 (0 : Int32) → ((((x1).toInt < 0 ∨ 7 < (x1).toInt → Q (-1 : Int32) σ2 μ) ∧ (x1 = 0 → Q (μ 0 0) σ2 μ) ∧ (x1 = 1 → Q (μ 0 1) σ2 μ) ∧ (x1 = 2 → Q (μ 0 2) σ2 μ) ∧ (x1 = 3 → wp_X6_isOn σ2 μ  (fun r74 σ74 μ74 => ((r74 = 0 → wb_X6_count_90 Q σ74 μ74 (-1 : Int32)) ∧ (¬ r74 = 0 → wb_X6_count_90 Q σ74 μ74 (μ74 0 3))))) ∧ (x1 = 4 → ((¬ (μ 0 10) = (1 : Int32) → wb_X6_count_113 Q σ2 μ (-1 : Int32)) ∧ ((μ 0 10) = (1 : Int32) → wb_X6_count_113 Q σ2 μ (μ 0 11)))) ∧ (x1 = 5 → Q (μ 0 4) σ2 μ) ∧ (x1 = 6 → Q (μ 0 6) σ2 μ) ∧ (x1 = 7 → Q (μ 0 7) σ2 μ)))
set_option maxHeartbeats 4000000 in
set_option maxRecDepth 100000 in
theorem ct_X6_count (l : Launch) (D : va_G) (cy : ClassId) (Ad : Nat → Nat) (hap : apt 8 Ad) {σ : Rg} {μ : Ar} {x1 : Int32} {Q : Int32 → Rg → Ar → Prop} (h : wp_X6_count σ μ x1 Q) : Ct l yX6_count cX6_count 2 (some FieldType.int) rmX6_count D [(cy, .int)] (fun H => va_P D vwCl (wM Ad cy σ μ) H) [.ref (Ad 0), .int x1] (AS 8 Ad) (PWi (wM Ad cy) D Q) := by
  refine Ct.of (by decide) (Nat.le_of_ble_eq_true rfl) ?_
  intro p e s m below meth c ls C hP hl
  have hl : lv_has ls 2 [(0, .ref (Ad 0)), (1, .int x1)] := hl
  have hS : va_S (AS 8 Ad) s.heap s.heap [] := va_S.rf
  have hx := C.1
  have hb := C.2.1
  refine lv_aload_n hx hb dX6_count_0 rfl (lv_at hl 0 rfl) ?_
  refine lv_iconst (v := 0) hx hb dX6_count_1 (by decide) ?_
  refine pM_model_thrown C hap (fun _ h => h) hP hS (C.2.2.2.2.2.2.1 _ wq_926) dX6_count_2 (fun H locs hP hS => ?_)
  obtain ⟨σ2, e2⟩ : ∃ z : Rg, z = upd σ 0 (0 : Int32) := ⟨_, rfl⟩
  have hP : va_P D vwCl (wM Ad cy σ2 μ) H := by rw [e2]; exact hP
  have h := h σ2 e2
  refine lv_iload_n hx hb dX6_count_5 rfl (lv_at hl 1 rfl) ?_
  by_cases hc : (x1).toInt < 0 ∨ 7 < (x1).toInt
  · have h := h.1 hc
    refine lv_tableOut (tgt := 137) hx hb dX6_count_6 hc (by decide) ?_
    refine lv_iconst (v := -1) hx hb dX6_count_137 (by decide) ?_
    exact endI C hS ⟨_, _, _, rfl, h, hP⟩ dX6_count_138
  · have hr : (x1).toInt = 0 ∨ (x1).toInt = 1 ∨ (x1).toInt = 2 ∨ (x1).toInt = 3 ∨ (x1).toInt = 4 ∨ (x1).toInt = 5 ∨ (x1).toInt = 6 ∨ (x1).toInt = 7 := by omega
    rcases hr with hr | hr | hr | hr | hr | hr | hr | hr
    · have h := h.2.1 (Int32.toInt_inj.mp (by rw [hr]; rfl))
      refine lv_tableIn (off := 46) (tgt := 52) hx hb dX6_count_6 (by omega) (by omega) (by rw [hr]; rfl) (by decide) ?_
      refine lv_aload_n hx hb dX6_count_52 rfl (lv_at hl 0 rfl) ?_
      refine gM_model_x C hP (C.2.2.2.2.2.2.1 _ wq_924) dX6_count_53 ?_
      refine lv_iconst (v := 0) hx hb dX6_count_56 (by decide) ?_
      refine lcM_0 C hP tc_0 vi_0_810 dX6_count_57 ?_
      exact endI C hS ⟨_, _, _, rfl, h, hP⟩ dX6_count_58
    · have h := h.2.2.1 (Int32.toInt_inj.mp (by rw [hr]; rfl))
      refine lv_tableIn (off := 53) (tgt := 59) hx hb dX6_count_6 (by omega) (by omega) (by rw [hr]; rfl) (by decide) ?_
      refine lv_aload_n hx hb dX6_count_59 rfl (lv_at hl 0 rfl) ?_
      refine gM_model_x C hP (C.2.2.2.2.2.2.1 _ wq_924) dX6_count_60 ?_
      refine lv_iconst (v := 1) hx hb dX6_count_63 (by decide) ?_
      refine lcM_0 C hP tc_1 vi_1_810 dX6_count_64 ?_
      exact endI C hS ⟨_, _, _, rfl, h, hP⟩ dX6_count_65
    · have h := h.2.2.2.1 (Int32.toInt_inj.mp (by rw [hr]; rfl))
      refine lv_tableIn (off := 60) (tgt := 66) hx hb dX6_count_6 (by omega) (by omega) (by rw [hr]; rfl) (by decide) ?_
      refine lv_aload_n hx hb dX6_count_66 rfl (lv_at hl 0 rfl) ?_
      refine gM_model_x C hP (C.2.2.2.2.2.2.1 _ wq_924) dX6_count_67 ?_
      refine lv_iconst (v := 2) hx hb dX6_count_70 (by decide) ?_
      refine lcM_0 C hP tc_2 vi_2_810 dX6_count_71 ?_
      exact endI C hS ⟨_, _, _, rfl, h, hP⟩ dX6_count_72
    · have h := h.2.2.2.2.1 (Int32.toInt_inj.mp (by rw [hr]; rfl))
      refine lv_tableIn (off := 67) (tgt := 73) hx hb dX6_count_6 (by omega) (by omega) (by rw [hr]; rfl) (by decide) ?_
      refine lv_aload_n hx hb dX6_count_73 rfl (lv_at hl 0 rfl) ?_
      refine kWi (rnV C (ct_X6_isOn l D cy Ad hap h) yv_X6_isOn wq_981 ⟨rfl, rfl⟩ ⟨Nat.le_of_ble_eq_true rfl, Nat.le_of_ble_eq_true rfl⟩ ⟨Nat.zero_le _, Nat.zero_le _⟩ (vM_model C hP) hP hl.1 rfl rfl (Nat.le_of_ble_eq_true rfl) dX6_count_74) hS (fun _ h => h) (fun r74 σ74 μ74 H locs h hP hk hS => ?_)
      refine lv_if_eq (tgt := 89) hx hb dX6_count_77 (by decide) (fun hc => ?_) (fun hc => ?_)
      · have h := h.1 hc
        refine lv_iconst (v := -1) hx hb dX6_count_89 (by decide) ?_
        exact wk_X6_count_90 C hap h hP hS (lv_sub hl [] rfl)
      · have h := h.2 hc
        refine lv_aload_n hx hb dX6_count_80 rfl (lv_at hl 0 rfl) ?_
        refine gM_model_x C hP (C.2.2.2.2.2.2.1 _ wq_924) dX6_count_81 ?_
        refine lv_iconst (v := 3) hx hb dX6_count_84 (by decide) ?_
        refine lcM_0 C hP tc_3 vi_3_810 dX6_count_85 ?_
        refine lv_goto (tgt := 90) hx hb dX6_count_86 (by decide) ?_
        exact wk_X6_count_90 C hap h hP hS (lv_sub hl [] rfl)
    · have h := h.2.2.2.2.2.1 (Int32.toInt_inj.mp (by rw [hr]; rfl))
      refine lv_tableIn (off := 85) (tgt := 91) hx hb dX6_count_6 (by omega) (by omega) (by rw [hr]; rfl) (by decide) ?_
      refine lv_aload_n hx hb dX6_count_91 rfl (lv_at hl 0 rfl) ?_
      refine gM_model_x C hP (C.2.2.2.2.2.2.1 _ wq_924) dX6_count_92 ?_
      refine lv_bipush (v := 10) hx hb dX6_count_95 (by decide) ?_
      refine lcM_0 C hP tc_10 vi_10_810 dX6_count_97 ?_
      refine lv_iconst (v := 1) hx hb dX6_count_98 (by decide) ?_
      refine lv_icmp_ne (tgt := 112) hx hb dX6_count_99 (by decide) (fun hc => ?_) (fun hc => ?_)
      · have h := h.1 hc
        refine lv_iconst (v := -1) hx hb dX6_count_112 (by decide) ?_
        exact wk_X6_count_113 C hap h hP hS (lv_sub hl [] rfl)
      · have h := h.2 hc
        refine lv_aload_n hx hb dX6_count_102 rfl (lv_at hl 0 rfl) ?_
        refine gM_model_x C hP (C.2.2.2.2.2.2.1 _ wq_924) dX6_count_103 ?_
        refine lv_bipush (v := 11) hx hb dX6_count_106 (by decide) ?_
        refine lcM_0 C hP tc_11 vi_11_810 dX6_count_108 ?_
        refine lv_goto (tgt := 113) hx hb dX6_count_109 (by decide) ?_
        exact wk_X6_count_113 C hap h hP hS (lv_sub hl [] rfl)
    · have h := h.2.2.2.2.2.2.1 (Int32.toInt_inj.mp (by rw [hr]; rfl))
      refine lv_tableIn (off := 108) (tgt := 114) hx hb dX6_count_6 (by omega) (by omega) (by rw [hr]; rfl) (by decide) ?_
      refine lv_aload_n hx hb dX6_count_114 rfl (lv_at hl 0 rfl) ?_
      refine gM_model_x C hP (C.2.2.2.2.2.2.1 _ wq_924) dX6_count_115 ?_
      refine lv_iconst (v := 4) hx hb dX6_count_118 (by decide) ?_
      refine lcM_0 C hP tc_4 vi_4_810 dX6_count_119 ?_
      exact endI C hS ⟨_, _, _, rfl, h, hP⟩ dX6_count_120
    · have h := h.2.2.2.2.2.2.2.1 (Int32.toInt_inj.mp (by rw [hr]; rfl))
      refine lv_tableIn (off := 115) (tgt := 121) hx hb dX6_count_6 (by omega) (by omega) (by rw [hr]; rfl) (by decide) ?_
      refine lv_aload_n hx hb dX6_count_121 rfl (lv_at hl 0 rfl) ?_
      refine gM_model_x C hP (C.2.2.2.2.2.2.1 _ wq_924) dX6_count_122 ?_
      refine lv_bipush (v := 6) hx hb dX6_count_125 (by decide) ?_
      refine lcM_0 C hP tc_6 vi_6_810 dX6_count_127 ?_
      exact endI C hS ⟨_, _, _, rfl, h, hP⟩ dX6_count_128
    · have h := h.2.2.2.2.2.2.2.2 (Int32.toInt_inj.mp (by rw [hr]; rfl))
      refine lv_tableIn (off := 123) (tgt := 129) hx hb dX6_count_6 (by omega) (by omega) (by rw [hr]; rfl) (by decide) ?_
      refine lv_aload_n hx hb dX6_count_129 rfl (lv_at hl 0 rfl) ?_
      refine gM_model_x C hP (C.2.2.2.2.2.2.1 _ wq_924) dX6_count_130 ?_
      refine lv_bipush (v := 7) hx hb dX6_count_133 (by decide) ?_
      refine lcM_0 C hP tc_7 vi_7_810 dX6_count_135 ?_
      exact endI C hS ⟨_, _, _, rfl, h, hP⟩ dX6_count_136
