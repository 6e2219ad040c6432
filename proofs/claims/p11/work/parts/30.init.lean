section INI
variable {p : Program} {l : Launch} {e : Env} {R : Room} {s : State} {m : MethodId} {args : Array Value} {below : List Frame} {meth : Method} {c : Code} {H : Heap} {locs : List Loc} {cells slots : Nat} {Q : State → Prop}
variable {own : String} {nL : Nat} {ret : Option FieldType} {cc : ByteArray} {pc : Nat} {ls : Array Slot} {rest st0 : List Value} {D : va_G} {cy : ClassId} {Ad : Nat → Nat} {σ : Rg} {μ : Ar} {H0 : Heap} {A : Nat → Prop} {tys : List (ClassId × FieldType)}
theorem one_D {h0 sz : Nat} {x : va_E} : va_D (va_A [(h0, x)] sz) [(h0, x)] := ⟨fun i j p q hi hj _ => by
  have h1 : i < 1 := (List.getElem?_eq_some_iff.mp hi).1
  have h2 : j < 1 := (List.getElem?_eq_some_iff.mp hj).1
  omega, fun k q hk => va_A.in hk⟩
theorem newI {ws : va_W} {n : Int32} {N' : Nat} (C : Cx p s m args meth c own cc nL ret D ((cy, .int) :: tys)) (hP : va_P D vwCl ws H) (hD : va_D A ws) (hS : va_S A H0 H locs) (hA : ∀ q, H0.size ≤ q → A q) (hn : ¬ n < 0) (hN : n.toNatClampNeg = N') (hbytes : N' * componentBytes .int ≤ 536870912) (hcells : cells + 1 ≤ R.cells) (hslots : slots + N' ≤ R.slots) (hdg : decode cc pc = .ok (.newarray .int, 2))
    (kk : ∀ (q : Nat) (H1 : Heap), va_P D vwCl (ws ++ [(q, .inl (cy, N', .inl (fun _ => 0)))]) H1 → va_D A (ws ++ [(q, .inl (cy, N', .inl (fun _ => 0)))]) → va_S A H0 H1 locs → W p l e R s m args below meth c H1 locs (cells + 1) (slots + N') Q (F0 m (pc + 2) ls (.ref q :: rest))) : W p l e R s m args below meth c H locs cells slots Q (F0 m pc ls (.int n :: rest)) := by
  refine va_newa (atype := .int) (ty := .int) (a0 := (N', .inl (fun _ => 0))) C.1 C.2.1 (C.2.2.2.2.2.2.1 _ wq_209) rfl C.2.2.2.2.2.2.2.1 hP hD hS hA (fun cA => rfl) hn hN hbytes hcells hslots hdg (fun q cA H1 hK hP hD hS => ?_)
  have h1 := (hK.2 0 (cy, .int) rfl).2
  have h2 := (hK.2 (((cy, FieldType.int) :: tys).length) (cA, .int) (by rw [List.getElem?_append_right (Nat.le_refl _), Nat.sub_self]; rfl)).2
  have he : cA = cy := Option.some.inj (h2.symm.trans h1)
  subst he
  exact kk q H1 hP hD hS
theorem blindI {w0 : va_W} {h0 sz : Nat} : FrameBlind (va_Pc [.ref h0] (fun U => U.heap.size = sz ∧ va_P D vwCl w0 U.heap ∧ va_K D vwCl [(cy, .int)] U ∧ NW U)) := fun a U g mk h => ⟨h.1, h.2.1, h.2.2.1, va_K.moved (u := U) (U := U.calling g mk a) (Vm.Alike.refl U.vm) h.2.2.2.1, NW.same (u := U) (U := U.calling g mk a) rfl h.2.2.2.2⟩
theorem preI {w0 : va_W} {h0 : Nat} (C : Cx p s m args meth c own cc nL ret D ((cy, .int) :: tys)) (hP : va_P D vwCl w0 H) : ∀ U : State, U.heap = H → s.WarmedH U.vm → va_Pc [.ref h0] (fun U => U.heap.size = H.size ∧ va_P D vwCl w0 U.heap ∧ va_K D vwCl [(cy, .int)] U ∧ NW U) [Value.ref h0].toArray U := fun U hU hW => ⟨rfl, by rw [hU], by rw [hU]; exact hP, va_K.moved hW.alike (C.2.2.2.2.2.2.2.1.sub [0] rfl), C.2.2.2.2.2.2.2.2.warm hW⟩
theorem getOf {n : Nat} {ws : va_W} (h : ofR n Ad ws) {k : Nat} (hk : k < n) : ∃ x, ws[k]? = some (Ad k, x) := by
  have hl : ws.length = n := by have := congrArg List.length h; rw [List.length_map, List.length_map, List.length_range] at this; exact this
  have h1 : ws[k]? = some ws[k] := List.getElem?_eq_getElem (by omega)
  exact ⟨ws[k].2, by rw [h1, ← (h.at h1).2]⟩
theorem aptOf {n : Nat} {ws : va_W} (h : ofR n Ad ws) (hD : va_D A ws) : apt n Ad := fun i j hi hj e => by
  obtain ⟨x, hx⟩ := getOf h hi
  obtain ⟨y, hy⟩ := getOf h hj
  exact hD.1 i j _ _ hx hy e
theorem inOf {n : Nat} {ws : va_W} (h : ofR n Ad ws) (hD : va_D A ws) {q : Nat} (hq : AS n Ad q) : A q := by
  obtain ⟨k, hk, rfl⟩ := hq
  obtain ⟨x, hx⟩ := getOf h hk
  exact hD.2 k _ hx
theorem dOf {n : Nat} {ws w2 : va_W} (h : ofR n Ad ws) (hD : va_D A ws) (h2 : ofR n Ad w2 := by exact rfl) : va_D A w2 := (dW h2 (aptOf h hD)).weaken (fun _ _ _ hq => inOf h hD hq)
theorem apXof {h0 : Nat} {Aa Ab : Nat → Nat} {σa σb : Rg} {μa μb : Ar} {x : va_E} (ha : apt 18 Aa) (hb : apt 18 Ab) (hD : va_D A (((h0, x) :: wS Aa cy σa μa) ++ wS Ab cy σb μb)) : apX h0 Aa Ab := by
  have g0 : (((h0, x) :: wS Aa cy σa μa) ++ wS Ab cy σb μb)[0]? = some (h0, x) := rfl
  have ga : ∀ k, k < 18 → ∃ y, (((h0, x) :: wS Aa cy σa μa) ++ wS Ab cy σb μb)[k + 1]? = some (Aa k, y) := fun k hk => by
    obtain ⟨y, hy⟩ := getOf (rS (Ad := Aa) (cy := cy) (σ := σa) (μ := μa)) hk
    refine ⟨y, ?_⟩
    rw [List.getElem?_append_left (by rw [List.length_cons]; have : (wS Aa cy σa μa).length = 18 := rfl; omega), List.getElem?_cons_succ]
    exact hy
  have gb : ∀ k, k < 18 → ∃ y, (((h0, x) :: wS Aa cy σa μa) ++ wS Ab cy σb μb)[k + 19]? = some (Ab k, y) := fun k hk => by
    obtain ⟨y, hy⟩ := getOf (rS (Ad := Ab) (cy := cy) (σ := σb) (μ := μb)) hk
    refine ⟨y, ?_⟩
    rw [List.getElem?_append_right (by rw [List.length_cons]; have : (wS Aa cy σa μa).length = 18 := rfl; omega)]
    rw [show k + 19 - ((h0, x) :: wS Aa cy σa μa).length = k by rw [List.length_cons]; have : (wS Aa cy σa μa).length = 18 := rfl; omega]
    exact hy
  refine ⟨ha, hb, ?_, ?_, ?_, ?_⟩
  · rintro k hk ⟨j, hj, e⟩
    obtain ⟨y, hy⟩ := ga j hj
    obtain ⟨z, hz⟩ := gb k hk
    have := hD.1 _ _ _ _ hz hy e
    omega
  · rintro k hk ⟨j, hj, e⟩
    obtain ⟨y, hy⟩ := gb j hj
    obtain ⟨z, hz⟩ := ga k hk
    have := hD.1 _ _ _ _ hz hy e
    omega
  · rintro ⟨j, hj, e⟩
    obtain ⟨y, hy⟩ := ga j hj
    have := hD.1 _ _ _ _ g0 hy e
    omega
  · rintro ⟨j, hj, e⟩
    obtain ⟨y, hy⟩ := gb j hj
    have := hD.1 _ _ _ _ g0 hy e
    omega
end INI

abbrev ws_X0_init (h0 : Nat) (cy : ClassId) (u : Nat → Nat) : va_W := [(h0, .inr (0, [.ref (u 1), .ref (u 2), .ref (u 3), .int 0, .int 0])), (u 1, .inl (cy, 8, .inl (fun _ => 0))), (u 2, .inl (cy, 8, .inl (fun _ => 0))), (u 3, .inl (cy, 8, .inl (fun _ => 0)))]
abbrev rmX0_init : Room := { frames := 1, cells := 3, slots := 24, locals := 12 }
set_option maxHeartbeats 4000000 in
set_option maxRecDepth 100000 in
theorem ci_X0_init (l : Launch) (D : va_G) (cy : ClassId) (h0 sz : Nat) : Met l yX0_init (wy yX0_init cX0_init 1 none) rmX0_init (va_Pc [.ref h0] (fun U => U.heap.size = sz ∧ va_P D vwCl [(h0, .inr (0, [.null, .null, .null, .int 0, .int 0]))] U.heap ∧ va_K D vwCl [(cy, .int)] U ∧ NW U)) (va_Qv (fun _ : Nat → Nat => True) (fun u t => va_P D vwCl (ws_X0_init h0 cy u) t.heap ∧ va_D (va_A [(h0, .inr (0, [.null, .null, .null, .int 0, .int 0]))] sz) (ws_X0_init h0 cy u)) (va_A [(h0, .inr (0, [.null, .null, .null, .int 0, .int 0]))] sz)) 3 24 (va_A [(h0, .inr (0, [.null, .null, .null, .int 0, .int 0]))] sz) := by
  refine Met.ofW (cc := cX0_init) (maxL := 1) (ret := none) (by decide) rfl ?_
  intro p e s m args below meth c s₁ B hml hv
  obtain ⟨rfl, hsz, hP, hK, hN⟩ := hv
  have hts0 := atoms_spec (ws := wy yX0_init cX0_init 1 none) B.pre
  have C : Cx p s m [Value.ref h0].toArray meth c RX0 cX0_init 1 none D [(cy, .int)] := ⟨B.exec, B.bytes, hml, findClass_of_methodNamed B.named, B.returns, B.notSynchronized, fun w h => hts0 w (List.mem_cons_of_mem _ h), hK, hN⟩
  have hin : meth.name = "<init>" := (name_of_methodNamed B.named B.method).1
  have hlocks := B.notSynchronized
  subst hsz
  have hD0 : va_D (va_A [(h0, .inr (0, [.null, .null, .null, .int 0, .int 0]))] s.heap.size) [(h0, .inr (0, [.null, .null, .null, .int 0, .int 0]))] := one_D
  generalize hAe : va_A [(h0, .inr (0, [.null, .null, .null, .int 0, .int 0]))] s.heap.size = A at hD0 ⊢
  have hA : ∀ q : Nat, s.heap.size ≤ q → A q := fun q h => by rw [← hAe]; exact Or.inr h
  have hS : va_S A s.heap s.heap [] := va_S.rf
  have hl := lv_entry ([.ref h0]) (n := 1) (Nat.le_of_ble_eq_true rfl)
  rw [lg_entry_eq]
  generalize (lg_sl ([.ref h0]) ++ List.replicate (1 - (lg_sl ([.ref h0])).length) Slot.unset).toArray = ls at hl ⊢
  have hl : lv_has ls 1 [(0, .ref h0)] := hl
  have hx := C.1
  have hb := C.2.1
  have hD := hD0
  refine lv_aload_n hx hb dX0_init_0 rfl (lv_at hl 0 rfl) ?_
  refine W.objInit hx hb C.2.2.2.1 (C.2.2.2.2.2.2.1 _ wq_259) (C.2.2.2.2.2.2.1 _ wq_154) (C.2.2.2.2.2.2.1 _ wq_155) rfl (by rw [C.2.2.1]; exact hl.1) rfl dX0_init_1 (Nat.le_of_ble_eq_true rfl) (Nat.le_of_ble_eq_true rfl) ?_
  refine W.eq (g2 := F0 m 4 ls []) rfl ?_
  refine lv_aload_n hx hb dX0_init_4 rfl (lv_at hl 0 rfl) ?_
  refine lv_bipush (v := 8) hx hb dX0_init_5 (by decide) ?_
  refine newI C hP hD hS hA (N' := 8) (by decide) (by decide) (by decide) (Nat.le_of_ble_eq_true rfl) (Nat.le_of_ble_eq_true rfl) dX0_init_7 (fun q1 H hP hD hS => ?_)
  have hP : va_P D vwCl [(h0, .inr (0, [.null, .null, .null, .int 0, .int 0])), (q1, .inl (cy, 8, .inl (fun _ => 0)))] H := hP
  have hD : va_D A [(h0, .inr (0, [.null, .null, .null, .int 0, .int 0])), (q1, .inl (cy, 8, .inl (fun _ => 0)))] := hD
  refine va_putF (D := D) (ci := 0) (v := .ref q1) (ty := .array .int) (C := RX0) (T := TX0) (N := 5) hx hb C.2.2.2.2.2.2.1 inG0 tyX0 tyX0_ok nmX0 C.2.2.2.1 C.2.2.2.2.2.2.2.1 hP hD hS 0 rfl rfl 0 (by decide) (C.2.2.2.2.2.2.1 _ wq_260) (fun _ h9 => h9) rfl hin rfl (by decide +kernel) rfl rfl (Nat.le_of_ble_eq_true rfl) dX0_init_9 (fun H locs hP hD hS => ?_)
  have hP : va_P D vwCl [(h0, .inr (0, [.ref q1, .null, .null, .int 0, .int 0])), (q1, .inl (cy, 8, .inl (fun _ => 0)))] H := hP
  have hD : va_D A [(h0, .inr (0, [.ref q1, .null, .null, .int 0, .int 0])), (q1, .inl (cy, 8, .inl (fun _ => 0)))] := hD
  refine lv_aload_n hx hb dX0_init_12 rfl (lv_at hl 0 rfl) ?_
  refine lv_bipush (v := 8) hx hb dX0_init_13 (by decide) ?_
  refine newI C hP hD hS hA (N' := 8) (by decide) (by decide) (by decide) (Nat.le_of_ble_eq_true rfl) (Nat.le_of_ble_eq_true rfl) dX0_init_15 (fun q2 H hP hD hS => ?_)
  have hP : va_P D vwCl [(h0, .inr (0, [.ref q1, .null, .null, .int 0, .int 0])), (q1, .inl (cy, 8, .inl (fun _ => 0))), (q2, .inl (cy, 8, .inl (fun _ => 0)))] H := hP
  have hD : va_D A [(h0, .inr (0, [.ref q1, .null, .null, .int 0, .int 0])), (q1, .inl (cy, 8, .inl (fun _ => 0))), (q2, .inl (cy, 8, .inl (fun _ => 0)))] := hD
  refine va_putF (D := D) (ci := 0) (v := .ref q2) (ty := .array .int) (C := RX0) (T := TX0) (N := 5) hx hb C.2.2.2.2.2.2.1 inG0 tyX0 tyX0_ok nmX0 C.2.2.2.1 C.2.2.2.2.2.2.2.1 hP hD hS 0 rfl rfl 1 (by decide) (C.2.2.2.2.2.2.1 _ wq_262) (fun _ h9 => h9) rfl hin rfl (by decide +kernel) rfl rfl (Nat.le_of_ble_eq_true rfl) dX0_init_17 (fun H locs hP hD hS => ?_)
  have hP : va_P D vwCl [(h0, .inr (0, [.ref q1, .ref q2, .null, .int 0, .int 0])), (q1, .inl (cy, 8, .inl (fun _ => 0))), (q2, .inl (cy, 8, .inl (fun _ => 0)))] H := hP
  have hD : va_D A [(h0, .inr (0, [.ref q1, .ref q2, .null, .int 0, .int 0])), (q1, .inl (cy, 8, .inl (fun _ => 0))), (q2, .inl (cy, 8, .inl (fun _ => 0)))] := hD
  refine lv_aload_n hx hb dX0_init_20 rfl (lv_at hl 0 rfl) ?_
  refine lv_bipush (v := 8) hx hb dX0_init_21 (by decide) ?_
  refine newI C hP hD hS hA (N' := 8) (by decide) (by decide) (by decide) (Nat.le_of_ble_eq_true rfl) (Nat.le_of_ble_eq_true rfl) dX0_init_23 (fun q3 H hP hD hS => ?_)
  have hP : va_P D vwCl [(h0, .inr (0, [.ref q1, .ref q2, .null, .int 0, .int 0])), (q1, .inl (cy, 8, .inl (fun _ => 0))), (q2, .inl (cy, 8, .inl (fun _ => 0))), (q3, .inl (cy, 8, .inl (fun _ => 0)))] H := hP
  have hD : va_D A [(h0, .inr (0, [.ref q1, .ref q2, .null, .int 0, .int 0])), (q1, .inl (cy, 8, .inl (fun _ => 0))), (q2, .inl (cy, 8, .inl (fun _ => 0))), (q3, .inl (cy, 8, .inl (fun _ => 0)))] := hD
  refine va_putF (D := D) (ci := 0) (v := .ref q3) (ty := .array .int) (C := RX0) (T := TX0) (N := 5) hx hb C.2.2.2.2.2.2.1 inG0 tyX0 tyX0_ok nmX0 C.2.2.2.1 C.2.2.2.2.2.2.2.1 hP hD hS 0 rfl rfl 2 (by decide) (C.2.2.2.2.2.2.1 _ wq_264) (fun _ h9 => h9) rfl hin rfl (by decide +kernel) rfl rfl (Nat.le_of_ble_eq_true rfl) dX0_init_25 (fun H locs hP hD hS => ?_)
  have hP : va_P D vwCl [(h0, .inr (0, [.ref q1, .ref q2, .ref q3, .int 0, .int 0])), (q1, .inl (cy, 8, .inl (fun _ => 0))), (q2, .inl (cy, 8, .inl (fun _ => 0))), (q3, .inl (cy, 8, .inl (fun _ => 0)))] H := hP
  have hD : va_D A [(h0, .inr (0, [.ref q1, .ref q2, .ref q3, .int 0, .int 0])), (q1, .inl (cy, 8, .inl (fun _ => 0))), (q2, .inl (cy, 8, .inl (fun _ => 0))), (q3, .inl (cy, 8, .inl (fun _ => 0)))] := hD
  exact W.vret hx hb C.2.2.2.2.1 (fun t ht hW => ⟨⟨fun k => ([h0, q1, q2, q3] : List Nat).getD k 0, rfl, trivial, by rw [ht]; exact hP, hD⟩, hS.F ht⟩) hS.2.2 dX0_init_28 hlocks
abbrev ws_X1_init (h0 : Nat) (cy : ClassId) (u : Nat → Nat) : va_W := [(h0, .inr (1, [.ref (u 1), .ref (u 2), .int 0, .int 0, .int 0, .int 0, .int 0, .int 0, .int 0, .int 0])), (u 1, .inl (cy, 768, .inl (fun _ => 0))), (u 2, .inl (cy, 6, .inl (fun _ => 0)))]
abbrev rmX1_init : Room := { frames := 1, cells := 2, slots := 774, locals := 12 }
set_option maxHeartbeats 4000000 in
set_option maxRecDepth 100000 in
theorem ci_X1_init (l : Launch) (D : va_G) (cy : ClassId) (h0 sz : Nat) : Met l yX1_init (wy yX1_init cX1_init 1 none) rmX1_init (va_Pc [.ref h0] (fun U => U.heap.size = sz ∧ va_P D vwCl [(h0, .inr (1, [.null, .null, .int 0, .int 0, .int 0, .int 0, .int 0, .int 0, .int 0, .int 0]))] U.heap ∧ va_K D vwCl [(cy, .int)] U ∧ NW U)) (va_Qv (fun _ : Nat → Nat => True) (fun u t => va_P D vwCl (ws_X1_init h0 cy u) t.heap ∧ va_D (va_A [(h0, .inr (1, [.null, .null, .int 0, .int 0, .int 0, .int 0, .int 0, .int 0, .int 0, .int 0]))] sz) (ws_X1_init h0 cy u)) (va_A [(h0, .inr (1, [.null, .null, .int 0, .int 0, .int 0, .int 0, .int 0, .int 0, .int 0, .int 0]))] sz)) 2 774 (va_A [(h0, .inr (1, [.null, .null, .int 0, .int 0, .int 0, .int 0, .int 0, .int 0, .int 0, .int 0]))] sz) := by
  refine Met.ofW (cc := cX1_init) (maxL := 1) (ret := none) (by decide) rfl ?_
  intro p e s m args below meth c s₁ B hml hv
  obtain ⟨rfl, hsz, hP, hK, hN⟩ := hv
  have hts0 := atoms_spec (ws := wy yX1_init cX1_init 1 none) B.pre
  have C : Cx p s m [Value.ref h0].toArray meth c RX1 cX1_init 1 none D [(cy, .int)] := ⟨B.exec, B.bytes, hml, findClass_of_methodNamed B.named, B.returns, B.notSynchronized, fun w h => hts0 w (List.mem_cons_of_mem _ h), hK, hN⟩
  have hin : meth.name = "<init>" := (name_of_methodNamed B.named B.method).1
  have hlocks := B.notSynchronized
  subst hsz
  have hD0 : va_D (va_A [(h0, .inr (1, [.null, .null, .int 0, .int 0, .int 0, .int 0, .int 0, .int 0, .int 0, .int 0]))] s.heap.size) [(h0, .inr (1, [.null, .null, .int 0, .int 0, .int 0, .int 0, .int 0, .int 0, .int 0, .int 0]))] := one_D
  generalize hAe : va_A [(h0, .inr (1, [.null, .null, .int 0, .int 0, .int 0, .int 0, .int 0, .int 0, .int 0, .int 0]))] s.heap.size = A at hD0 ⊢
  have hA : ∀ q : Nat, s.heap.size ≤ q → A q := fun q h => by rw [← hAe]; exact Or.inr h
  have hS : va_S A s.heap s.heap [] := va_S.rf
  have hl := lv_entry ([.ref h0]) (n := 1) (Nat.le_of_ble_eq_true rfl)
  rw [lg_entry_eq]
  generalize (lg_sl ([.ref h0]) ++ List.replicate (1 - (lg_sl ([.ref h0])).length) Slot.unset).toArray = ls at hl ⊢
  have hl : lv_has ls 1 [(0, .ref h0)] := hl
  have hx := C.1
  have hb := C.2.1
  have hD := hD0
  refine lv_aload_n hx hb dX1_init_0 rfl (lv_at hl 0 rfl) ?_
  refine W.objInit hx hb C.2.2.2.1 (C.2.2.2.2.2.2.1 _ wq_167) (C.2.2.2.2.2.2.1 _ wq_154) (C.2.2.2.2.2.2.1 _ wq_155) rfl (by rw [C.2.2.1]; exact hl.1) rfl dX1_init_1 (Nat.le_of_ble_eq_true rfl) (Nat.le_of_ble_eq_true rfl) ?_
  refine W.eq (g2 := F0 m 4 ls []) rfl ?_
  refine lv_aload_n hx hb dX1_init_4 rfl (lv_at hl 0 rfl) ?_
  refine lv_sipush (v := 768) hx hb dX1_init_5 (by decide) ?_
  refine newI C hP hD hS hA (N' := 768) (by decide) (by decide) (by decide) (Nat.le_of_ble_eq_true rfl) (Nat.le_of_ble_eq_true rfl) dX1_init_8 (fun q1 H hP hD hS => ?_)
  have hP : va_P D vwCl [(h0, .inr (1, [.null, .null, .int 0, .int 0, .int 0, .int 0, .int 0, .int 0, .int 0, .int 0])), (q1, .inl (cy, 768, .inl (fun _ => 0)))] H := hP
  have hD : va_D A [(h0, .inr (1, [.null, .null, .int 0, .int 0, .int 0, .int 0, .int 0, .int 0, .int 0, .int 0])), (q1, .inl (cy, 768, .inl (fun _ => 0)))] := hD
  refine va_putF (D := D) (ci := 1) (v := .ref q1) (ty := .array .int) (C := RX1) (T := TX1) (N := 10) hx hb C.2.2.2.2.2.2.1 inG1 tyX1 tyX1_ok nmX1 C.2.2.2.1 C.2.2.2.2.2.2.2.1 hP hD hS 0 rfl rfl 0 (by decide) (C.2.2.2.2.2.2.1 _ wq_168) (fun _ h9 => h9) rfl hin rfl (by decide +kernel) rfl rfl (Nat.le_of_ble_eq_true rfl) dX1_init_10 (fun H locs hP hD hS => ?_)
  have hP : va_P D vwCl [(h0, .inr (1, [.ref q1, .null, .int 0, .int 0, .int 0, .int 0, .int 0, .int 0, .int 0, .int 0])), (q1, .inl (cy, 768, .inl (fun _ => 0)))] H := hP
  have hD : va_D A [(h0, .inr (1, [.ref q1, .null, .int 0, .int 0, .int 0, .int 0, .int 0, .int 0, .int 0, .int 0])), (q1, .inl (cy, 768, .inl (fun _ => 0)))] := hD
  refine lv_aload_n hx hb dX1_init_13 rfl (lv_at hl 0 rfl) ?_
  refine lv_bipush (v := 6) hx hb dX1_init_14 (by decide) ?_
  refine newI C hP hD hS hA (N' := 6) (by decide) (by decide) (by decide) (Nat.le_of_ble_eq_true rfl) (Nat.le_of_ble_eq_true rfl) dX1_init_16 (fun q2 H hP hD hS => ?_)
  have hP : va_P D vwCl [(h0, .inr (1, [.ref q1, .null, .int 0, .int 0, .int 0, .int 0, .int 0, .int 0, .int 0, .int 0])), (q1, .inl (cy, 768, .inl (fun _ => 0))), (q2, .inl (cy, 6, .inl (fun _ => 0)))] H := hP
  have hD : va_D A [(h0, .inr (1, [.ref q1, .null, .int 0, .int 0, .int 0, .int 0, .int 0, .int 0, .int 0, .int 0])), (q1, .inl (cy, 768, .inl (fun _ => 0))), (q2, .inl (cy, 6, .inl (fun _ => 0)))] := hD
  refine va_putF (D := D) (ci := 1) (v := .ref q2) (ty := .array .int) (C := RX1) (T := TX1) (N := 10) hx hb C.2.2.2.2.2.2.1 inG1 tyX1 tyX1_ok nmX1 C.2.2.2.1 C.2.2.2.2.2.2.2.1 hP hD hS 0 rfl rfl 1 (by decide) (C.2.2.2.2.2.2.1 _ wq_169) (fun _ h9 => h9) rfl hin rfl (by decide +kernel) rfl rfl (Nat.le_of_ble_eq_true rfl) dX1_init_18 (fun H locs hP hD hS => ?_)
  have hP : va_P D vwCl [(h0, .inr (1, [.ref q1, .ref q2, .int 0, .int 0, .int 0, .int 0, .int 0, .int 0, .int 0, .int 0])), (q1, .inl (cy, 768, .inl (fun _ => 0))), (q2, .inl (cy, 6, .inl (fun _ => 0)))] H := hP
  have hD : va_D A [(h0, .inr (1, [.ref q1, .ref q2, .int 0, .int 0, .int 0, .int 0, .int 0, .int 0, .int 0, .int 0])), (q1, .inl (cy, 768, .inl (fun _ => 0))), (q2, .inl (cy, 6, .inl (fun _ => 0)))] := hD
  exact W.vret hx hb C.2.2.2.2.1 (fun t ht hW => ⟨⟨fun k => ([h0, q1, q2] : List Nat).getD k 0, rfl, trivial, by rw [ht]; exact hP, hD⟩, hS.F ht⟩) hS.2.2 dX1_init_21 hlocks
abbrev ws_X2_init (h0 : Nat) (cy : ClassId) (u : Nat → Nat) : va_W := [(h0, .inr (2, [.ref (u 1), .int 0, .int 0])), (u 1, .inl (cy, 7, .inl (fun _ => 0)))]
abbrev rmX2_init : Room := { frames := 1, cells := 1, slots := 7, locals := 12 }
set_option maxHeartbeats 4000000 in
set_option maxRecDepth 100000 in
theorem ci_X2_init (l : Launch) (D : va_G) (cy : ClassId) (h0 sz : Nat) : Met l yX2_init (wy yX2_init cX2_init 1 none) rmX2_init (va_Pc [.ref h0] (fun U => U.heap.size = sz ∧ va_P D vwCl [(h0, .inr (2, [.null, .int 0, .int 0]))] U.heap ∧ va_K D vwCl [(cy, .int)] U ∧ NW U)) (va_Qv (fun _ : Nat → Nat => True) (fun u t => va_P D vwCl (ws_X2_init h0 cy u) t.heap ∧ va_D (va_A [(h0, .inr (2, [.null, .int 0, .int 0]))] sz) (ws_X2_init h0 cy u)) (va_A [(h0, .inr (2, [.null, .int 0, .int 0]))] sz)) 1 7 (va_A [(h0, .inr (2, [.null, .int 0, .int 0]))] sz) := by
  refine Met.ofW (cc := cX2_init) (maxL := 1) (ret := none) (by decide) rfl ?_
  intro p e s m args below meth c s₁ B hml hv
  obtain ⟨rfl, hsz, hP, hK, hN⟩ := hv
  have hts0 := atoms_spec (ws := wy yX2_init cX2_init 1 none) B.pre
  have C : Cx p s m [Value.ref h0].toArray meth c RX2 cX2_init 1 none D [(cy, .int)] := ⟨B.exec, B.bytes, hml, findClass_of_methodNamed B.named, B.returns, B.notSynchronized, fun w h => hts0 w (List.mem_cons_of_mem _ h), hK, hN⟩
  have hin : meth.name = "<init>" := (name_of_methodNamed B.named B.method).1
  have hlocks := B.notSynchronized
  subst hsz
  have hD0 : va_D (va_A [(h0, .inr (2, [.null, .int 0, .int 0]))] s.heap.size) [(h0, .inr (2, [.null, .int 0, .int 0]))] := one_D
  generalize hAe : va_A [(h0, .inr (2, [.null, .int 0, .int 0]))] s.heap.size = A at hD0 ⊢
  have hA : ∀ q : Nat, s.heap.size ≤ q → A q := fun q h => by rw [← hAe]; exact Or.inr h
  have hS : va_S A s.heap s.heap [] := va_S.rf
  have hl := lv_entry ([.ref h0]) (n := 1) (Nat.le_of_ble_eq_true rfl)
  rw [lg_entry_eq]
  generalize (lg_sl ([.ref h0]) ++ List.replicate (1 - (lg_sl ([.ref h0])).length) Slot.unset).toArray = ls at hl ⊢
  have hl : lv_has ls 1 [(0, .ref h0)] := hl
  have hx := C.1
  have hb := C.2.1
  have hD := hD0
  refine lv_aload_n hx hb dX2_init_0 rfl (lv_at hl 0 rfl) ?_
  refine W.objInit hx hb C.2.2.2.1 (C.2.2.2.2.2.2.1 _ wq_288) (C.2.2.2.2.2.2.1 _ wq_154) (C.2.2.2.2.2.2.1 _ wq_155) rfl (by rw [C.2.2.1]; exact hl.1) rfl dX2_init_1 (Nat.le_of_ble_eq_true rfl) (Nat.le_of_ble_eq_true rfl) ?_
  refine W.eq (g2 := F0 m 4 ls []) rfl ?_
  refine lv_aload_n hx hb dX2_init_4 rfl (lv_at hl 0 rfl) ?_
  refine lv_bipush (v := 7) hx hb dX2_init_5 (by decide) ?_
  refine newI C hP hD hS hA (N' := 7) (by decide) (by decide) (by decide) (Nat.le_of_ble_eq_true rfl) (Nat.le_of_ble_eq_true rfl) dX2_init_7 (fun q1 H hP hD hS => ?_)
  have hP : va_P D vwCl [(h0, .inr (2, [.null, .int 0, .int 0])), (q1, .inl (cy, 7, .inl (fun _ => 0)))] H := hP
  have hD : va_D A [(h0, .inr (2, [.null, .int 0, .int 0])), (q1, .inl (cy, 7, .inl (fun _ => 0)))] := hD
  refine va_putF (D := D) (ci := 2) (v := .ref q1) (ty := .array .int) (C := RX2) (T := TX2) (N := 3) hx hb C.2.2.2.2.2.2.1 inG2 tyX2 tyX2_ok nmX2 C.2.2.2.1 C.2.2.2.2.2.2.2.1 hP hD hS 0 rfl rfl 0 (by decide) (C.2.2.2.2.2.2.1 _ wq_289) (fun _ h9 => h9) rfl hin rfl (by decide +kernel) rfl rfl (Nat.le_of_ble_eq_true rfl) dX2_init_9 (fun H locs hP hD hS => ?_)
  have hP : va_P D vwCl [(h0, .inr (2, [.ref q1, .int 0, .int 0])), (q1, .inl (cy, 7, .inl (fun _ => 0)))] H := hP
  have hD : va_D A [(h0, .inr (2, [.ref q1, .int 0, .int 0])), (q1, .inl (cy, 7, .inl (fun _ => 0)))] := hD
  exact W.vret hx hb C.2.2.2.2.1 (fun t ht hW => ⟨⟨fun k => ([h0, q1] : List Nat).getD k 0, rfl, trivial, by rw [ht]; exact hP, hD⟩, hS.F ht⟩) hS.2.2 dX2_init_12 hlocks
abbrev ws_X3_init (h0 : Nat) (cy : ClassId) (u : Nat → Nat) : va_W := [(h0, .inr (3, [.ref (u 1), .ref (u 2), .ref (u 3), .ref (u 4), .ref (u 5), .ref (u 6), .ref (u 7), .int 0, .int 0, .int 0, .int 0])), (u 1, .inl (cy, 128, .inl (fun _ => 0))), (u 2, .inl (cy, 41, .inl (fun _ => 0))), (u 3, .inl (cy, 41, .inl (fun _ => 0))), (u 4, .inl (cy, 41, .inl (fun _ => 0))), (u 5, .inl (cy, 41, .inl (fun _ => 0))), (u 6, .inl (cy, 41, .inl (fun _ => 0))), (u 7, .inl (cy, 48, .inl (fun _ => 0)))]
abbrev rmX3_init : Room := { frames := 1, cells := 7, slots := 381, locals := 12 }
set_option maxHeartbeats 4000000 in
set_option maxRecDepth 100000 in
theorem ci_X3_init (l : Launch) (D : va_G) (cy : ClassId) (h0 sz : Nat) : Met l yX3_init (wy yX3_init cX3_init 1 none) rmX3_init (va_Pc [.ref h0] (fun U => U.heap.size = sz ∧ va_P D vwCl [(h0, .inr (3, [.null, .null, .null, .null, .null, .null, .null, .int 0, .int 0, .int 0, .int 0]))] U.heap ∧ va_K D vwCl [(cy, .int)] U ∧ NW U)) (va_Qv (fun _ : Nat → Nat => True) (fun u t => va_P D vwCl (ws_X3_init h0 cy u) t.heap ∧ va_D (va_A [(h0, .inr (3, [.null, .null, .null, .null, .null, .null, .null, .int 0, .int 0, .int 0, .int 0]))] sz) (ws_X3_init h0 cy u)) (va_A [(h0, .inr (3, [.null, .null, .null, .null, .null, .null, .null, .int 0, .int 0, .int 0, .int 0]))] sz)) 7 381 (va_A [(h0, .inr (3, [.null, .null, .null, .null, .null, .null, .null, .int 0, .int 0, .int 0, .int 0]))] sz) := by
  refine Met.ofW (cc := cX3_init) (maxL := 1) (ret := none) (by decide) rfl ?_
  intro p e s m args below meth c s₁ B hml hv
  obtain ⟨rfl, hsz, hP, hK, hN⟩ := hv
  have hts0 := atoms_spec (ws := wy yX3_init cX3_init 1 none) B.pre
  have C : Cx p s m [Value.ref h0].toArray meth c RX3 cX3_init 1 none D [(cy, .int)] := ⟨B.exec, B.bytes, hml, findClass_of_methodNamed B.named, B.returns, B.notSynchronized, fun w h => hts0 w (List.mem_cons_of_mem _ h), hK, hN⟩
  have hin : meth.name = "<init>" := (name_of_methodNamed B.named B.method).1
  have hlocks := B.notSynchronized
  subst hsz
  have hD0 : va_D (va_A [(h0, .inr (3, [.null, .null, .null, .null, .null, .null, .null, .int 0, .int 0, .int 0, .int 0]))] s.heap.size) [(h0, .inr (3, [.null, .null, .null, .null, .null, .null, .null, .int 0, .int 0, .int 0, .int 0]))] := one_D
  generalize hAe : va_A [(h0, .inr (3, [.null, .null, .null, .null, .null, .null, .null, .int 0, .int 0, .int 0, .int 0]))] s.heap.size = A at hD0 ⊢
  have hA : ∀ q : Nat, s.heap.size ≤ q → A q := fun q h => by rw [← hAe]; exact Or.inr h
  have hS : va_S A s.heap s.heap [] := va_S.rf
  have hl := lv_entry ([.ref h0]) (n := 1) (Nat.le_of_ble_eq_true rfl)
  rw [lg_entry_eq]
  generalize (lg_sl ([.ref h0]) ++ List.replicate (1 - (lg_sl ([.ref h0])).length) Slot.unset).toArray = ls at hl ⊢
  have hl : lv_has ls 1 [(0, .ref h0)] := hl
  have hx := C.1
  have hb := C.2.1
  have hD := hD0
  refine lv_aload_n hx hb dX3_init_0 rfl (lv_at hl 0 rfl) ?_
  refine W.objInit hx hb C.2.2.2.1 (C.2.2.2.2.2.2.1 _ wq_215) (C.2.2.2.2.2.2.1 _ wq_154) (C.2.2.2.2.2.2.1 _ wq_155) rfl (by rw [C.2.2.1]; exact hl.1) rfl dX3_init_1 (Nat.le_of_ble_eq_true rfl) (Nat.le_of_ble_eq_true rfl) ?_
  refine W.eq (g2 := F0 m 4 ls []) rfl ?_
  refine lv_aload_n hx hb dX3_init_4 rfl (lv_at hl 0 rfl) ?_
  refine lv_sipush (v := 128) hx hb dX3_init_5 (by decide) ?_
  refine newI C hP hD hS hA (N' := 128) (by decide) (by decide) (by decide) (Nat.le_of_ble_eq_true rfl) (Nat.le_of_ble_eq_true rfl) dX3_init_8 (fun q1 H hP hD hS => ?_)
  have hP : va_P D vwCl [(h0, .inr (3, [.null, .null, .null, .null, .null, .null, .null, .int 0, .int 0, .int 0, .int 0])), (q1, .inl (cy, 128, .inl (fun _ => 0)))] H := hP
  have hD : va_D A [(h0, .inr (3, [.null, .null, .null, .null, .null, .null, .null, .int 0, .int 0, .int 0, .int 0])), (q1, .inl (cy, 128, .inl (fun _ => 0)))] := hD
  refine va_putF (D := D) (ci := 3) (v := .ref q1) (ty := .array .int) (C := RX3) (T := TX3) (N := 11) hx hb C.2.2.2.2.2.2.1 inG3 tyX3 tyX3_ok nmX3 C.2.2.2.1 C.2.2.2.2.2.2.2.1 hP hD hS 0 rfl rfl 0 (by decide) (C.2.2.2.2.2.2.1 _ wq_216) (fun _ h9 => h9) rfl hin rfl (by decide +kernel) rfl rfl (Nat.le_of_ble_eq_true rfl) dX3_init_10 (fun H locs hP hD hS => ?_)
  have hP : va_P D vwCl [(h0, .inr (3, [.ref q1, .null, .null, .null, .null, .null, .null, .int 0, .int 0, .int 0, .int 0])), (q1, .inl (cy, 128, .inl (fun _ => 0)))] H := hP
  have hD : va_D A [(h0, .inr (3, [.ref q1, .null, .null, .null, .null, .null, .null, .int 0, .int 0, .int 0, .int 0])), (q1, .inl (cy, 128, .inl (fun _ => 0)))] := hD
  refine lv_aload_n hx hb dX3_init_13 rfl (lv_at hl 0 rfl) ?_
  refine lv_bipush (v := 41) hx hb dX3_init_14 (by decide) ?_
  refine newI C hP hD hS hA (N' := 41) (by decide) (by decide) (by decide) (Nat.le_of_ble_eq_true rfl) (Nat.le_of_ble_eq_true rfl) dX3_init_16 (fun q2 H hP hD hS => ?_)
  have hP : va_P D vwCl [(h0, .inr (3, [.ref q1, .null, .null, .null, .null, .null, .null, .int 0, .int 0, .int 0, .int 0])), (q1, .inl (cy, 128, .inl (fun _ => 0))), (q2, .inl (cy, 41, .inl (fun _ => 0)))] H := hP
  have hD : va_D A [(h0, .inr (3, [.ref q1, .null, .null, .null, .null, .null, .null, .int 0, .int 0, .int 0, .int 0])), (q1, .inl (cy, 128, .inl (fun _ => 0))), (q2, .inl (cy, 41, .inl (fun _ => 0)))] := hD
  refine va_putF (D := D) (ci := 3) (v := .ref q2) (ty := .array .int) (C := RX3) (T := TX3) (N := 11) hx hb C.2.2.2.2.2.2.1 inG3 tyX3 tyX3_ok nmX3 C.2.2.2.1 C.2.2.2.2.2.2.2.1 hP hD hS 0 rfl rfl 1 (by decide) (C.2.2.2.2.2.2.1 _ wq_217) (fun _ h9 => h9) rfl hin rfl (by decide +kernel) rfl rfl (Nat.le_of_ble_eq_true rfl) dX3_init_18 (fun H locs hP hD hS => ?_)
  have hP : va_P D vwCl [(h0, .inr (3, [.ref q1, .ref q2, .null, .null, .null, .null, .null, .int 0, .int 0, .int 0, .int 0])), (q1, .inl (cy, 128, .inl (fun _ => 0))), (q2, .inl (cy, 41, .inl (fun _ => 0)))] H := hP
  have hD : va_D A [(h0, .inr (3, [.ref q1, .ref q2, .null, .null, .null, .null, .null, .int 0, .int 0, .int 0, .int 0])), (q1, .inl (cy, 128, .inl (fun _ => 0))), (q2, .inl (cy, 41, .inl (fun _ => 0)))] := hD
  refine lv_aload_n hx hb dX3_init_21 rfl (lv_at hl 0 rfl) ?_
  refine lv_bipush (v := 41) hx hb dX3_init_22 (by decide) ?_
  refine newI C hP hD hS hA (N' := 41) (by decide) (by decide) (by decide) (Nat.le_of_ble_eq_true rfl) (Nat.le_of_ble_eq_true rfl) dX3_init_24 (fun q3 H hP hD hS => ?_)
  have hP : va_P D vwCl [(h0, .inr (3, [.ref q1, .ref q2, .null, .null, .null, .null, .null, .int 0, .int 0, .int 0, .int 0])), (q1, .inl (cy, 128, .inl (fun _ => 0))), (q2, .inl (cy, 41, .inl (fun _ => 0))), (q3, .inl (cy, 41, .inl (fun _ => 0)))] H := hP
  have hD : va_D A [(h0, .inr (3, [.ref q1, .ref q2, .null, .null, .null, .null, .null, .int 0, .int 0, .int 0, .int 0])), (q1, .inl (cy, 128, .inl (fun _ => 0))), (q2, .inl (cy, 41, .inl (fun _ => 0))), (q3, .inl (cy, 41, .inl (fun _ => 0)))] := hD
  refine va_putF (D := D) (ci := 3) (v := .ref q3) (ty := .array .int) (C := RX3) (T := TX3) (N := 11) hx hb C.2.2.2.2.2.2.1 inG3 tyX3 tyX3_ok nmX3 C.2.2.2.1 C.2.2.2.2.2.2.2.1 hP hD hS 0 rfl rfl 2 (by decide) (C.2.2.2.2.2.2.1 _ wq_218) (fun _ h9 => h9) rfl hin rfl (by decide +kernel) rfl rfl (Nat.le_of_ble_eq_true rfl) dX3_init_26 (fun H locs hP hD hS => ?_)
  have hP : va_P D vwCl [(h0, .inr (3, [.ref q1, .ref q2, .ref q3, .null, .null, .null, .null, .int 0, .int 0, .int 0, .int 0])), (q1, .inl (cy, 128, .inl (fun _ => 0))), (q2, .inl (cy, 41, .inl (fun _ => 0))), (q3, .inl (cy, 41, .inl (fun _ => 0)))] H := hP
  have hD : va_D A [(h0, .inr (3, [.ref q1, .ref q2, .ref q3, .null, .null, .null, .null, .int 0, .int 0, .int 0, .int 0])), (q1, .inl (cy, 128, .inl (fun _ => 0))), (q2, .inl (cy, 41, .inl (fun _ => 0))), (q3, .inl (cy, 41, .inl (fun _ => 0)))] := hD
  refine lv_aload_n hx hb dX3_init_29 rfl (lv_at hl 0 rfl) ?_
  refine lv_bipush (v := 41) hx hb dX3_init_30 (by decide) ?_
  refine newI C hP hD hS hA (N' := 41) (by decide) (by decide) (by decide) (Nat.le_of_ble_eq_true rfl) (Nat.le_of_ble_eq_true rfl) dX3_init_32 (fun q4 H hP hD hS => ?_)
  have hP : va_P D vwCl [(h0, .inr (3, [.ref q1, .ref q2, .ref q3, .null, .null, .null, .null, .int 0, .int 0, .int 0, .int 0])), (q1, .inl (cy, 128, .inl (fun _ => 0))), (q2, .inl (cy, 41, .inl (fun _ => 0))), (q3, .inl (cy, 41, .inl (fun _ => 0))), (q4, .inl (cy, 41, .inl (fun _ => 0)))] H := hP
  have hD : va_D A [(h0, .inr (3, [.ref q1, .ref q2, .ref q3, .null, .null, .null, .null, .int 0, .int 0, .int 0, .int 0])), (q1, .inl (cy, 128, .inl (fun _ => 0))), (q2, .inl (cy, 41, .inl (fun _ => 0))), (q3, .inl (cy, 41, .inl (fun _ => 0))), (q4, .inl (cy, 41, .inl (fun _ => 0)))] := hD
  refine va_putF (D := D) (ci := 3) (v := .ref q4) (ty := .array .int) (C := RX3) (T := TX3) (N := 11) hx hb C.2.2.2.2.2.2.1 inG3 tyX3 tyX3_ok nmX3 C.2.2.2.1 C.2.2.2.2.2.2.2.1 hP hD hS 0 rfl rfl 3 (by decide) (C.2.2.2.2.2.2.1 _ wq_219) (fun _ h9 => h9) rfl hin rfl (by decide +kernel) rfl rfl (Nat.le_of_ble_eq_true rfl) dX3_init_34 (fun H locs hP hD hS => ?_)
  have hP : va_P D vwCl [(h0, .inr (3, [.ref q1, .ref q2, .ref q3, .ref q4, .null, .null, .null, .int 0, .int 0, .int 0, .int 0])), (q1, .inl (cy, 128, .inl (fun _ => 0))), (q2, .inl (cy, 41, .inl (fun _ => 0))), (q3, .inl (cy, 41, .inl (fun _ => 0))), (q4, .inl (cy, 41, .inl (fun _ => 0)))] H := hP
  have hD : va_D A [(h0, .inr (3, [.ref q1, .ref q2, .ref q3, .ref q4, .null, .null, .null, .int 0, .int 0, .int 0, .int 0])), (q1, .inl (cy, 128, .inl (fun _ => 0))), (q2, .inl (cy, 41, .inl (fun _ => 0))), (q3, .inl (cy, 41, .inl (fun _ => 0))), (q4, .inl (cy, 41, .inl (fun _ => 0)))] := hD
  refine lv_aload_n hx hb dX3_init_37 rfl (lv_at hl 0 rfl) ?_
  refine lv_bipush (v := 41) hx hb dX3_init_38 (by decide) ?_
  refine newI C hP hD hS hA (N' := 41) (by decide) (by decide) (by decide) (Nat.le_of_ble_eq_true rfl) (Nat.le_of_ble_eq_true rfl) dX3_init_40 (fun q5 H hP hD hS => ?_)
  have hP : va_P D vwCl [(h0, .inr (3, [.ref q1, .ref q2, .ref q3, .ref q4, .null, .null, .null, .int 0, .int 0, .int 0, .int 0])), (q1, .inl (cy, 128, .inl (fun _ => 0))), (q2, .inl (cy, 41, .inl (fun _ => 0))), (q3, .inl (cy, 41, .inl (fun _ => 0))), (q4, .inl (cy, 41, .inl (fun _ => 0))), (q5, .inl (cy, 41, .inl (fun _ => 0)))] H := hP
  have hD : va_D A [(h0, .inr (3, [.ref q1, .ref q2, .ref q3, .ref q4, .null, .null, .null, .int 0, .int 0, .int 0, .int 0])), (q1, .inl (cy, 128, .inl (fun _ => 0))), (q2, .inl (cy, 41, .inl (fun _ => 0))), (q3, .inl (cy, 41, .inl (fun _ => 0))), (q4, .inl (cy, 41, .inl (fun _ => 0))), (q5, .inl (cy, 41, .inl (fun _ => 0)))] := hD
  refine va_putF (D := D) (ci := 3) (v := .ref q5) (ty := .array .int) (C := RX3) (T := TX3) (N := 11) hx hb C.2.2.2.2.2.2.1 inG3 tyX3 tyX3_ok nmX3 C.2.2.2.1 C.2.2.2.2.2.2.2.1 hP hD hS 0 rfl rfl 4 (by decide) (C.2.2.2.2.2.2.1 _ wq_220) (fun _ h9 => h9) rfl hin rfl (by decide +kernel) rfl rfl (Nat.le_of_ble_eq_true rfl) dX3_init_42 (fun H locs hP hD hS => ?_)
  have hP : va_P D vwCl [(h0, .inr (3, [.ref q1, .ref q2, .ref q3, .ref q4, .ref q5, .null, .null, .int 0, .int 0, .int 0, .int 0])), (q1, .inl (cy, 128, .inl (fun _ => 0))), (q2, .inl (cy, 41, .inl (fun _ => 0))), (q3, .inl (cy, 41, .inl (fun _ => 0))), (q4, .inl (cy, 41, .inl (fun _ => 0))), (q5, .inl (cy, 41, .inl (fun _ => 0)))] H := hP
  have hD : va_D A [(h0, .inr (3, [.ref q1, .ref q2, .ref q3, .ref q4, .ref q5, .null, .null, .int 0, .int 0, .int 0, .int 0])), (q1, .inl (cy, 128, .inl (fun _ => 0))), (q2, .inl (cy, 41, .inl (fun _ => 0))), (q3, .inl (cy, 41, .inl (fun _ => 0))), (q4, .inl (cy, 41, .inl (fun _ => 0))), (q5, .inl (cy, 41, .inl (fun _ => 0)))] := hD
  refine lv_aload_n hx hb dX3_init_45 rfl (lv_at hl 0 rfl) ?_
  refine lv_bipush (v := 41) hx hb dX3_init_46 (by decide) ?_
  refine newI C hP hD hS hA (N' := 41) (by decide) (by decide) (by decide) (Nat.le_of_ble_eq_true rfl) (Nat.le_of_ble_eq_true rfl) dX3_init_48 (fun q6 H hP hD hS => ?_)
  have hP : va_P D vwCl [(h0, .inr (3, [.ref q1, .ref q2, .ref q3, .ref q4, .ref q5, .null, .null, .int 0, .int 0, .int 0, .int 0])), (q1, .inl (cy, 128, .inl (fun _ => 0))), (q2, .inl (cy, 41, .inl (fun _ => 0))), (q3, .inl (cy, 41, .inl (fun _ => 0))), (q4, .inl (cy, 41, .inl (fun _ => 0))), (q5, .inl (cy, 41, .inl (fun _ => 0))), (q6, .inl (cy, 41, .inl (fun _ => 0)))] H := hP
  have hD : va_D A [(h0, .inr (3, [.ref q1, .ref q2, .ref q3, .ref q4, .ref q5, .null, .null, .int 0, .int 0, .int 0, .int 0])), (q1, .inl (cy, 128, .inl (fun _ => 0))), (q2, .inl (cy, 41, .inl (fun _ => 0))), (q3, .inl (cy, 41, .inl (fun _ => 0))), (q4, .inl (cy, 41, .inl (fun _ => 0))), (q5, .inl (cy, 41, .inl (fun _ => 0))), (q6, .inl (cy, 41, .inl (fun _ => 0)))] := hD
  refine va_putF (D := D) (ci := 3) (v := .ref q6) (ty := .array .int) (C := RX3) (T := TX3) (N := 11) hx hb C.2.2.2.2.2.2.1 inG3 tyX3 tyX3_ok nmX3 C.2.2.2.1 C.2.2.2.2.2.2.2.1 hP hD hS 0 rfl rfl 5 (by decide) (C.2.2.2.2.2.2.1 _ wq_221) (fun _ h9 => h9) rfl hin rfl (by decide +kernel) rfl rfl (Nat.le_of_ble_eq_true rfl) dX3_init_50 (fun H locs hP hD hS => ?_)
  have hP : va_P D vwCl [(h0, .inr (3, [.ref q1, .ref q2, .ref q3, .ref q4, .ref q5, .ref q6, .null, .int 0, .int 0, .int 0, .int 0])), (q1, .inl (cy, 128, .inl (fun _ => 0))), (q2, .inl (cy, 41, .inl (fun _ => 0))), (q3, .inl (cy, 41, .inl (fun _ => 0))), (q4, .inl (cy, 41, .inl (fun _ => 0))), (q5, .inl (cy, 41, .inl (fun _ => 0))), (q6, .inl (cy, 41, .inl (fun _ => 0)))] H := hP
  have hD : va_D A [(h0, .inr (3, [.ref q1, .ref q2, .ref q3, .ref q4, .ref q5, .ref q6, .null, .int 0, .int 0, .int 0, .int 0])), (q1, .inl (cy, 128, .inl (fun _ => 0))), (q2, .inl (cy, 41, .inl (fun _ => 0))), (q3, .inl (cy, 41, .inl (fun _ => 0))), (q4, .inl (cy, 41, .inl (fun _ => 0))), (q5, .inl (cy, 41, .inl (fun _ => 0))), (q6, .inl (cy, 41, .inl (fun _ => 0)))] := hD
  refine lv_aload_n hx hb dX3_init_53 rfl (lv_at hl 0 rfl) ?_
  refine lv_bipush (v := 48) hx hb dX3_init_54 (by decide) ?_
  refine newI C hP hD hS hA (N' := 48) (by decide) (by decide) (by decide) (Nat.le_of_ble_eq_true rfl) (Nat.le_of_ble_eq_true rfl) dX3_init_56 (fun q7 H hP hD hS => ?_)
  have hP : va_P D vwCl [(h0, .inr (3, [.ref q1, .ref q2, .ref q3, .ref q4, .ref q5, .ref q6, .null, .int 0, .int 0, .int 0, .int 0])), (q1, .inl (cy, 128, .inl (fun _ => 0))), (q2, .inl (cy, 41, .inl (fun _ => 0))), (q3, .inl (cy, 41, .inl (fun _ => 0))), (q4, .inl (cy, 41, .inl (fun _ => 0))), (q5, .inl (cy, 41, .inl (fun _ => 0))), (q6, .inl (cy, 41, .inl (fun _ => 0))), (q7, .inl (cy, 48, .inl (fun _ => 0)))] H := hP
  have hD : va_D A [(h0, .inr (3, [.ref q1, .ref q2, .ref q3, .ref q4, .ref q5, .ref q6, .null, .int 0, .int 0, .int 0, .int 0])), (q1, .inl (cy, 128, .inl (fun _ => 0))), (q2, .inl (cy, 41, .inl (fun _ => 0))), (q3, .inl (cy, 41, .inl (fun _ => 0))), (q4, .inl (cy, 41, .inl (fun _ => 0))), (q5, .inl (cy, 41, .inl (fun _ => 0))), (q6, .inl (cy, 41, .inl (fun _ => 0))), (q7, .inl (cy, 48, .inl (fun _ => 0)))] := hD
  refine va_putF (D := D) (ci := 3) (v := .ref q7) (ty := .array .int) (C := RX3) (T := TX3) (N := 11) hx hb C.2.2.2.2.2.2.1 inG3 tyX3 tyX3_ok nmX3 C.2.2.2.1 C.2.2.2.2.2.2.2.1 hP hD hS 0 rfl rfl 6 (by decide) (C.2.2.2.2.2.2.1 _ wq_222) (fun _ h9 => h9) rfl hin rfl (by decide +kernel) rfl rfl (Nat.le_of_ble_eq_true rfl) dX3_init_58 (fun H locs hP hD hS => ?_)
  have hP : va_P D vwCl [(h0, .inr (3, [.ref q1, .ref q2, .ref q3, .ref q4, .ref q5, .ref q6, .ref q7, .int 0, .int 0, .int 0, .int 0])), (q1, .inl (cy, 128, .inl (fun _ => 0))), (q2, .inl (cy, 41, .inl (fun _ => 0))), (q3, .inl (cy, 41, .inl (fun _ => 0))), (q4, .inl (cy, 41, .inl (fun _ => 0))), (q5, .inl (cy, 41, .inl (fun _ => 0))), (q6, .inl (cy, 41, .inl (fun _ => 0))), (q7, .inl (cy, 48, .inl (fun _ => 0)))] H := hP
  have hD : va_D A [(h0, .inr (3, [.ref q1, .ref q2, .ref q3, .ref q4, .ref q5, .ref q6, .ref q7, .int 0, .int 0, .int 0, .int 0])), (q1, .inl (cy, 128, .inl (fun _ => 0))), (q2, .inl (cy, 41, .inl (fun _ => 0))), (q3, .inl (cy, 41, .inl (fun _ => 0))), (q4, .inl (cy, 41, .inl (fun _ => 0))), (q5, .inl (cy, 41, .inl (fun _ => 0))), (q6, .inl (cy, 41, .inl (fun _ => 0))), (q7, .inl (cy, 48, .inl (fun _ => 0)))] := hD
  exact W.vret hx hb C.2.2.2.2.1 (fun t ht hW => ⟨⟨fun k => ([h0, q1, q2, q3, q4, q5, q6, q7] : List Nat).getD k 0, rfl, trivial, by rw [ht]; exact hP, hD⟩, hS.F ht⟩) hS.2.2 dX3_init_61 hlocks
abbrev rmX6_init : Room := { frames := 1, cells := 7, slots := 1924, locals := 23 }
def wp_X6_init (Q : Rg → Ar → Prop) : Prop := wp_X6_makes (fun _ => 0) (fun _ _ => 0) 3 64 Q
set_option maxHeartbeats 4000000 in
set_option maxRecDepth 100000 in
theorem ci_X6_init (l : Launch) (D : va_G) (cy : ClassId) (h0 sz : Nat) {Q : Rg → Ar → Prop} (h : wp_X6_init Q) : Met l yX6_init (wy yX6_init cX6_init 1 none) rmX6_init (va_Pc [.ref h0] (fun U => U.heap.size = sz ∧ va_P D vwCl [(h0, .inr (6, [.null, .null, .int 0, .int 0, .int 0, .int 0, .int 0, .null, .null, .null, .null, .null, .int 0, .int 0, .int 0]))] U.heap ∧ va_K D vwCl [(cy, .int)] U ∧ NW U)) (va_Qv (fun u : (Nat → Nat) × Rg × Ar => Q u.2.1 u.2.2 ∧ u.1 0 = h0 ∧ apt 8 u.1) (fun u t => va_P D vwCl (wM u.1 cy u.2.1 u.2.2) t.heap ∧ va_D (va_A [(h0, .inr (6, [.null, .null, .int 0, .int 0, .int 0, .int 0, .int 0, .null, .null, .null, .null, .null, .int 0, .int 0, .int 0]))] sz) (wM u.1 cy u.2.1 u.2.2)) (va_A [(h0, .inr (6, [.null, .null, .int 0, .int 0, .int 0, .int 0, .int 0, .null, .null, .null, .null, .null, .int 0, .int 0, .int 0]))] sz)) 7 1924 (va_A [(h0, .inr (6, [.null, .null, .int 0, .int 0, .int 0, .int 0, .int 0, .null, .null, .null, .null, .null, .int 0, .int 0, .int 0]))] sz) := by
  refine Met.ofW (cc := cX6_init) (maxL := 1) (ret := none) (by decide) rfl ?_
  intro p e s m args below meth c s₁ B hml hv
  obtain ⟨rfl, hsz, hP, hK, hN⟩ := hv
  have hts0 := atoms_spec (ws := wy yX6_init cX6_init 1 none) B.pre
  have C : Cx p s m [Value.ref h0].toArray meth c RX6 cX6_init 1 none D [(cy, .int)] := ⟨B.exec, B.bytes, hml, findClass_of_methodNamed B.named, B.returns, B.notSynchronized, fun w h => hts0 w (List.mem_cons_of_mem _ h), hK, hN⟩
  have hin : meth.name = "<init>" := (name_of_methodNamed B.named B.method).1
  have hlocks := B.notSynchronized
  subst hsz
  have hD0 : va_D (va_A [(h0, .inr (6, [.null, .null, .int 0, .int 0, .int 0, .int 0, .int 0, .null, .null, .null, .null, .null, .int 0, .int 0, .int 0]))] s.heap.size) [(h0, .inr (6, [.null, .null, .int 0, .int 0, .int 0, .int 0, .int 0, .null, .null, .null, .null, .null, .int 0, .int 0, .int 0]))] := one_D
  generalize hAe : va_A [(h0, .inr (6, [.null, .null, .int 0, .int 0, .int 0, .int 0, .int 0, .null, .null, .null, .null, .null, .int 0, .int 0, .int 0]))] s.heap.size = A at hD0 ⊢
  have hA : ∀ q : Nat, s.heap.size ≤ q → A q := fun q h => by rw [← hAe]; exact Or.inr h
  have hS : va_S A s.heap s.heap [] := va_S.rf
  have hl := lv_entry ([.ref h0]) (n := 1) (Nat.le_of_ble_eq_true rfl)
  rw [lg_entry_eq]
  generalize (lg_sl ([.ref h0]) ++ List.replicate (1 - (lg_sl ([.ref h0])).length) Slot.unset).toArray = ls at hl ⊢
  have hl : lv_has ls 1 [(0, .ref h0)] := hl
  have hx := C.1
  have hb := C.2.1
  have hD := hD0
  refine lv_aload_n hx hb dX6_init_0 rfl (lv_at hl 0 rfl) ?_
  refine W.objInit hx hb C.2.2.2.1 (C.2.2.2.2.2.2.1 _ wq_919) (C.2.2.2.2.2.2.1 _ wq_154) (C.2.2.2.2.2.2.1 _ wq_155) rfl (by rw [C.2.2.1]; exact hl.1) rfl dX6_init_1 (Nat.le_of_ble_eq_true rfl) (Nat.le_of_ble_eq_true rfl) ?_
  refine W.eq (g2 := F0 m 4 ls []) rfl ?_
  refine lv_aload_n hx hb dX6_init_4 rfl (lv_at hl 0 rfl) ?_
  refine lv_sipush (v := 810) hx hb dX6_init_5 (by decide) ?_
  refine newI C hP hD hS hA (N' := 810) (by decide) (by decide) (by decide) (Nat.le_of_ble_eq_true rfl) (Nat.le_of_ble_eq_true rfl) dX6_init_8 (fun q1 H hP hD hS => ?_)
  have hP : va_P D vwCl [(h0, .inr (6, [.null, .null, .int 0, .int 0, .int 0, .int 0, .int 0, .null, .null, .null, .null, .null, .int 0, .int 0, .int 0])), (q1, .inl (cy, 810, .inl (fun _ => 0)))] H := hP
  have hD : va_D A [(h0, .inr (6, [.null, .null, .int 0, .int 0, .int 0, .int 0, .int 0, .null, .null, .null, .null, .null, .int 0, .int 0, .int 0])), (q1, .inl (cy, 810, .inl (fun _ => 0)))] := hD
  refine va_putF (D := D) (ci := 6) (v := .ref q1) (ty := .array .int) (C := RX6) (T := TX6) (N := 15) hx hb C.2.2.2.2.2.2.1 inG6 tyX6 tyX6_ok nmX6 C.2.2.2.1 C.2.2.2.2.2.2.2.1 hP hD hS 0 rfl rfl 0 (by decide) (C.2.2.2.2.2.2.1 _ wq_924) (fun _ h9 => h9) rfl hin rfl (by decide +kernel) rfl rfl (Nat.le_of_ble_eq_true rfl) dX6_init_10 (fun H locs hP hD hS => ?_)
  have hP : va_P D vwCl [(h0, .inr (6, [.ref q1, .null, .int 0, .int 0, .int 0, .int 0, .int 0, .null, .null, .null, .null, .null, .int 0, .int 0, .int 0])), (q1, .inl (cy, 810, .inl (fun _ => 0)))] H := hP
  have hD : va_D A [(h0, .inr (6, [.ref q1, .null, .int 0, .int 0, .int 0, .int 0, .int 0, .null, .null, .null, .null, .null, .int 0, .int 0, .int 0])), (q1, .inl (cy, 810, .inl (fun _ => 0)))] := hD
  refine lv_aload_n hx hb dX6_init_13 rfl (lv_at hl 0 rfl) ?_
  refine lv_sipush (v := 810) hx hb dX6_init_14 (by decide) ?_
  refine newI C hP hD hS hA (N' := 810) (by decide) (by decide) (by decide) (Nat.le_of_ble_eq_true rfl) (Nat.le_of_ble_eq_true rfl) dX6_init_17 (fun q2 H hP hD hS => ?_)
  have hP : va_P D vwCl [(h0, .inr (6, [.ref q1, .null, .int 0, .int 0, .int 0, .int 0, .int 0, .null, .null, .null, .null, .null, .int 0, .int 0, .int 0])), (q1, .inl (cy, 810, .inl (fun _ => 0))), (q2, .inl (cy, 810, .inl (fun _ => 0)))] H := hP
  have hD : va_D A [(h0, .inr (6, [.ref q1, .null, .int 0, .int 0, .int 0, .int 0, .int 0, .null, .null, .null, .null, .null, .int 0, .int 0, .int 0])), (q1, .inl (cy, 810, .inl (fun _ => 0))), (q2, .inl (cy, 810, .inl (fun _ => 0)))] := hD
  refine va_putF (D := D) (ci := 6) (v := .ref q2) (ty := .array .int) (C := RX6) (T := TX6) (N := 15) hx hb C.2.2.2.2.2.2.1 inG6 tyX6 tyX6_ok nmX6 C.2.2.2.1 C.2.2.2.2.2.2.2.1 hP hD hS 0 rfl rfl 1 (by decide) (C.2.2.2.2.2.2.1 _ wq_925) (fun _ h9 => h9) rfl hin rfl (by decide +kernel) rfl rfl (Nat.le_of_ble_eq_true rfl) dX6_init_19 (fun H locs hP hD hS => ?_)
  have hP : va_P D vwCl [(h0, .inr (6, [.ref q1, .ref q2, .int 0, .int 0, .int 0, .int 0, .int 0, .null, .null, .null, .null, .null, .int 0, .int 0, .int 0])), (q1, .inl (cy, 810, .inl (fun _ => 0))), (q2, .inl (cy, 810, .inl (fun _ => 0)))] H := hP
  have hD : va_D A [(h0, .inr (6, [.ref q1, .ref q2, .int 0, .int 0, .int 0, .int 0, .int 0, .null, .null, .null, .null, .null, .int 0, .int 0, .int 0])), (q1, .inl (cy, 810, .inl (fun _ => 0))), (q2, .inl (cy, 810, .inl (fun _ => 0)))] := hD
  refine lv_aload_n hx hb dX6_init_22 rfl (lv_at hl 0 rfl) ?_
  refine lv_bipush (v := 64) hx hb dX6_init_23 (by decide) ?_
  refine newI C hP hD hS hA (N' := 64) (by decide) (by decide) (by decide) (Nat.le_of_ble_eq_true rfl) (Nat.le_of_ble_eq_true rfl) dX6_init_25 (fun q3 H hP hD hS => ?_)
  have hP : va_P D vwCl [(h0, .inr (6, [.ref q1, .ref q2, .int 0, .int 0, .int 0, .int 0, .int 0, .null, .null, .null, .null, .null, .int 0, .int 0, .int 0])), (q1, .inl (cy, 810, .inl (fun _ => 0))), (q2, .inl (cy, 810, .inl (fun _ => 0))), (q3, .inl (cy, 64, .inl (fun _ => 0)))] H := hP
  have hD : va_D A [(h0, .inr (6, [.ref q1, .ref q2, .int 0, .int 0, .int 0, .int 0, .int 0, .null, .null, .null, .null, .null, .int 0, .int 0, .int 0])), (q1, .inl (cy, 810, .inl (fun _ => 0))), (q2, .inl (cy, 810, .inl (fun _ => 0))), (q3, .inl (cy, 64, .inl (fun _ => 0)))] := hD
  refine va_putF (D := D) (ci := 6) (v := .ref q3) (ty := .array .int) (C := RX6) (T := TX6) (N := 15) hx hb C.2.2.2.2.2.2.1 inG6 tyX6 tyX6_ok nmX6 C.2.2.2.1 C.2.2.2.2.2.2.2.1 hP hD hS 0 rfl rfl 7 (by decide) (C.2.2.2.2.2.2.1 _ wq_931) (fun _ h9 => h9) rfl hin rfl (by decide +kernel) rfl rfl (Nat.le_of_ble_eq_true rfl) dX6_init_27 (fun H locs hP hD hS => ?_)
  have hP : va_P D vwCl [(h0, .inr (6, [.ref q1, .ref q2, .int 0, .int 0, .int 0, .int 0, .int 0, .ref q3, .null, .null, .null, .null, .int 0, .int 0, .int 0])), (q1, .inl (cy, 810, .inl (fun _ => 0))), (q2, .inl (cy, 810, .inl (fun _ => 0))), (q3, .inl (cy, 64, .inl (fun _ => 0)))] H := hP
  have hD : va_D A [(h0, .inr (6, [.ref q1, .ref q2, .int 0, .int 0, .int 0, .int 0, .int 0, .ref q3, .null, .null, .null, .null, .int 0, .int 0, .int 0])), (q1, .inl (cy, 810, .inl (fun _ => 0))), (q2, .inl (cy, 810, .inl (fun _ => 0))), (q3, .inl (cy, 64, .inl (fun _ => 0)))] := hD
  refine lv_aload_n hx hb dX6_init_30 rfl (lv_at hl 0 rfl) ?_
  refine lv_bipush (v := 64) hx hb dX6_init_31 (by decide) ?_
  refine newI C hP hD hS hA (N' := 64) (by decide) (by decide) (by decide) (Nat.le_of_ble_eq_true rfl) (Nat.le_of_ble_eq_true rfl) dX6_init_33 (fun q4 H hP hD hS => ?_)
  have hP : va_P D vwCl [(h0, .inr (6, [.ref q1, .ref q2, .int 0, .int 0, .int 0, .int 0, .int 0, .ref q3, .null, .null, .null, .null, .int 0, .int 0, .int 0])), (q1, .inl (cy, 810, .inl (fun _ => 0))), (q2, .inl (cy, 810, .inl (fun _ => 0))), (q3, .inl (cy, 64, .inl (fun _ => 0))), (q4, .inl (cy, 64, .inl (fun _ => 0)))] H := hP
  have hD : va_D A [(h0, .inr (6, [.ref q1, .ref q2, .int 0, .int 0, .int 0, .int 0, .int 0, .ref q3, .null, .null, .null, .null, .int 0, .int 0, .int 0])), (q1, .inl (cy, 810, .inl (fun _ => 0))), (q2, .inl (cy, 810, .inl (fun _ => 0))), (q3, .inl (cy, 64, .inl (fun _ => 0))), (q4, .inl (cy, 64, .inl (fun _ => 0)))] := hD
  refine va_putF (D := D) (ci := 6) (v := .ref q4) (ty := .array .int) (C := RX6) (T := TX6) (N := 15) hx hb C.2.2.2.2.2.2.1 inG6 tyX6 tyX6_ok nmX6 C.2.2.2.1 C.2.2.2.2.2.2.2.1 hP hD hS 0 rfl rfl 8 (by decide) (C.2.2.2.2.2.2.1 _ wq_932) (fun _ h9 => h9) rfl hin rfl (by decide +kernel) rfl rfl (Nat.le_of_ble_eq_true rfl) dX6_init_35 (fun H locs hP hD hS => ?_)
  have hP : va_P D vwCl [(h0, .inr (6, [.ref q1, .ref q2, .int 0, .int 0, .int 0, .int 0, .int 0, .ref q3, .ref q4, .null, .null, .null, .int 0, .int 0, .int 0])), (q1, .inl (cy, 810, .inl (fun _ => 0))), (q2, .inl (cy, 810, .inl (fun _ => 0))), (q3, .inl (cy, 64, .inl (fun _ => 0))), (q4, .inl (cy, 64, .inl (fun _ => 0)))] H := hP
  have hD : va_D A [(h0, .inr (6, [.ref q1, .ref q2, .int 0, .int 0, .int 0, .int 0, .int 0, .ref q3, .ref q4, .null, .null, .null, .int 0, .int 0, .int 0])), (q1, .inl (cy, 810, .inl (fun _ => 0))), (q2, .inl (cy, 810, .inl (fun _ => 0))), (q3, .inl (cy, 64, .inl (fun _ => 0))), (q4, .inl (cy, 64, .inl (fun _ => 0)))] := hD
  refine lv_aload_n hx hb dX6_init_38 rfl (lv_at hl 0 rfl) ?_
  refine lv_bipush (v := 64) hx hb dX6_init_39 (by decide) ?_
  refine newI C hP hD hS hA (N' := 64) (by decide) (by decide) (by decide) (Nat.le_of_ble_eq_true rfl) (Nat.le_of_ble_eq_true rfl) dX6_init_41 (fun q5 H hP hD hS => ?_)
  have hP : va_P D vwCl [(h0, .inr (6, [.ref q1, .ref q2, .int 0, .int 0, .int 0, .int 0, .int 0, .ref q3, .ref q4, .null, .null, .null, .int 0, .int 0, .int 0])), (q1, .inl (cy, 810, .inl (fun _ => 0))), (q2, .inl (cy, 810, .inl (fun _ => 0))), (q3, .inl (cy, 64, .inl (fun _ => 0))), (q4, .inl (cy, 64, .inl (fun _ => 0))), (q5, .inl (cy, 64, .inl (fun _ => 0)))] H := hP
  have hD : va_D A [(h0, .inr (6, [.ref q1, .ref q2, .int 0, .int 0, .int 0, .int 0, .int 0, .ref q3, .ref q4, .null, .null, .null, .int 0, .int 0, .int 0])), (q1, .inl (cy, 810, .inl (fun _ => 0))), (q2, .inl (cy, 810, .inl (fun _ => 0))), (q3, .inl (cy, 64, .inl (fun _ => 0))), (q4, .inl (cy, 64, .inl (fun _ => 0))), (q5, .inl (cy, 64, .inl (fun _ => 0)))] := hD
  refine va_putF (D := D) (ci := 6) (v := .ref q5) (ty := .array .int) (C := RX6) (T := TX6) (N := 15) hx hb C.2.2.2.2.2.2.1 inG6 tyX6 tyX6_ok nmX6 C.2.2.2.1 C.2.2.2.2.2.2.2.1 hP hD hS 0 rfl rfl 9 (by decide) (C.2.2.2.2.2.2.1 _ wq_933) (fun _ h9 => h9) rfl hin rfl (by decide +kernel) rfl rfl (Nat.le_of_ble_eq_true rfl) dX6_init_43 (fun H locs hP hD hS => ?_)
  have hP : va_P D vwCl [(h0, .inr (6, [.ref q1, .ref q2, .int 0, .int 0, .int 0, .int 0, .int 0, .ref q3, .ref q4, .ref q5, .null, .null, .int 0, .int 0, .int 0])), (q1, .inl (cy, 810, .inl (fun _ => 0))), (q2, .inl (cy, 810, .inl (fun _ => 0))), (q3, .inl (cy, 64, .inl (fun _ => 0))), (q4, .inl (cy, 64, .inl (fun _ => 0))), (q5, .inl (cy, 64, .inl (fun _ => 0)))] H := hP
  have hD : va_D A [(h0, .inr (6, [.ref q1, .ref q2, .int 0, .int 0, .int 0, .int 0, .int 0, .ref q3, .ref q4, .ref q5, .null, .null, .int 0, .int 0, .int 0])), (q1, .inl (cy, 810, .inl (fun _ => 0))), (q2, .inl (cy, 810, .inl (fun _ => 0))), (q3, .inl (cy, 64, .inl (fun _ => 0))), (q4, .inl (cy, 64, .inl (fun _ => 0))), (q5, .inl (cy, 64, .inl (fun _ => 0)))] := hD
  refine lv_aload_n hx hb dX6_init_46 rfl (lv_at hl 0 rfl) ?_
  refine lv_bipush (v := 64) hx hb dX6_init_47 (by decide) ?_
  refine newI C hP hD hS hA (N' := 64) (by decide) (by decide) (by decide) (Nat.le_of_ble_eq_true rfl) (Nat.le_of_ble_eq_true rfl) dX6_init_49 (fun q6 H hP hD hS => ?_)
  have hP : va_P D vwCl [(h0, .inr (6, [.ref q1, .ref q2, .int 0, .int 0, .int 0, .int 0, .int 0, .ref q3, .ref q4, .ref q5, .null, .null, .int 0, .int 0, .int 0])), (q1, .inl (cy, 810, .inl (fun _ => 0))), (q2, .inl (cy, 810, .inl (fun _ => 0))), (q3, .inl (cy, 64, .inl (fun _ => 0))), (q4, .inl (cy, 64, .inl (fun _ => 0))), (q5, .inl (cy, 64, .inl (fun _ => 0))), (q6, .inl (cy, 64, .inl (fun _ => 0)))] H := hP
  have hD : va_D A [(h0, .inr (6, [.ref q1, .ref q2, .int 0, .int 0, .int 0, .int 0, .int 0, .ref q3, .ref q4, .ref q5, .null, .null, .int 0, .int 0, .int 0])), (q1, .inl (cy, 810, .inl (fun _ => 0))), (q2, .inl (cy, 810, .inl (fun _ => 0))), (q3, .inl (cy, 64, .inl (fun _ => 0))), (q4, .inl (cy, 64, .inl (fun _ => 0))), (q5, .inl (cy, 64, .inl (fun _ => 0))), (q6, .inl (cy, 64, .inl (fun _ => 0)))] := hD
  refine va_putF (D := D) (ci := 6) (v := .ref q6) (ty := .array .int) (C := RX6) (T := TX6) (N := 15) hx hb C.2.2.2.2.2.2.1 inG6 tyX6 tyX6_ok nmX6 C.2.2.2.1 C.2.2.2.2.2.2.2.1 hP hD hS 0 rfl rfl 10 (by decide) (C.2.2.2.2.2.2.1 _ wq_934) (fun _ h9 => h9) rfl hin rfl (by decide +kernel) rfl rfl (Nat.le_of_ble_eq_true rfl) dX6_init_51 (fun H locs hP hD hS => ?_)
  have hP : va_P D vwCl [(h0, .inr (6, [.ref q1, .ref q2, .int 0, .int 0, .int 0, .int 0, .int 0, .ref q3, .ref q4, .ref q5, .ref q6, .null, .int 0, .int 0, .int 0])), (q1, .inl (cy, 810, .inl (fun _ => 0))), (q2, .inl (cy, 810, .inl (fun _ => 0))), (q3, .inl (cy, 64, .inl (fun _ => 0))), (q4, .inl (cy, 64, .inl (fun _ => 0))), (q5, .inl (cy, 64, .inl (fun _ => 0))), (q6, .inl (cy, 64, .inl (fun _ => 0)))] H := hP
  have hD : va_D A [(h0, .inr (6, [.ref q1, .ref q2, .int 0, .int 0, .int 0, .int 0, .int 0, .ref q3, .ref q4, .ref q5, .ref q6, .null, .int 0, .int 0, .int 0])), (q1, .inl (cy, 810, .inl (fun _ => 0))), (q2, .inl (cy, 810, .inl (fun _ => 0))), (q3, .inl (cy, 64, .inl (fun _ => 0))), (q4, .inl (cy, 64, .inl (fun _ => 0))), (q5, .inl (cy, 64, .inl (fun _ => 0))), (q6, .inl (cy, 64, .inl (fun _ => 0)))] := hD
  refine lv_aload_n hx hb dX6_init_54 rfl (lv_at hl 0 rfl) ?_
  refine lv_bipush (v := 48) hx hb dX6_init_55 (by decide) ?_
  refine newI C hP hD hS hA (N' := 48) (by decide) (by decide) (by decide) (Nat.le_of_ble_eq_true rfl) (Nat.le_of_ble_eq_true rfl) dX6_init_57 (fun q7 H hP hD hS => ?_)
  have hP : va_P D vwCl [(h0, .inr (6, [.ref q1, .ref q2, .int 0, .int 0, .int 0, .int 0, .int 0, .ref q3, .ref q4, .ref q5, .ref q6, .null, .int 0, .int 0, .int 0])), (q1, .inl (cy, 810, .inl (fun _ => 0))), (q2, .inl (cy, 810, .inl (fun _ => 0))), (q3, .inl (cy, 64, .inl (fun _ => 0))), (q4, .inl (cy, 64, .inl (fun _ => 0))), (q5, .inl (cy, 64, .inl (fun _ => 0))), (q6, .inl (cy, 64, .inl (fun _ => 0))), (q7, .inl (cy, 48, .inl (fun _ => 0)))] H := hP
  have hD : va_D A [(h0, .inr (6, [.ref q1, .ref q2, .int 0, .int 0, .int 0, .int 0, .int 0, .ref q3, .ref q4, .ref q5, .ref q6, .null, .int 0, .int 0, .int 0])), (q1, .inl (cy, 810, .inl (fun _ => 0))), (q2, .inl (cy, 810, .inl (fun _ => 0))), (q3, .inl (cy, 64, .inl (fun _ => 0))), (q4, .inl (cy, 64, .inl (fun _ => 0))), (q5, .inl (cy, 64, .inl (fun _ => 0))), (q6, .inl (cy, 64, .inl (fun _ => 0))), (q7, .inl (cy, 48, .inl (fun _ => 0)))] := hD
  refine va_putF (D := D) (ci := 6) (v := .ref q7) (ty := .array .int) (C := RX6) (T := TX6) (N := 15) hx hb C.2.2.2.2.2.2.1 inG6 tyX6 tyX6_ok nmX6 C.2.2.2.1 C.2.2.2.2.2.2.2.1 hP hD hS 0 rfl rfl 11 (by decide) (C.2.2.2.2.2.2.1 _ wq_935) (fun _ h9 => h9) rfl hin rfl (by decide +kernel) rfl rfl (Nat.le_of_ble_eq_true rfl) dX6_init_59 (fun H locs hP hD hS => ?_)
  have hP : va_P D vwCl [(h0, .inr (6, [.ref q1, .ref q2, .int 0, .int 0, .int 0, .int 0, .int 0, .ref q3, .ref q4, .ref q5, .ref q6, .ref q7, .int 0, .int 0, .int 0])), (q1, .inl (cy, 810, .inl (fun _ => 0))), (q2, .inl (cy, 810, .inl (fun _ => 0))), (q3, .inl (cy, 64, .inl (fun _ => 0))), (q4, .inl (cy, 64, .inl (fun _ => 0))), (q5, .inl (cy, 64, .inl (fun _ => 0))), (q6, .inl (cy, 64, .inl (fun _ => 0))), (q7, .inl (cy, 48, .inl (fun _ => 0)))] H := hP
  have hD : va_D A [(h0, .inr (6, [.ref q1, .ref q2, .int 0, .int 0, .int 0, .int 0, .int 0, .ref q3, .ref q4, .ref q5, .ref q6, .ref q7, .int 0, .int 0, .int 0])), (q1, .inl (cy, 810, .inl (fun _ => 0))), (q2, .inl (cy, 810, .inl (fun _ => 0))), (q3, .inl (cy, 64, .inl (fun _ => 0))), (q4, .inl (cy, 64, .inl (fun _ => 0))), (q5, .inl (cy, 64, .inl (fun _ => 0))), (q6, .inl (cy, 64, .inl (fun _ => 0))), (q7, .inl (cy, 48, .inl (fun _ => 0)))] := hD
  refine lv_aload_n hx hb dX6_init_62 rfl (lv_at hl 0 rfl) ?_
  refine lv_iconst (v := 3) hx hb dX6_init_63 (by decide) ?_
  refine lv_bipush (v := 64) hx hb dX6_init_64 (by decide) ?_
  obtain ⟨Ad, hAd⟩ : ∃ Ad : Nat → Nat, Ad = (fun k => ([h0, q1, q2, q3, q4, q5, q6, q7] : List Nat).getD k 0) := ⟨_, rfl⟩
  have hPz : va_P D vwCl (wM Ad cy (fun _ => 0) (fun _ _ => 0)) H := by rw [hAd]; exact hP
  have hDz : va_D A (wM Ad cy (fun _ => 0) (fun _ _ => 0)) := by rw [hAd]; exact hD
  have hap : apt 8 Ad := aptOf rM hDz
  have e0 : h0 = Ad 0 := by rw [hAd]; rfl
  subst e0
  refine kWv (rnV C (ct_X6_makes l D cy Ad hap h) yv_X6_makes wq_920 ⟨rfl, rfl⟩ ⟨Nat.le_of_ble_eq_true rfl, Nat.le_of_ble_eq_true rfl⟩ ⟨Nat.le_of_ble_eq_true rfl, Nat.le_of_ble_eq_true rfl⟩ (vM_model C hPz) hPz hl.1 rfl rfl (Nat.le_of_ble_eq_true rfl) dX6_init_66) hS (fun q hq => inOf rM hDz hq) (fun σ1 μ1 H locs h hP hk hS => ?_)
  have hD1 : va_D A (wM Ad cy σ1 μ1) := dOf rM hDz
  exact W.vret hx hb C.2.2.2.2.1 (fun t ht hW => ⟨⟨(Ad, σ1, μ1), rfl, ⟨h, rfl, hap⟩, by rw [ht]; exact hP, hD1⟩, hS.F ht⟩) hS.2.2 dX6_init_69 hlocks
abbrev rmX4_init : Room := { frames := 2, cells := 17, slots := 1215, locals := 45 }
def wp_X4_init (Q : Rg → Ar → Prop) : Prop := wp_X1_renew (fun k => if k = 0 then -1 else 0) (fun _ _ => 0) 3 64 Q
set_option maxHeartbeats 4000000 in
set_option maxRecDepth 100000 in
theorem ci_X4_init (l : Launch) (D : va_G) (cy : ClassId) (h0 sz : Nat) {Q : Rg → Ar → Prop} (h : wp_X4_init Q) : Met l yX4_init (wy yX4_init cX4_init 1 none) rmX4_init (va_Pc [.ref h0] (fun U => U.heap.size = sz ∧ va_P D vwCl [(h0, .inr (4, [.null, .null, .null, .null, .int 0, .int 0, .int 0]))] U.heap ∧ va_K D vwCl [(cy, .int)] U ∧ NW U)) (va_Qv (fun u : (Nat → Nat) × Rg × Ar => Q u.2.1 u.2.2 ∧ u.1 0 = h0 ∧ apt 18 u.1) (fun u t => va_P D vwCl (wS u.1 cy u.2.1 u.2.2) t.heap ∧ va_D (va_A [(h0, .inr (4, [.null, .null, .null, .null, .int 0, .int 0, .int 0]))] sz) (wS u.1 cy u.2.1 u.2.2)) (va_A [(h0, .inr (4, [.null, .null, .null, .null, .int 0, .int 0, .int 0]))] sz)) 17 1215 (va_A [(h0, .inr (4, [.null, .null, .null, .null, .int 0, .int 0, .int 0]))] sz) := by
  refine Met.ofW (cc := cX4_init) (maxL := 1) (ret := none) (by decide) rfl ?_
  intro p e s m args below meth c s₁ B hml hv
  obtain ⟨rfl, hsz, hP, hK, hN⟩ := hv
  have hts0 := atoms_spec (ws := wy yX4_init cX4_init 1 none) B.pre
  have C : Cx p s m [Value.ref h0].toArray meth c RX4 cX4_init 1 none D [(cy, .int)] := ⟨B.exec, B.bytes, hml, findClass_of_methodNamed B.named, B.returns, B.notSynchronized, fun w h => hts0 w (List.mem_cons_of_mem _ h), hK, hN⟩
  have hin : meth.name = "<init>" := (name_of_methodNamed B.named B.method).1
  have hlocks := B.notSynchronized
  subst hsz
  have hD0 : va_D (va_A [(h0, .inr (4, [.null, .null, .null, .null, .int 0, .int 0, .int 0]))] s.heap.size) [(h0, .inr (4, [.null, .null, .null, .null, .int 0, .int 0, .int 0]))] := one_D
  generalize hAe : va_A [(h0, .inr (4, [.null, .null, .null, .null, .int 0, .int 0, .int 0]))] s.heap.size = A at hD0 ⊢
  have hA : ∀ q : Nat, s.heap.size ≤ q → A q := fun q h => by rw [← hAe]; exact Or.inr h
  have hS : va_S A s.heap s.heap [] := va_S.rf
  have hl := lv_entry ([.ref h0]) (n := 1) (Nat.le_of_ble_eq_true rfl)
  rw [lg_entry_eq]
  generalize (lg_sl ([.ref h0]) ++ List.replicate (1 - (lg_sl ([.ref h0])).length) Slot.unset).toArray = ls at hl ⊢
  have hl : lv_has ls 1 [(0, .ref h0)] := hl
  have hx := C.1
  have hb := C.2.1
  have hD := hD0
  refine lv_aload_n hx hb dX4_init_0 rfl (lv_at hl 0 rfl) ?_
  refine W.objInit hx hb C.2.2.2.1 (C.2.2.2.2.2.2.1 _ wq_161) (C.2.2.2.2.2.2.1 _ wq_154) (C.2.2.2.2.2.2.1 _ wq_155) rfl (by rw [C.2.2.1]; exact hl.1) rfl dX4_init_1 (Nat.le_of_ble_eq_true rfl) (Nat.le_of_ble_eq_true rfl) ?_
  refine W.eq (g2 := F0 m 4 ls []) rfl ?_
  refine lv_aload_n hx hb dX4_init_4 rfl (lv_at hl 0 rfl) ?_
  refine va_new (ci := 1) (fs := [.null, .null, .int 0, .int 0, .int 0, .int 0, .int 0, .int 0, .int 0, .int 0]) (C := RX1) (T := TX1) (N := 10) hx hb C.2.2.2.2.2.2.1 inG1 tyX1 tyX1_ok C.2.2.2.1 (C.2.2.2.2.2.2.1 _ wq_162) (C.2.2.2.2.2.2.1 _ wq_163) (C.2.2.2.2.2.2.1 _ wq_132) C.2.2.2.2.2.2.2.1 hP hD hS hA rfl (fun j hj => by rcases (show j = 0 ∨ j = 1 ∨ j = 2 ∨ j = 3 ∨ j = 4 ∨ j = 5 ∨ j = 6 ∨ j = 7 ∨ j = 8 ∨ j = 9 by omega) with rfl | rfl | rfl | rfl | rfl | rfl | rfl | rfl | rfl | rfl <;> rfl) (Nat.le_of_ble_eq_true rfl) (Nat.le_of_ble_eq_true rfl) dX4_init_5 (fun q1 H hP hD hS => ?_)
  have hP : va_P D vwCl [(h0, .inr (4, [.null, .null, .null, .null, .int 0, .int 0, .int 0])), (q1, .inr (1, [.null, .null, .int 0, .int 0, .int 0, .int 0, .int 0, .int 0, .int 0, .int 0]))] H := hP
  have hD : va_D A [(h0, .inr (4, [.null, .null, .null, .null, .int 0, .int 0, .int 0])), (q1, .inr (1, [.null, .null, .int 0, .int 0, .int 0, .int 0, .int 0, .int 0, .int 0, .int 0]))] := hD
  refine lv_dup hx hb dX4_init_8 rfl ?_
  have hPc := hP.sub (ws' := [(q1, .inr (1, [.null, .null, .int 0, .int 0, .int 0, .int 0, .int 0, .int 0, .int 0, .int 0]))]) [1] rfl
  have hFc := va_free (wc := [(q1, .inr (1, [.null, .null, .int 0, .int 0, .int 0, .int 0, .int 0, .int 0, .int 0, .int 0]))]) hD hS hA [1] rfl
  refine va_callv (va_runIN (As := []) (rest := [.ref q1, .ref h0]) (Ts := gw) ⟨hx, hb, C.2.2.1, C.2.2.2.1, C.2.2.2.2.2.2.1⟩ (ci_X1_init l D cy q1 H.size) ⟨va_cnB 0 C.2.2.2.2.2.2.1 (gwGood wq_166) rfl rfl rfl (C.2.2.2.2.2.2.2.2 _ wn_164) (C.2.2.2.2.2.2.1 _ wq_132) (by decide +kernel) ⟨Nat.le_of_ble_eq_true rfl, Nat.le_of_ble_eq_true rfl⟩, rfl, (C.2.2.2.2.2.2.1 _ wq_165)⟩ ⟨blindI, preI C hPc⟩ rfl rfl hl.1 rfl (lv_room (Nat.le_of_ble_eq_true rfl)) dX4_init_9 ⟨Nat.le_of_ble_eq_true rfl, Nat.le_of_ble_eq_true rfl⟩) hS (fun q _ h => hFc q h) hFc (fun u9 t H1 locs ht hvm hw hB hz1 hk1 hS => ?_)
  obtain ⟨hP1, hD1⟩ := hB
  rw [ht] at hP1
  obtain ⟨hP, hD⟩ := va_join (wr := [(h0, .inr (4, [.null, .null, .null, .null, .int 0, .int 0, .int 0]))]) (w1 := ws_X1_init q1 cy u9) hP hD [1] [0] rfl rfl (by decide) (by decide) hk1 hFc hP1 hD1
  generalize H1 = H at hP hS ⊢
  have hP : va_P D vwCl [(h0, .inr (4, [.null, .null, .null, .null, .int 0, .int 0, .int 0])), (q1, .inr (1, [.ref (u9 1), .ref (u9 2), .int 0, .int 0, .int 0, .int 0, .int 0, .int 0, .int 0, .int 0])), (u9 1, .inl (cy, 768, .inl (fun _ => 0))), (u9 2, .inl (cy, 6, .inl (fun _ => 0)))] H := hP
  have hD : va_D A [(h0, .inr (4, [.null, .null, .null, .null, .int 0, .int 0, .int 0])), (q1, .inr (1, [.ref (u9 1), .ref (u9 2), .int 0, .int 0, .int 0, .int 0, .int 0, .int 0, .int 0, .int 0])), (u9 1, .inl (cy, 768, .inl (fun _ => 0))), (u9 2, .inl (cy, 6, .inl (fun _ => 0)))] := hD
  refine va_putF (D := D) (ci := 4) (v := .ref q1) (ty := .object "SettingStore$Chip") (C := RX4) (T := TX4) (N := 7) hx hb C.2.2.2.2.2.2.1 inG4 tyX4 tyX4_ok nmX4 C.2.2.2.1 C.2.2.2.2.2.2.2.1 hP hD hS 0 rfl rfl 0 (by decide) (C.2.2.2.2.2.2.1 _ wq_309) (fun _ h9 => h9) rfl hin rfl (by decide +kernel) rfl rfl (Nat.le_of_ble_eq_true rfl) dX4_init_12 (fun H locs hP hD hS => ?_)
  have hP : va_P D vwCl [(h0, .inr (4, [.ref q1, .null, .null, .null, .int 0, .int 0, .int 0])), (q1, .inr (1, [.ref (u9 1), .ref (u9 2), .int 0, .int 0, .int 0, .int 0, .int 0, .int 0, .int 0, .int 0])), (u9 1, .inl (cy, 768, .inl (fun _ => 0))), (u9 2, .inl (cy, 6, .inl (fun _ => 0)))] H := hP
  have hD : va_D A [(h0, .inr (4, [.ref q1, .null, .null, .null, .int 0, .int 0, .int 0])), (q1, .inr (1, [.ref (u9 1), .ref (u9 2), .int 0, .int 0, .int 0, .int 0, .int 0, .int 0, .int 0, .int 0])), (u9 1, .inl (cy, 768, .inl (fun _ => 0))), (u9 2, .inl (cy, 6, .inl (fun _ => 0)))] := hD
  refine lv_aload_n hx hb dX4_init_15 rfl (lv_at hl 0 rfl) ?_
  refine va_new (ci := 3) (fs := [.null, .null, .null, .null, .null, .null, .null, .int 0, .int 0, .int 0, .int 0]) (C := RX3) (T := TX3) (N := 11) hx hb C.2.2.2.2.2.2.1 inG3 tyX3 tyX3_ok C.2.2.2.1 (C.2.2.2.2.2.2.1 _ wq_210) (C.2.2.2.2.2.2.1 _ wq_211) (C.2.2.2.2.2.2.1 _ wq_133) C.2.2.2.2.2.2.2.1 hP hD hS hA rfl (fun j hj => by rcases (show j = 0 ∨ j = 1 ∨ j = 2 ∨ j = 3 ∨ j = 4 ∨ j = 5 ∨ j = 6 ∨ j = 7 ∨ j = 8 ∨ j = 9 ∨ j = 10 by omega) with rfl | rfl | rfl | rfl | rfl | rfl | rfl | rfl | rfl | rfl | rfl <;> rfl) (Nat.le_of_ble_eq_true rfl) (Nat.le_of_ble_eq_true rfl) dX4_init_16 (fun q4 H hP hD hS => ?_)
  have hP : va_P D vwCl [(h0, .inr (4, [.ref q1, .null, .null, .null, .int 0, .int 0, .int 0])), (q1, .inr (1, [.ref (u9 1), .ref (u9 2), .int 0, .int 0, .int 0, .int 0, .int 0, .int 0, .int 0, .int 0])), (u9 1, .inl (cy, 768, .inl (fun _ => 0))), (u9 2, .inl (cy, 6, .inl (fun _ => 0))), (q4, .inr (3, [.null, .null, .null, .null, .null, .null, .null, .int 0, .int 0, .int 0, .int 0]))] H := hP
  have hD : va_D A [(h0, .inr (4, [.ref q1, .null, .null, .null, .int 0, .int 0, .int 0])), (q1, .inr (1, [.ref (u9 1), .ref (u9 2), .int 0, .int 0, .int 0, .int 0, .int 0, .int 0, .int 0, .int 0])), (u9 1, .inl (cy, 768, .inl (fun _ => 0))), (u9 2, .inl (cy, 6, .inl (fun _ => 0))), (q4, .inr (3, [.null, .null, .null, .null, .null, .null, .null, .int 0, .int 0, .int 0, .int 0]))] := hD
  refine lv_dup hx hb dX4_init_19 rfl ?_
  have hPc := hP.sub (ws' := [(q4, .inr (3, [.null, .null, .null, .null, .null, .null, .null, .int 0, .int 0, .int 0, .int 0]))]) [4] rfl
  have hFc := va_free (wc := [(q4, .inr (3, [.null, .null, .null, .null, .null, .null, .null, .int 0, .int 0, .int 0, .int 0]))]) hD hS hA [4] rfl
  refine va_callv (va_runIN (As := []) (rest := [.ref q4, .ref h0]) (Ts := gw) ⟨hx, hb, C.2.2.1, C.2.2.2.1, C.2.2.2.2.2.2.1⟩ (ci_X3_init l D cy q4 H.size) ⟨va_cnB 0 C.2.2.2.2.2.2.1 (gwGood wq_214) rfl rfl rfl (C.2.2.2.2.2.2.2.2 _ wn_212) (C.2.2.2.2.2.2.1 _ wq_133) (by decide +kernel) ⟨Nat.le_of_ble_eq_true rfl, Nat.le_of_ble_eq_true rfl⟩, rfl, (C.2.2.2.2.2.2.1 _ wq_213)⟩ ⟨blindI, preI C hPc⟩ rfl rfl hl.1 rfl (lv_room (Nat.le_of_ble_eq_true rfl)) dX4_init_20 ⟨Nat.le_of_ble_eq_true rfl, Nat.le_of_ble_eq_true rfl⟩) hS (fun q _ h => hFc q h) hFc (fun u20 t H1 locs ht hvm hw hB hz1 hk1 hS => ?_)
  obtain ⟨hP1, hD1⟩ := hB
  rw [ht] at hP1
  obtain ⟨hP, hD⟩ := va_join (wr := [(h0, .inr (4, [.ref q1, .null, .null, .null, .int 0, .int 0, .int 0])), (q1, .inr (1, [.ref (u9 1), .ref (u9 2), .int 0, .int 0, .int 0, .int 0, .int 0, .int 0, .int 0, .int 0])), (u9 1, .inl (cy, 768, .inl (fun _ => 0))), (u9 2, .inl (cy, 6, .inl (fun _ => 0)))]) (w1 := ws_X3_init q4 cy u20) hP hD [4] [0, 1, 2, 3] rfl rfl (by decide) (by decide) hk1 hFc hP1 hD1
  generalize H1 = H at hP hS ⊢
  have hP : va_P D vwCl [(h0, .inr (4, [.ref q1, .null, .null, .null, .int 0, .int 0, .int 0])), (q1, .inr (1, [.ref (u9 1), .ref (u9 2), .int 0, .int 0, .int 0, .int 0, .int 0, .int 0, .int 0, .int 0])), (u9 1, .inl (cy, 768, .inl (fun _ => 0))), (u9 2, .inl (cy, 6, .inl (fun _ => 0))), (q4, .inr (3, [.ref (u20 1), .ref (u20 2), .ref (u20 3), .ref (u20 4), .ref (u20 5), .ref (u20 6), .ref (u20 7), .int 0, .int 0, .int 0, .int 0])), (u20 1, .inl (cy, 128, .inl (fun _ => 0))), (u20 2, .inl (cy, 41, .inl (fun _ => 0))), (u20 3, .inl (cy, 41, .inl (fun _ => 0))), (u20 4, .inl (cy, 41, .inl (fun _ => 0))), (u20 5, .inl (cy, 41, .inl (fun _ => 0))), (u20 6, .inl (cy, 41, .inl (fun _ => 0))), (u20 7, .inl (cy, 48, .inl (fun _ => 0)))] H := hP
  have hD : va_D A [(h0, .inr (4, [.ref q1, .null, .null, .null, .int 0, .int 0, .int 0])), (q1, .inr (1, [.ref (u9 1), .ref (u9 2), .int 0, .int 0, .int 0, .int 0, .int 0, .int 0, .int 0, .int 0])), (u9 1, .inl (cy, 768, .inl (fun _ => 0))), (u9 2, .inl (cy, 6, .inl (fun _ => 0))), (q4, .inr (3, [.ref (u20 1), .ref (u20 2), .ref (u20 3), .ref (u20 4), .ref (u20 5), .ref (u20 6), .ref (u20 7), .int 0, .int 0, .int 0, .int 0])), (u20 1, .inl (cy, 128, .inl (fun _ => 0))), (u20 2, .inl (cy, 41, .inl (fun _ => 0))), (u20 3, .inl (cy, 41, .inl (fun _ => 0))), (u20 4, .inl (cy, 41, .inl (fun _ => 0))), (u20 5, .inl (cy, 41, .inl (fun _ => 0))), (u20 6, .inl (cy, 41, .inl (fun _ => 0))), (u20 7, .inl (cy, 48, .inl (fun _ => 0)))] := hD
  refine va_putF (D := D) (ci := 4) (v := .ref q4) (ty := .object "SettingStore$Reading") (C := RX4) (T := TX4) (N := 7) hx hb C.2.2.2.2.2.2.1 inG4 tyX4 tyX4_ok nmX4 C.2.2.2.1 C.2.2.2.2.2.2.2.1 hP hD hS 0 rfl rfl 1 (by decide) (C.2.2.2.2.2.2.1 _ wq_311) (fun _ h9 => h9) rfl hin rfl (by decide +kernel) rfl rfl (Nat.le_of_ble_eq_true rfl) dX4_init_23 (fun H locs hP hD hS => ?_)
  have hP : va_P D vwCl [(h0, .inr (4, [.ref q1, .ref q4, .null, .null, .int 0, .int 0, .int 0])), (q1, .inr (1, [.ref (u9 1), .ref (u9 2), .int 0, .int 0, .int 0, .int 0, .int 0, .int 0, .int 0, .int 0])), (u9 1, .inl (cy, 768, .inl (fun _ => 0))), (u9 2, .inl (cy, 6, .inl (fun _ => 0))), (q4, .inr (3, [.ref (u20 1), .ref (u20 2), .ref (u20 3), .ref (u20 4), .ref (u20 5), .ref (u20 6), .ref (u20 7), .int 0, .int 0, .int 0, .int 0])), (u20 1, .inl (cy, 128, .inl (fun _ => 0))), (u20 2, .inl (cy, 41, .inl (fun _ => 0))), (u20 3, .inl (cy, 41, .inl (fun _ => 0))), (u20 4, .inl (cy, 41, .inl (fun _ => 0))), (u20 5, .inl (cy, 41, .inl (fun _ => 0))), (u20 6, .inl (cy, 41, .inl (fun _ => 0))), (u20 7, .inl (cy, 48, .inl (fun _ => 0)))] H := hP
  have hD : va_D A [(h0, .inr (4, [.ref q1, .ref q4, .null, .null, .int 0, .int 0, .int 0])), (q1, .inr (1, [.ref (u9 1), .ref (u9 2), .int 0, .int 0, .int 0, .int 0, .int 0, .int 0, .int 0, .int 0])), (u9 1, .inl (cy, 768, .inl (fun _ => 0))), (u9 2, .inl (cy, 6, .inl (fun _ => 0))), (q4, .inr (3, [.ref (u20 1), .ref (u20 2), .ref (u20 3), .ref (u20 4), .ref (u20 5), .ref (u20 6), .ref (u20 7), .int 0, .int 0, .int 0, .int 0])), (u20 1, .inl (cy, 128, .inl (fun _ => 0))), (u20 2, .inl (cy, 41, .inl (fun _ => 0))), (u20 3, .inl (cy, 41, .inl (fun _ => 0))), (u20 4, .inl (cy, 41, .inl (fun _ => 0))), (u20 5, .inl (cy, 41, .inl (fun _ => 0))), (u20 6, .inl (cy, 41, .inl (fun _ => 0))), (u20 7, .inl (cy, 48, .inl (fun _ => 0)))] := hD
  refine lv_aload_n hx hb dX4_init_26 rfl (lv_at hl 0 rfl) ?_
  refine va_new (ci := 0) (fs := [.null, .null, .null, .int 0, .int 0]) (C := RX0) (T := TX0) (N := 5) hx hb C.2.2.2.2.2.2.1 inG0 tyX0 tyX0_ok C.2.2.2.1 (C.2.2.2.2.2.2.1 _ wq_254) (C.2.2.2.2.2.2.1 _ wq_255) (C.2.2.2.2.2.2.1 _ wq_134) C.2.2.2.2.2.2.2.1 hP hD hS hA rfl (fun j hj => by rcases (show j = 0 ∨ j = 1 ∨ j = 2 ∨ j = 3 ∨ j = 4 by omega) with rfl | rfl | rfl | rfl | rfl <;> rfl) (Nat.le_of_ble_eq_true rfl) (Nat.le_of_ble_eq_true rfl) dX4_init_27 (fun q12 H hP hD hS => ?_)
  have hP : va_P D vwCl [(h0, .inr (4, [.ref q1, .ref q4, .null, .null, .int 0, .int 0, .int 0])), (q1, .inr (1, [.ref (u9 1), .ref (u9 2), .int 0, .int 0, .int 0, .int 0, .int 0, .int 0, .int 0, .int 0])), (u9 1, .inl (cy, 768, .inl (fun _ => 0))), (u9 2, .inl (cy, 6, .inl (fun _ => 0))), (q4, .inr (3, [.ref (u20 1), .ref (u20 2), .ref (u20 3), .ref (u20 4), .ref (u20 5), .ref (u20 6), .ref (u20 7), .int 0, .int 0, .int 0, .int 0])), (u20 1, .inl (cy, 128, .inl (fun _ => 0))), (u20 2, .inl (cy, 41, .inl (fun _ => 0))), (u20 3, .inl (cy, 41, .inl (fun _ => 0))), (u20 4, .inl (cy, 41, .inl (fun _ => 0))), (u20 5, .inl (cy, 41, .inl (fun _ => 0))), (u20 6, .inl (cy, 41, .inl (fun _ => 0))), (u20 7, .inl (cy, 48, .inl (fun _ => 0))), (q12, .inr (0, [.null, .null, .null, .int 0, .int 0]))] H := hP
  have hD : va_D A [(h0, .inr (4, [.ref q1, .ref q4, .null, .null, .int 0, .int 0, .int 0])), (q1, .inr (1, [.ref (u9 1), .ref (u9 2), .int 0, .int 0, .int 0, .int 0, .int 0, .int 0, .int 0, .int 0])), (u9 1, .inl (cy, 768, .inl (fun _ => 0))), (u9 2, .inl (cy, 6, .inl (fun _ => 0))), (q4, .inr (3, [.ref (u20 1), .ref (u20 2), .ref (u20 3), .ref (u20 4), .ref (u20 5), .ref (u20 6), .ref (u20 7), .int 0, .int 0, .int 0, .int 0])), (u20 1, .inl (cy, 128, .inl (fun _ => 0))), (u20 2, .inl (cy, 41, .inl (fun _ => 0))), (u20 3, .inl (cy, 41, .inl (fun _ => 0))), (u20 4, .inl (cy, 41, .inl (fun _ => 0))), (u20 5, .inl (cy, 41, .inl (fun _ => 0))), (u20 6, .inl (cy, 41, .inl (fun _ => 0))), (u20 7, .inl (cy, 48, .inl (fun _ => 0))), (q12, .inr (0, [.null, .null, .null, .int 0, .int 0]))] := hD
  refine lv_dup hx hb dX4_init_30 rfl ?_
  have hPc := hP.sub (ws' := [(q12, .inr (0, [.null, .null, .null, .int 0, .int 0]))]) [12] rfl
  have hFc := va_free (wc := [(q12, .inr (0, [.null, .null, .null, .int 0, .int 0]))]) hD hS hA [12] rfl
  refine va_callv (va_runIN (As := []) (rest := [.ref q12, .ref h0]) (Ts := gw) ⟨hx, hb, C.2.2.1, C.2.2.2.1, C.2.2.2.2.2.2.1⟩ (ci_X0_init l D cy q12 H.size) ⟨va_cnB 0 C.2.2.2.2.2.2.1 (gwGood wq_258) rfl rfl rfl (C.2.2.2.2.2.2.2.2 _ wn_256) (C.2.2.2.2.2.2.1 _ wq_134) (by decide +kernel) ⟨Nat.le_of_ble_eq_true rfl, Nat.le_of_ble_eq_true rfl⟩, rfl, (C.2.2.2.2.2.2.1 _ wq_257)⟩ ⟨blindI, preI C hPc⟩ rfl rfl hl.1 rfl (lv_room (Nat.le_of_ble_eq_true rfl)) dX4_init_31 ⟨Nat.le_of_ble_eq_true rfl, Nat.le_of_ble_eq_true rfl⟩) hS (fun q _ h => hFc q h) hFc (fun u31 t H1 locs ht hvm hw hB hz1 hk1 hS => ?_)
  obtain ⟨hP1, hD1⟩ := hB
  rw [ht] at hP1
  obtain ⟨hP, hD⟩ := va_join (wr := [(h0, .inr (4, [.ref q1, .ref q4, .null, .null, .int 0, .int 0, .int 0])), (q1, .inr (1, [.ref (u9 1), .ref (u9 2), .int 0, .int 0, .int 0, .int 0, .int 0, .int 0, .int 0, .int 0])), (u9 1, .inl (cy, 768, .inl (fun _ => 0))), (u9 2, .inl (cy, 6, .inl (fun _ => 0))), (q4, .inr (3, [.ref (u20 1), .ref (u20 2), .ref (u20 3), .ref (u20 4), .ref (u20 5), .ref (u20 6), .ref (u20 7), .int 0, .int 0, .int 0, .int 0])), (u20 1, .inl (cy, 128, .inl (fun _ => 0))), (u20 2, .inl (cy, 41, .inl (fun _ => 0))), (u20 3, .inl (cy, 41, .inl (fun _ => 0))), (u20 4, .inl (cy, 41, .inl (fun _ => 0))), (u20 5, .inl (cy, 41, .inl (fun _ => 0))), (u20 6, .inl (cy, 41, .inl (fun _ => 0))), (u20 7, .inl (cy, 48, .inl (fun _ => 0)))]) (w1 := ws_X0_init q12 cy u31) hP hD [12] [0, 1, 2, 3, 4, 5, 6, 7, 8, 9, 10, 11] rfl rfl (by decide) (by decide) hk1 hFc hP1 hD1
  generalize H1 = H at hP hS ⊢
  have hP : va_P D vwCl [(h0, .inr (4, [.ref q1, .ref q4, .null, .null, .int 0, .int 0, .int 0])), (q1, .inr (1, [.ref (u9 1), .ref (u9 2), .int 0, .int 0, .int 0, .int 0, .int 0, .int 0, .int 0, .int 0])), (u9 1, .inl (cy, 768, .inl (fun _ => 0))), (u9 2, .inl (cy, 6, .inl (fun _ => 0))), (q4, .inr (3, [.ref (u20 1), .ref (u20 2), .ref (u20 3), .ref (u20 4), .ref (u20 5), .ref (u20 6), .ref (u20 7), .int 0, .int 0, .int 0, .int 0])), (u20 1, .inl (cy, 128, .inl (fun _ => 0))), (u20 2, .inl (cy, 41, .inl (fun _ => 0))), (u20 3, .inl (cy, 41, .inl (fun _ => 0))), (u20 4, .inl (cy, 41, .inl (fun _ => 0))), (u20 5, .inl (cy, 41, .inl (fun _ => 0))), (u20 6, .inl (cy, 41, .inl (fun _ => 0))), (u20 7, .inl (cy, 48, .inl (fun _ => 0))), (q12, .inr (0, [.ref (u31 1), .ref (u31 2), .ref (u31 3), .int 0, .int 0])), (u31 1, .inl (cy, 8, .inl (fun _ => 0))), (u31 2, .inl (cy, 8, .inl (fun _ => 0))), (u31 3, .inl (cy, 8, .inl (fun _ => 0)))] H := hP
  have hD : va_D A [(h0, .inr (4, [.ref q1, .ref q4, .null, .null, .int 0, .int 0, .int 0])), (q1, .inr (1, [.ref (u9 1), .ref (u9 2), .int 0, .int 0, .int 0, .int 0, .int 0, .int 0, .int 0, .int 0])), (u9 1, .inl (cy, 768, .inl (fun _ => 0))), (u9 2, .inl (cy, 6, .inl (fun _ => 0))), (q4, .inr (3, [.ref (u20 1), .ref (u20 2), .ref (u20 3), .ref (u20 4), .ref (u20 5), .ref (u20 6), .ref (u20 7), .int 0, .int 0, .int 0, .int 0])), (u20 1, .inl (cy, 128, .inl (fun _ => 0))), (u20 2, .inl (cy, 41, .inl (fun _ => 0))), (u20 3, .inl (cy, 41, .inl (fun _ => 0))), (u20 4, .inl (cy, 41, .inl (fun _ => 0))), (u20 5, .inl (cy, 41, .inl (fun _ => 0))), (u20 6, .inl (cy, 41, .inl (fun _ => 0))), (u20 7, .inl (cy, 48, .inl (fun _ => 0))), (q12, .inr (0, [.ref (u31 1), .ref (u31 2), .ref (u31 3), .int 0, .int 0])), (u31 1, .inl (cy, 8, .inl (fun _ => 0))), (u31 2, .inl (cy, 8, .inl (fun _ => 0))), (u31 3, .inl (cy, 8, .inl (fun _ => 0)))] := hD
  refine va_putF (D := D) (ci := 4) (v := .ref q12) (ty := .object "SettingStore$Change") (C := RX4) (T := TX4) (N := 7) hx hb C.2.2.2.2.2.2.1 inG4 tyX4 tyX4_ok nmX4 C.2.2.2.1 C.2.2.2.2.2.2.2.1 hP hD hS 0 rfl rfl 2 (by decide) (C.2.2.2.2.2.2.1 _ wq_313) (fun _ h9 => h9) rfl hin rfl (by decide +kernel) rfl rfl (Nat.le_of_ble_eq_true rfl) dX4_init_34 (fun H locs hP hD hS => ?_)
  have hP : va_P D vwCl [(h0, .inr (4, [.ref q1, .ref q4, .ref q12, .null, .int 0, .int 0, .int 0])), (q1, .inr (1, [.ref (u9 1), .ref (u9 2), .int 0, .int 0, .int 0, .int 0, .int 0, .int 0, .int 0, .int 0])), (u9 1, .inl (cy, 768, .inl (fun _ => 0))), (u9 2, .inl (cy, 6, .inl (fun _ => 0))), (q4, .inr (3, [.ref (u20 1), .ref (u20 2), .ref (u20 3), .ref (u20 4), .ref (u20 5), .ref (u20 6), .ref (u20 7), .int 0, .int 0, .int 0, .int 0])), (u20 1, .inl (cy, 128, .inl (fun _ => 0))), (u20 2, .inl (cy, 41, .inl (fun _ => 0))), (u20 3, .inl (cy, 41, .inl (fun _ => 0))), (u20 4, .inl (cy, 41, .inl (fun _ => 0))), (u20 5, .inl (cy, 41, .inl (fun _ => 0))), (u20 6, .inl (cy, 41, .inl (fun _ => 0))), (u20 7, .inl (cy, 48, .inl (fun _ => 0))), (q12, .inr (0, [.ref (u31 1), .ref (u31 2), .ref (u31 3), .int 0, .int 0])), (u31 1, .inl (cy, 8, .inl (fun _ => 0))), (u31 2, .inl (cy, 8, .inl (fun _ => 0))), (u31 3, .inl (cy, 8, .inl (fun _ => 0)))] H := hP
  have hD : va_D A [(h0, .inr (4, [.ref q1, .ref q4, .ref q12, .null, .int 0, .int 0, .int 0])), (q1, .inr (1, [.ref (u9 1), .ref (u9 2), .int 0, .int 0, .int 0, .int 0, .int 0, .int 0, .int 0, .int 0])), (u9 1, .inl (cy, 768, .inl (fun _ => 0))), (u9 2, .inl (cy, 6, .inl (fun _ => 0))), (q4, .inr (3, [.ref (u20 1), .ref (u20 2), .ref (u20 3), .ref (u20 4), .ref (u20 5), .ref (u20 6), .ref (u20 7), .int 0, .int 0, .int 0, .int 0])), (u20 1, .inl (cy, 128, .inl (fun _ => 0))), (u20 2, .inl (cy, 41, .inl (fun _ => 0))), (u20 3, .inl (cy, 41, .inl (fun _ => 0))), (u20 4, .inl (cy, 41, .inl (fun _ => 0))), (u20 5, .inl (cy, 41, .inl (fun _ => 0))), (u20 6, .inl (cy, 41, .inl (fun _ => 0))), (u20 7, .inl (cy, 48, .inl (fun _ => 0))), (q12, .inr (0, [.ref (u31 1), .ref (u31 2), .ref (u31 3), .int 0, .int 0])), (u31 1, .inl (cy, 8, .inl (fun _ => 0))), (u31 2, .inl (cy, 8, .inl (fun _ => 0))), (u31 3, .inl (cy, 8, .inl (fun _ => 0)))] := hD
  refine lv_aload_n hx hb dX4_init_37 rfl (lv_at hl 0 rfl) ?_
  refine va_new (ci := 2) (fs := [.null, .int 0, .int 0]) (C := RX2) (T := TX2) (N := 3) hx hb C.2.2.2.2.2.2.1 inG2 tyX2 tyX2_ok C.2.2.2.1 (C.2.2.2.2.2.2.1 _ wq_283) (C.2.2.2.2.2.2.1 _ wq_284) (C.2.2.2.2.2.2.1 _ wq_135) C.2.2.2.2.2.2.2.1 hP hD hS hA rfl (fun j hj => by rcases (show j = 0 ∨ j = 1 ∨ j = 2 by omega) with rfl | rfl | rfl <;> rfl) (Nat.le_of_ble_eq_true rfl) (Nat.le_of_ble_eq_true rfl) dX4_init_38 (fun q16 H hP hD hS => ?_)
  have hP : va_P D vwCl [(h0, .inr (4, [.ref q1, .ref q4, .ref q12, .null, .int 0, .int 0, .int 0])), (q1, .inr (1, [.ref (u9 1), .ref (u9 2), .int 0, .int 0, .int 0, .int 0, .int 0, .int 0, .int 0, .int 0])), (u9 1, .inl (cy, 768, .inl (fun _ => 0))), (u9 2, .inl (cy, 6, .inl (fun _ => 0))), (q4, .inr (3, [.ref (u20 1), .ref (u20 2), .ref (u20 3), .ref (u20 4), .ref (u20 5), .ref (u20 6), .ref (u20 7), .int 0, .int 0, .int 0, .int 0])), (u20 1, .inl (cy, 128, .inl (fun _ => 0))), (u20 2, .inl (cy, 41, .inl (fun _ => 0))), (u20 3, .inl (cy, 41, .inl (fun _ => 0))), (u20 4, .inl (cy, 41, .inl (fun _ => 0))), (u20 5, .inl (cy, 41, .inl (fun _ => 0))), (u20 6, .inl (cy, 41, .inl (fun _ => 0))), (u20 7, .inl (cy, 48, .inl (fun _ => 0))), (q12, .inr (0, [.ref (u31 1), .ref (u31 2), .ref (u31 3), .int 0, .int 0])), (u31 1, .inl (cy, 8, .inl (fun _ => 0))), (u31 2, .inl (cy, 8, .inl (fun _ => 0))), (u31 3, .inl (cy, 8, .inl (fun _ => 0))), (q16, .inr (2, [.null, .int 0, .int 0]))] H := hP
  have hD : va_D A [(h0, .inr (4, [.ref q1, .ref q4, .ref q12, .null, .int 0, .int 0, .int 0])), (q1, .inr (1, [.ref (u9 1), .ref (u9 2), .int 0, .int 0, .int 0, .int 0, .int 0, .int 0, .int 0, .int 0])), (u9 1, .inl (cy, 768, .inl (fun _ => 0))), (u9 2, .inl (cy, 6, .inl (fun _ => 0))), (q4, .inr (3, [.ref (u20 1), .ref (u20 2), .ref (u20 3), .ref (u20 4), .ref (u20 5), .ref (u20 6), .ref (u20 7), .int 0, .int 0, .int 0, .int 0])), (u20 1, .inl (cy, 128, .inl (fun _ => 0))), (u20 2, .inl (cy, 41, .inl (fun _ => 0))), (u20 3, .inl (cy, 41, .inl (fun _ => 0))), (u20 4, .inl (cy, 41, .inl (fun _ => 0))), (u20 5, .inl (cy, 41, .inl (fun _ => 0))), (u20 6, .inl (cy, 41, .inl (fun _ => 0))), (u20 7, .inl (cy, 48, .inl (fun _ => 0))), (q12, .inr (0, [.ref (u31 1), .ref (u31 2), .ref (u31 3), .int 0, .int 0])), (u31 1, .inl (cy, 8, .inl (fun _ => 0))), (u31 2, .inl (cy, 8, .inl (fun _ => 0))), (u31 3, .inl (cy, 8, .inl (fun _ => 0))), (q16, .inr (2, [.null, .int 0, .int 0]))] := hD
  refine lv_dup hx hb dX4_init_41 rfl ?_
  have hPc := hP.sub (ws' := [(q16, .inr (2, [.null, .int 0, .int 0]))]) [16] rfl
  have hFc := va_free (wc := [(q16, .inr (2, [.null, .int 0, .int 0]))]) hD hS hA [16] rfl
  refine va_callv (va_runIN (As := []) (rest := [.ref q16, .ref h0]) (Ts := gw) ⟨hx, hb, C.2.2.1, C.2.2.2.1, C.2.2.2.2.2.2.1⟩ (ci_X2_init l D cy q16 H.size) ⟨va_cnB 0 C.2.2.2.2.2.2.1 (gwGood wq_287) rfl rfl rfl (C.2.2.2.2.2.2.2.2 _ wn_285) (C.2.2.2.2.2.2.1 _ wq_135) (by decide +kernel) ⟨Nat.le_of_ble_eq_true rfl, Nat.le_of_ble_eq_true rfl⟩, rfl, (C.2.2.2.2.2.2.1 _ wq_286)⟩ ⟨blindI, preI C hPc⟩ rfl rfl hl.1 rfl (lv_room (Nat.le_of_ble_eq_true rfl)) dX4_init_42 ⟨Nat.le_of_ble_eq_true rfl, Nat.le_of_ble_eq_true rfl⟩) hS (fun q _ h => hFc q h) hFc (fun u42 t H1 locs ht hvm hw hB hz1 hk1 hS => ?_)
  obtain ⟨hP1, hD1⟩ := hB
  rw [ht] at hP1
  obtain ⟨hP, hD⟩ := va_join (wr := [(h0, .inr (4, [.ref q1, .ref q4, .ref q12, .null, .int 0, .int 0, .int 0])), (q1, .inr (1, [.ref (u9 1), .ref (u9 2), .int 0, .int 0, .int 0, .int 0, .int 0, .int 0, .int 0, .int 0])), (u9 1, .inl (cy, 768, .inl (fun _ => 0))), (u9 2, .inl (cy, 6, .inl (fun _ => 0))), (q4, .inr (3, [.ref (u20 1), .ref (u20 2), .ref (u20 3), .ref (u20 4), .ref (u20 5), .ref (u20 6), .ref (u20 7), .int 0, .int 0, .int 0, .int 0])), (u20 1, .inl (cy, 128, .inl (fun _ => 0))), (u20 2, .inl (cy, 41, .inl (fun _ => 0))), (u20 3, .inl (cy, 41, .inl (fun _ => 0))), (u20 4, .inl (cy, 41, .inl (fun _ => 0))), (u20 5, .inl (cy, 41, .inl (fun _ => 0))), (u20 6, .inl (cy, 41, .inl (fun _ => 0))), (u20 7, .inl (cy, 48, .inl (fun _ => 0))), (q12, .inr (0, [.ref (u31 1), .ref (u31 2), .ref (u31 3), .int 0, .int 0])), (u31 1, .inl (cy, 8, .inl (fun _ => 0))), (u31 2, .inl (cy, 8, .inl (fun _ => 0))), (u31 3, .inl (cy, 8, .inl (fun _ => 0)))]) (w1 := ws_X2_init q16 cy u42) hP hD [16] [0, 1, 2, 3, 4, 5, 6, 7, 8, 9, 10, 11, 12, 13, 14, 15] rfl rfl (by decide) (by decide) hk1 hFc hP1 hD1
  generalize H1 = H at hP hS ⊢
  have hP : va_P D vwCl [(h0, .inr (4, [.ref q1, .ref q4, .ref q12, .null, .int 0, .int 0, .int 0])), (q1, .inr (1, [.ref (u9 1), .ref (u9 2), .int 0, .int 0, .int 0, .int 0, .int 0, .int 0, .int 0, .int 0])), (u9 1, .inl (cy, 768, .inl (fun _ => 0))), (u9 2, .inl (cy, 6, .inl (fun _ => 0))), (q4, .inr (3, [.ref (u20 1), .ref (u20 2), .ref (u20 3), .ref (u20 4), .ref (u20 5), .ref (u20 6), .ref (u20 7), .int 0, .int 0, .int 0, .int 0])), (u20 1, .inl (cy, 128, .inl (fun _ => 0))), (u20 2, .inl (cy, 41, .inl (fun _ => 0))), (u20 3, .inl (cy, 41, .inl (fun _ => 0))), (u20 4, .inl (cy, 41, .inl (fun _ => 0))), (u20 5, .inl (cy, 41, .inl (fun _ => 0))), (u20 6, .inl (cy, 41, .inl (fun _ => 0))), (u20 7, .inl (cy, 48, .inl (fun _ => 0))), (q12, .inr (0, [.ref (u31 1), .ref (u31 2), .ref (u31 3), .int 0, .int 0])), (u31 1, .inl (cy, 8, .inl (fun _ => 0))), (u31 2, .inl (cy, 8, .inl (fun _ => 0))), (u31 3, .inl (cy, 8, .inl (fun _ => 0))), (q16, .inr (2, [.ref (u42 1), .int 0, .int 0])), (u42 1, .inl (cy, 7, .inl (fun _ => 0)))] H := hP
  have hD : va_D A [(h0, .inr (4, [.ref q1, .ref q4, .ref q12, .null, .int 0, .int 0, .int 0])), (q1, .inr (1, [.ref (u9 1), .ref (u9 2), .int 0, .int 0, .int 0, .int 0, .int 0, .int 0, .int 0, .int 0])), (u9 1, .inl (cy, 768, .inl (fun _ => 0))), (u9 2, .inl (cy, 6, .inl (fun _ => 0))), (q4, .inr (3, [.ref (u20 1), .ref (u20 2), .ref (u20 3), .ref (u20 4), .ref (u20 5), .ref (u20 6), .ref (u20 7), .int 0, .int 0, .int 0, .int 0])), (u20 1, .inl (cy, 128, .inl (fun _ => 0))), (u20 2, .inl (cy, 41, .inl (fun _ => 0))), (u20 3, .inl (cy, 41, .inl (fun _ => 0))), (u20 4, .inl (cy, 41, .inl (fun _ => 0))), (u20 5, .inl (cy, 41, .inl (fun _ => 0))), (u20 6, .inl (cy, 41, .inl (fun _ => 0))), (u20 7, .inl (cy, 48, .inl (fun _ => 0))), (q12, .inr (0, [.ref (u31 1), .ref (u31 2), .ref (u31 3), .int 0, .int 0])), (u31 1, .inl (cy, 8, .inl (fun _ => 0))), (u31 2, .inl (cy, 8, .inl (fun _ => 0))), (u31 3, .inl (cy, 8, .inl (fun _ => 0))), (q16, .inr (2, [.ref (u42 1), .int 0, .int 0])), (u42 1, .inl (cy, 7, .inl (fun _ => 0)))] := hD
  refine va_putF (D := D) (ci := 4) (v := .ref q16) (ty := .object "SettingStore$Draft") (C := RX4) (T := TX4) (N := 7) hx hb C.2.2.2.2.2.2.1 inG4 tyX4 tyX4_ok nmX4 C.2.2.2.1 C.2.2.2.2.2.2.2.1 hP hD hS 0 rfl rfl 3 (by decide) (C.2.2.2.2.2.2.1 _ wq_315) (fun _ h9 => h9) rfl hin rfl (by decide +kernel) rfl rfl (Nat.le_of_ble_eq_true rfl) dX4_init_45 (fun H locs hP hD hS => ?_)
  have hP : va_P D vwCl [(h0, .inr (4, [.ref q1, .ref q4, .ref q12, .ref q16, .int 0, .int 0, .int 0])), (q1, .inr (1, [.ref (u9 1), .ref (u9 2), .int 0, .int 0, .int 0, .int 0, .int 0, .int 0, .int 0, .int 0])), (u9 1, .inl (cy, 768, .inl (fun _ => 0))), (u9 2, .inl (cy, 6, .inl (fun _ => 0))), (q4, .inr (3, [.ref (u20 1), .ref (u20 2), .ref (u20 3), .ref (u20 4), .ref (u20 5), .ref (u20 6), .ref (u20 7), .int 0, .int 0, .int 0, .int 0])), (u20 1, .inl (cy, 128, .inl (fun _ => 0))), (u20 2, .inl (cy, 41, .inl (fun _ => 0))), (u20 3, .inl (cy, 41, .inl (fun _ => 0))), (u20 4, .inl (cy, 41, .inl (fun _ => 0))), (u20 5, .inl (cy, 41, .inl (fun _ => 0))), (u20 6, .inl (cy, 41, .inl (fun _ => 0))), (u20 7, .inl (cy, 48, .inl (fun _ => 0))), (q12, .inr (0, [.ref (u31 1), .ref (u31 2), .ref (u31 3), .int 0, .int 0])), (u31 1, .inl (cy, 8, .inl (fun _ => 0))), (u31 2, .inl (cy, 8, .inl (fun _ => 0))), (u31 3, .inl (cy, 8, .inl (fun _ => 0))), (q16, .inr (2, [.ref (u42 1), .int 0, .int 0])), (u42 1, .inl (cy, 7, .inl (fun _ => 0)))] H := hP
  have hD : va_D A [(h0, .inr (4, [.ref q1, .ref q4, .ref q12, .ref q16, .int 0, .int 0, .int 0])), (q1, .inr (1, [.ref (u9 1), .ref (u9 2), .int 0, .int 0, .int 0, .int 0, .int 0, .int 0, .int 0, .int 0])), (u9 1, .inl (cy, 768, .inl (fun _ => 0))), (u9 2, .inl (cy, 6, .inl (fun _ => 0))), (q4, .inr (3, [.ref (u20 1), .ref (u20 2), .ref (u20 3), .ref (u20 4), .ref (u20 5), .ref (u20 6), .ref (u20 7), .int 0, .int 0, .int 0, .int 0])), (u20 1, .inl (cy, 128, .inl (fun _ => 0))), (u20 2, .inl (cy, 41, .inl (fun _ => 0))), (u20 3, .inl (cy, 41, .inl (fun _ => 0))), (u20 4, .inl (cy, 41, .inl (fun _ => 0))), (u20 5, .inl (cy, 41, .inl (fun _ => 0))), (u20 6, .inl (cy, 41, .inl (fun _ => 0))), (u20 7, .inl (cy, 48, .inl (fun _ => 0))), (q12, .inr (0, [.ref (u31 1), .ref (u31 2), .ref (u31 3), .int 0, .int 0])), (u31 1, .inl (cy, 8, .inl (fun _ => 0))), (u31 2, .inl (cy, 8, .inl (fun _ => 0))), (u31 3, .inl (cy, 8, .inl (fun _ => 0))), (q16, .inr (2, [.ref (u42 1), .int 0, .int 0])), (u42 1, .inl (cy, 7, .inl (fun _ => 0)))] := hD
  refine lv_aload_n hx hb dX4_init_48 rfl (lv_at hl 0 rfl) ?_
  refine lv_iconst (v := -1) hx hb dX4_init_49 (by decide) ?_
  refine va_put (D := D) (ci := 4) (v := .int (-1)) (ty := .int) (C := RX4) (T := TX4) (N := 7) hx hb C.2.2.2.2.2.2.1 inG4 tyX4 tyX4_ok nmX4 C.2.2.2.1 C.2.2.2.2.2.2.2.1 hP hD hS 0 rfl rfl 4 (by decide) (C.2.2.2.2.2.2.1 _ wq_316) (fun _ h9 => h9) rfl (by decide +kernel) rfl rfl (Nat.le_of_ble_eq_true rfl) dX4_init_50 (fun H locs hP hD hS => ?_)
  have hP : va_P D vwCl [(h0, .inr (4, [.ref q1, .ref q4, .ref q12, .ref q16, .int (-1), .int 0, .int 0])), (q1, .inr (1, [.ref (u9 1), .ref (u9 2), .int 0, .int 0, .int 0, .int 0, .int 0, .int 0, .int 0, .int 0])), (u9 1, .inl (cy, 768, .inl (fun _ => 0))), (u9 2, .inl (cy, 6, .inl (fun _ => 0))), (q4, .inr (3, [.ref (u20 1), .ref (u20 2), .ref (u20 3), .ref (u20 4), .ref (u20 5), .ref (u20 6), .ref (u20 7), .int 0, .int 0, .int 0, .int 0])), (u20 1, .inl (cy, 128, .inl (fun _ => 0))), (u20 2, .inl (cy, 41, .inl (fun _ => 0))), (u20 3, .inl (cy, 41, .inl (fun _ => 0))), (u20 4, .inl (cy, 41, .inl (fun _ => 0))), (u20 5, .inl (cy, 41, .inl (fun _ => 0))), (u20 6, .inl (cy, 41, .inl (fun _ => 0))), (u20 7, .inl (cy, 48, .inl (fun _ => 0))), (q12, .inr (0, [.ref (u31 1), .ref (u31 2), .ref (u31 3), .int 0, .int 0])), (u31 1, .inl (cy, 8, .inl (fun _ => 0))), (u31 2, .inl (cy, 8, .inl (fun _ => 0))), (u31 3, .inl (cy, 8, .inl (fun _ => 0))), (q16, .inr (2, [.ref (u42 1), .int 0, .int 0])), (u42 1, .inl (cy, 7, .inl (fun _ => 0)))] H := hP
  have hD : va_D A [(h0, .inr (4, [.ref q1, .ref q4, .ref q12, .ref q16, .int (-1), .int 0, .int 0])), (q1, .inr (1, [.ref (u9 1), .ref (u9 2), .int 0, .int 0, .int 0, .int 0, .int 0, .int 0, .int 0, .int 0])), (u9 1, .inl (cy, 768, .inl (fun _ => 0))), (u9 2, .inl (cy, 6, .inl (fun _ => 0))), (q4, .inr (3, [.ref (u20 1), .ref (u20 2), .ref (u20 3), .ref (u20 4), .ref (u20 5), .ref (u20 6), .ref (u20 7), .int 0, .int 0, .int 0, .int 0])), (u20 1, .inl (cy, 128, .inl (fun _ => 0))), (u20 2, .inl (cy, 41, .inl (fun _ => 0))), (u20 3, .inl (cy, 41, .inl (fun _ => 0))), (u20 4, .inl (cy, 41, .inl (fun _ => 0))), (u20 5, .inl (cy, 41, .inl (fun _ => 0))), (u20 6, .inl (cy, 41, .inl (fun _ => 0))), (u20 7, .inl (cy, 48, .inl (fun _ => 0))), (q12, .inr (0, [.ref (u31 1), .ref (u31 2), .ref (u31 3), .int 0, .int 0])), (u31 1, .inl (cy, 8, .inl (fun _ => 0))), (u31 2, .inl (cy, 8, .inl (fun _ => 0))), (u31 3, .inl (cy, 8, .inl (fun _ => 0))), (q16, .inr (2, [.ref (u42 1), .int 0, .int 0])), (u42 1, .inl (cy, 7, .inl (fun _ => 0)))] := hD
  refine lv_aload_n hx hb dX4_init_53 rfl (lv_at hl 0 rfl) ?_
  obtain ⟨Ad, hAd⟩ : ∃ Ad : Nat → Nat, Ad = (fun k => ([h0, q1, u9 1, u9 2, q4, u20 1, u20 2, u20 3, u20 4, u20 5, u20 6, u20 7, q12, u31 1, u31 2, u31 3, q16, u42 1] : List Nat).getD k 0) := ⟨_, rfl⟩
  have hPz : va_P D vwCl (wS Ad cy (fun k => if k = 0 then -1 else 0) (fun _ _ => 0)) H := by rw [hAd]; exact hP
  have hDz : va_D A (wS Ad cy (fun k => if k = 0 then -1 else 0) (fun _ _ => 0)) := by rw [hAd]; exact hD
  have hap : apt 18 Ad := aptOf rS hDz
  have e0 : h0 = Ad 0 := by rw [hAd]; rfl
  subst e0
  refine gS_store_chip C hPz (C.2.2.2.2.2.2.1 _ wq_309) dX4_init_54 ?_
  refine lv_iconst (v := 3) hx hb dX4_init_57 (by decide) ?_
  refine lv_bipush (v := 64) hx hb dX4_init_58 (by decide) ?_
  refine kWv (rnVN C (ct_X1_renew l D cy Ad hap h) yv_X1_renew wn_302 ⟨rfl, rfl⟩ ⟨Nat.le_of_ble_eq_true rfl, Nat.le_of_ble_eq_true rfl⟩ ⟨Nat.le_of_ble_eq_true rfl, Nat.le_of_ble_eq_true rfl⟩ (vS_chip C hPz) hPz hl.1 rfl rfl (Nat.le_of_ble_eq_true rfl) dX4_init_60) hS (fun q hq => inOf rS hDz hq) (fun σ1 μ1 H locs h hP hk hS => ?_)
  have hD1 : va_D A (wS Ad cy σ1 μ1) := dOf rS hDz
  exact W.vret hx hb C.2.2.2.2.1 (fun t ht hW => ⟨⟨(Ad, σ1, μ1), rfl, ⟨h, rfl, hap⟩, by rw [ht]; exact hP, hD1⟩, hS.F ht⟩) hS.2.2 dX4_init_63 hlocks
abbrev rmX5_init : Room := { frames := 3, cells := 36, slots := 2444, locals := 65 }
def wp_X5_init (Q : Rg → Ar → Rg → Ar → Prop) : Prop := wp_X4_init (fun σa μa => wp_X4_init (fun σb μb => Q σa μa σb μb))
set_option maxHeartbeats 4000000 in
set_option maxRecDepth 100000 in
theorem ci_X5_init (l : Launch) (D : va_G) (cy : ClassId) (h0 sz : Nat) {Q : Rg → Ar → Rg → Ar → Prop} (h : wp_X5_init Q) : Met l yX5_init (wy yX5_init cX5_init 1 none) rmX5_init (va_Pc [.ref h0] (fun U => U.heap.size = sz ∧ va_P D vwCl [(h0, .inr (5, [.null, .null]))] U.heap ∧ va_K D vwCl [(cy, .int)] U ∧ NW U)) (va_Qv (fun u : (Nat → Nat) × (Nat → Nat) × Rg × Ar × Rg × Ar => Q u.2.2.1 u.2.2.2.1 u.2.2.2.2.1 u.2.2.2.2.2 ∧ apX h0 u.1 u.2.1) (fun u t => (va_P D vwCl (wS u.1 cy u.2.2.1 u.2.2.2.1) t.heap ∧ va_P D vwCl (wS u.2.1 cy u.2.2.2.2.1 u.2.2.2.2.2) t.heap ∧ va_P D vwCl (wX h0 u.1 u.2.1) t.heap) ∧ va_D (va_A [(h0, .inr (5, [.null, .null]))] sz) (((h0, .inr (5, [.ref (u.1 0), .ref (u.2.1 0)])) :: wS u.1 cy u.2.2.1 u.2.2.2.1) ++ wS u.2.1 cy u.2.2.2.2.1 u.2.2.2.2.2)) (va_A [(h0, .inr (5, [.null, .null]))] sz)) 36 2444 (va_A [(h0, .inr (5, [.null, .null]))] sz) := by
  refine Met.ofW (cc := cX5_init) (maxL := 1) (ret := none) (by decide) rfl ?_
  intro p e s m args below meth c s₁ B hml hv
  obtain ⟨rfl, hsz, hP, hK, hN⟩ := hv
  have hts0 := atoms_spec (ws := wy yX5_init cX5_init 1 none) B.pre
  have C : Cx p s m [Value.ref h0].toArray meth c RX5 cX5_init 1 none D [(cy, .int)] := ⟨B.exec, B.bytes, hml, findClass_of_methodNamed B.named, B.returns, B.notSynchronized, fun w h => hts0 w (List.mem_cons_of_mem _ h), hK, hN⟩
  have hin : meth.name = "<init>" := (name_of_methodNamed B.named B.method).1
  have hlocks := B.notSynchronized
  subst hsz
  have hD0 : va_D (va_A [(h0, .inr (5, [.null, .null]))] s.heap.size) [(h0, .inr (5, [.null, .null]))] := one_D
  generalize hAe : va_A [(h0, .inr (5, [.null, .null]))] s.heap.size = A at hD0 ⊢
  have hA : ∀ q : Nat, s.heap.size ≤ q → A q := fun q h => by rw [← hAe]; exact Or.inr h
  have hS : va_S A s.heap s.heap [] := va_S.rf
  have hl := lv_entry ([.ref h0]) (n := 1) (Nat.le_of_ble_eq_true rfl)
  rw [lg_entry_eq]
  generalize (lg_sl ([.ref h0]) ++ List.replicate (1 - (lg_sl ([.ref h0])).length) Slot.unset).toArray = ls at hl ⊢
  have hl : lv_has ls 1 [(0, .ref h0)] := hl
  have hx := C.1
  have hb := C.2.1
  have hD := hD0
  refine lv_aload_n hx hb dX5_init_0 rfl (lv_at hl 0 rfl) ?_
  refine W.objInit hx hb C.2.2.2.1 (C.2.2.2.2.2.2.1 _ wq_153) (C.2.2.2.2.2.2.1 _ wq_154) (C.2.2.2.2.2.2.1 _ wq_155) rfl (by rw [C.2.2.1]; exact hl.1) rfl dX5_init_1 (Nat.le_of_ble_eq_true rfl) (Nat.le_of_ble_eq_true rfl) ?_
  refine W.eq (g2 := F0 m 4 ls []) rfl ?_
  refine lv_aload_n hx hb dX5_init_4 rfl (lv_at hl 0 rfl) ?_
  refine va_new (ci := 4) (fs := [.null, .null, .null, .null, .int 0, .int 0, .int 0]) (C := RX4) (T := TX4) (N := 7) hx hb C.2.2.2.2.2.2.1 inG4 tyX4 tyX4_ok C.2.2.2.1 (C.2.2.2.2.2.2.1 _ wq_156) (C.2.2.2.2.2.2.1 _ wq_157) (C.2.2.2.2.2.2.1 _ wq_131) C.2.2.2.2.2.2.2.1 hP hD hS hA rfl (fun j hj => by rcases (show j = 0 ∨ j = 1 ∨ j = 2 ∨ j = 3 ∨ j = 4 ∨ j = 5 ∨ j = 6 by omega) with rfl | rfl | rfl | rfl | rfl | rfl | rfl <;> rfl) (Nat.le_of_ble_eq_true rfl) (Nat.le_of_ble_eq_true rfl) dX5_init_5 (fun qa H hP hD hS => ?_)
  refine lv_dup hx hb dX5_init_8 rfl ?_
  have hP : va_P D vwCl ([(h0, .inr (5, [.null, .null]))] ++ [(qa, .inr (4, [.null, .null, .null, .null, .int 0, .int 0, .int 0]))]) H := hP
  have hD : va_D A ([(h0, .inr (5, [.null, .null]))] ++ [(qa, .inr (4, [.null, .null, .null, .null, .int 0, .int 0, .int 0]))]) := hD
  have hPc := hP.sub (ws' := [(qa, .inr (4, [.null, .null, .null, .null, .int 0, .int 0, .int 0]))]) [1] rfl
  have hFc := va_free (wc := [(qa, .inr (4, [.null, .null, .null, .null, .int 0, .int 0, .int 0]))]) hD hS hA [1] rfl
  refine va_callv (va_runIN (As := []) (rest := [.ref qa, .ref h0]) (Ts := gw) ⟨hx, hb, C.2.2.1, C.2.2.2.1, C.2.2.2.2.2.2.1⟩ (ci_X4_init l D cy qa H.size h) ⟨va_cnB 0 C.2.2.2.2.2.2.1 (gwGood wq_160) rfl rfl rfl (C.2.2.2.2.2.2.2.2 _ wn_158) (C.2.2.2.2.2.2.1 _ wq_131) (by decide +kernel) ⟨Nat.le_of_ble_eq_true rfl, Nat.le_of_ble_eq_true rfl⟩, rfl, (C.2.2.2.2.2.2.1 _ wq_159)⟩ ⟨blindI, preI C hPc⟩ rfl rfl hl.1 rfl (lv_room (Nat.le_of_ble_eq_true rfl)) dX5_init_9 ⟨Nat.le_of_ble_eq_true rfl, Nat.le_of_ble_eq_true rfl⟩) hS (fun q _ h => hFc q h) hFc (fun u t H1 locs ht hvm hw hB hz1 hk1 hS => ?_)
  obtain ⟨Aa, σa, μa⟩ := u
  obtain ⟨h, ea, hapa⟩ := hw
  dsimp only at h ea hapa hB
  obtain ⟨hP1, hD1⟩ := hB
  rw [ht] at hP1
  obtain ⟨hPaz, hDaz⟩ := va_join (wr := [(h0, .inr (5, [.null, .null]))]) (w1 := wS Aa cy σa μa) hP hD [1] [0] rfl rfl (by decide) (by decide) hk1 hFc hP1 hD1
  rw [← ea]
  refine va_putF (D := D) (ci := 5) (v := .ref (Aa 0)) (ty := .object "SettingStore$Store") (C := RX5) (T := TX5) (N := 2) hx hb C.2.2.2.2.2.2.1 inG5 tyX5 tyX5_ok nmX5 C.2.2.2.1 C.2.2.2.2.2.2.2.1 hPaz hDaz hS 0 rfl rfl 0 (by decide) (C.2.2.2.2.2.2.1 _ wq_336) (fun _ h9 => h9) rfl hin rfl (by decide +kernel) rfl rfl (Nat.le_of_ble_eq_true rfl) dX5_init_12 (fun H locs hP hD hS => ?_)
  have hP : va_P D vwCl ((h0, .inr (5, [.ref (Aa 0), .null])) :: wS Aa cy σa μa) H := hP
  have hD : va_D A ((h0, .inr (5, [.ref (Aa 0), .null])) :: wS Aa cy σa μa) := hD
  refine lv_aload_n hx hb dX5_init_15 rfl (lv_at hl 0 rfl) ?_
  refine va_new (ci := 4) (fs := [.null, .null, .null, .null, .int 0, .int 0, .int 0]) (C := RX4) (T := TX4) (N := 7) hx hb C.2.2.2.2.2.2.1 inG4 tyX4 tyX4_ok C.2.2.2.1 (C.2.2.2.2.2.2.1 _ wq_156) (C.2.2.2.2.2.2.1 _ wq_157) (C.2.2.2.2.2.2.1 _ wq_131) C.2.2.2.2.2.2.2.1 hP hD hS hA rfl (fun j hj => by rcases (show j = 0 ∨ j = 1 ∨ j = 2 ∨ j = 3 ∨ j = 4 ∨ j = 5 ∨ j = 6 by omega) with rfl | rfl | rfl | rfl | rfl | rfl | rfl <;> rfl) (Nat.le_of_ble_eq_true rfl) (Nat.le_of_ble_eq_true rfl) dX5_init_16 (fun qb H hP hD hS => ?_)
  refine lv_dup hx hb dX5_init_19 rfl ?_
  have hP : va_P D vwCl (((h0, .inr (5, [.ref (Aa 0), .null])) :: wS Aa cy σa μa) ++ [(qb, .inr (4, [.null, .null, .null, .null, .int 0, .int 0, .int 0]))]) H := hP
  have hD : va_D A (((h0, .inr (5, [.ref (Aa 0), .null])) :: wS Aa cy σa μa) ++ [(qb, .inr (4, [.null, .null, .null, .null, .int 0, .int 0, .int 0]))]) := hD
  have hPc := hP.sub (ws' := [(qb, .inr (4, [.null, .null, .null, .null, .int 0, .int 0, .int 0]))]) [19] rfl
  have hFc := va_free (wc := [(qb, .inr (4, [.null, .null, .null, .null, .int 0, .int 0, .int 0]))]) hD hS hA [19] rfl
  refine va_callv (va_runIN (As := []) (rest := [.ref qb, .ref h0]) (Ts := gw) ⟨hx, hb, C.2.2.1, C.2.2.2.1, C.2.2.2.2.2.2.1⟩ (ci_X4_init l D cy qb H.size h) ⟨va_cnB 0 C.2.2.2.2.2.2.1 (gwGood wq_160) rfl rfl rfl (C.2.2.2.2.2.2.2.2 _ wn_158) (C.2.2.2.2.2.2.1 _ wq_131) (by decide +kernel) ⟨Nat.le_of_ble_eq_true rfl, Nat.le_of_ble_eq_true rfl⟩, rfl, (C.2.2.2.2.2.2.1 _ wq_159)⟩ ⟨blindI, preI C hPc⟩ rfl rfl hl.1 rfl (lv_room (Nat.le_of_ble_eq_true rfl)) dX5_init_20 ⟨Nat.le_of_ble_eq_true rfl, Nat.le_of_ble_eq_true rfl⟩) hS (fun q _ h => hFc q h) hFc (fun u t H1 locs ht hvm hw hB hz1 hk1 hS => ?_)
  obtain ⟨Ab, σb, μb⟩ := u
  obtain ⟨h, eb, hapb⟩ := hw
  dsimp only at h eb hapb hB
  obtain ⟨hP1, hD1⟩ := hB
  rw [ht] at hP1
  obtain ⟨hPbz, hDbz⟩ := va_join (wr := ((h0, .inr (5, [.ref (Aa 0), .null])) :: wS Aa cy σa μa)) (w1 := wS Ab cy σb μb) hP hD [19] [0, 1, 2, 3, 4, 5, 6, 7, 8, 9, 10, 11, 12, 13, 14, 15, 16, 17, 18] rfl rfl (by decide) (by decide) hk1 hFc hP1 hD1
  rw [← eb]
  refine va_putF (D := D) (ci := 5) (v := .ref (Ab 0)) (ty := .object "SettingStore$Store") (C := RX5) (T := TX5) (N := 2) hx hb C.2.2.2.2.2.2.1 inG5 tyX5 tyX5_ok nmX5 C.2.2.2.1 C.2.2.2.2.2.2.2.1 hPbz hDbz hS 0 rfl rfl 1 (by decide) (C.2.2.2.2.2.2.1 _ wq_337) (fun _ h9 => h9) rfl hin rfl (by decide +kernel) rfl rfl (Nat.le_of_ble_eq_true rfl) dX5_init_23 (fun H locs hP hD hS => ?_)
  have hP : va_P D vwCl (((h0, .inr (5, [.ref (Aa 0), .ref (Ab 0)])) :: wS Aa cy σa μa) ++ wS Ab cy σb μb) H := hP
  have hD : va_D A (((h0, .inr (5, [.ref (Aa 0), .ref (Ab 0)])) :: wS Aa cy σa μa) ++ wS Ab cy σb μb) := hD
  have hPx : va_P D vwCl (wX h0 Aa Ab) H := hP.sub [0] rfl
  have hPb : va_P D vwCl (wS Ab cy σb μb) H := pl_right hP
  have hPa : va_P D vwCl (wS Aa cy σa μa) H := pl_right (w1 := [(h0, .inr (5, [.ref (Aa 0), .ref (Ab 0)]))]) (pl_left hP)
  have hap : apX h0 Aa Ab := apXof hapa hapb hD
  exact W.vret hx hb C.2.2.2.2.1 (fun t ht hW => ⟨⟨(Aa, Ab, σa, μa, σb, μb), rfl, ⟨h, hap⟩, by rw [ht]; exact ⟨hPa, hPb, hPx⟩, hD⟩, hS.F ht⟩) hS.2.2 dX5_init_26 hlocks
