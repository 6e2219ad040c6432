/-! THE CLAIM OUT OF ONE WALK OF THE LAW'S BODY. Your part is whole_start (and what it stands on); all else here is the same for every law, but numbers. -/
def R_law : String := "SettingStoreLaw"
def lw_P (b : Addr) (xs : List Int32) (args : Array Value) (s : State) : Prop := args = #[.ref b] ∧ s.IntsAt b xs ∧ xs.length ≤ 3584 ∧ (Jvm.Cond.and given_1 narrow_1).before args s = true
/-- what a walk over the start with the record d0 says of its end, said of the start itself -/
theorem lw_closed {s t : State} {o : Outcome} {d0 : Drawn} {L : List Loc} {k n : Nat} (hd0 : s.drawn.sameBut d0 lw_cs) (hv : ∃ v, o = .returned v) (hW : (s.setDrawn d0).WarmedH t.vm) (hs : (s.setDrawn d0).sameButNew ({ t with vm := s.vm } : State) L k n) : State.butDraws s t lw_cs (fun t1 => Framed s o t1 L k n) := by
  have h2 : t.drawn = d0 := congrArg State.drawn hs.1
  refine ⟨⟨hv, hW, State.sameButNew.setDrawn hs s.drawn⟩, ?_, by decide⟩
  rw [h2]
  exact hd0
def lw_Q (_ : Array Value) (s : State) (o : Outcome) (t : State) : Prop := o = .returned (some (.int 1)) ∧ State.butDraws s t lw_cs (fun t1 => Framed s o t1 [] 1071 12584)
def lw_Z (below : List Frame) (a : Array Value) (s : State) : State → Prop := fun t => ∃ o, t.status = .running ∧ Ended t below o ∧ lw_Q a s o t
/-- the law's own end, with 1 on the stack, nothing written that was there before, its room as the claim has it; d0: the record of draws at this point (at the entry s.drawn: begin with 'refine W.base ?_' and 'have hd0 := Drawn.sameBut.refl s.drawn lw_cs') -/
theorem lw_ret {p : Program} {l : Launch} {e : Env} {s : State} {m : MethodId} {below : List Frame} {meth : Method} {c : Code} {b : Nat} {d0 : Drawn} (hd0 : s.drawn.sameBut d0 lw_cs) (hx : p.tables.exec = Jvm.exec) (hb : c.code = code) (hr : meth.sig.returnType = ret) (hlocks : meth.locks = false) {pc : Nat} {H : Heap} {ls : Array Slot} (hdg : decode code pc = .ok (.ireturn, 1)) : W p l e room_1 (s.setDrawn d0) m #[Value.ref b] below meth c H [] 1071 12584 (lw_Z below #[Value.ref b] s) (F0 m pc ls [.int 1]) := by
  intro T hT X
  obtain ⟨fs, hret, hrun, hended, hW, hframe⟩ := X.leave (v := some (.int 1)) (hlocks := hlocks) (fun h => by rw [hr] at h; cases h)
  have hmeth' : T.vm.method? m = some meth := X.method'
  refine ⟨T.setFrames fs, ?_, .returned (some (.int 1)), hrun, hended, rfl, lw_closed hd0 ⟨_, rfl⟩ hW hframe⟩
  jvm_step X.here [X.here.top, hx, hb, hdg, hmeth', hr, ret, narrow_b1]
  (try refine ⟨rfl, ?_⟩); (try refine ⟨rfl, ?_⟩)
  first | (intro acts; rw [hret _ acts rfl rfl rfl]) | rw [hret _ _ rfl rfl rfl]
  exact Steps.refl _
/-- what holds at the law's entry: the machine, the code, the tables' words (any of lw_tbl by 'hts w (by decide +kernel)'), the script of L ints xs at the cell b, what the Statement gives of the start (any of its parts by flat_of_before) -/
def lw_At (p : Program) (s : State) (m : MethodId) (meth : Method) (c : Code) (b L : Nat) (xs : Nat → Int32) : Prop :=
  p.tables.exec = Jvm.exec ∧ c.code = code ∧ meth.sig.returnType = ret ∧ c.maxLocals = 7 ∧ s.vm.findClass R_law = some m.cls ∧ (∀ w ∈ lw_tbl, w.before #[Value.ref b] s = true) ∧ va_X b L xs s s.heap ∧ b < s.heap.size ∧ meth.locks = false ∧ (Jvm.Cond.and given_1 narrow_1).before #[Value.ref b] s = true
theorem wL_code : Cond.codeWith yL_at cL_at 5 (some FieldType.int) [(0, 10, 13, 13)] ∈ gw := mgw 842 (by decide +kernel) (by decide +kernel)
def LG (s : State) (b L : Nat) (xs : Nat → Int32) (x0 o : Nat) (Aa Ab Am : Nat → Nat) : Prop := va_X b L xs (s.setDrawn s.drawn) s.heap ∧ b < s.heap.size ∧ apX x0 Aa Ab ∧ apt 8 Am ∧ (∀ k, k < 8 → ¬ AX Aa Ab (Am k)) ∧ (∀ k, k < 18 → ¬ AS 8 Am (Aa k)) ∧ (∀ k, k < 18 → ¬ AS 8 Am (Ab k)) ∧ ¬ AS 8 Am x0 ∧ ¬ AX Aa Ab o ∧ ¬ AS 8 Am o ∧ x0 ≠ o ∧ (∀ q, AX Aa Ab q → s.heap.size ≤ q) ∧ (∀ q, AS 8 Am q → s.heap.size ≤ q) ∧ s.heap.size ≤ o ∧ s.heap.size ≤ x0
theorem rO {o : Nat} {cl : ClassId} {f : Nat → Int64} : ofR 1 (fun _ => o) (wO o cl f) := rfl
theorem Cx.one {p : Program} {s : State} {m : MethodId} {args : Array Value} {meth : Method} {c : Code} {own : String} {cc : ByteArray} {nL : Nat} {ret : Option FieldType} {D : va_G} {cy : ClassId} {tys : List (ClassId × FieldType)} (C : Cx p s m args meth c own cc nL ret D ((cy, .int) :: tys)) : Cx p s m args meth c own cc nL ret D [(cy, .int)] := by
  obtain ⟨hx, hb, hml, hown, hr, hlk, hts, hK, hN⟩ := C
  exact ⟨hx, hb, hml, hown, hr, hlk, hts, hK.sub [0] rfl, hN⟩
theorem lO {p : Program} {l : Launch} {e : Env} {R : Room} {s : State} {m : MethodId} {args : Array Value} {below : List Frame} {meth : Method} {c : Code} {H : Heap} {locs : List Loc} {cells slots : Nat} {Q : State → Prop} {own : String} {nL : Nat} {ret : Option FieldType} {cc : ByteArray} {pc o : Nat} {ls : Array Slot} {rest : List Value} {D : va_G} {cy cl : ClassId} {f : Nat → Int64} (C : Cx p s m args meth c own cc nL ret D [(cy, .int), (cl, .long)]) (hP : va_P D vwCl (wO o cl f) H) (hdg : decode cc pc = .ok (.laload, 1)) (kk : W p l e R s m args below meth c H locs cells slots Q (F0 m (pc + 1) ls (.long (f 0) :: rest))) : W p l e R s m args below meth c H locs cells slots Q (F0 m pc ls (.int 0 :: .ref o :: rest)) := va_lald C.1 C.2.1 C.2.2.2.2.2.2.2.1 hP 0 1 rfl rfl (by unfold vp_in; decide) hdg kk
theorem cwLat {R : Room} {s : State} {args : Array Value} {index : Nat} (ht : ∀ w ∈ gw, w.before args s = true) (hl : Cond.methodLink RL index yL_at ∈ gw) (hR : rmL_at.frames + 1 ≤ R.frames ∧ 8 + (5 + 11) + rmL_at.locals ≤ R.locals) : vx_CSW R s args RL index yL_at cL_at 5 (some FieldType.int) [(0, 10, 13, 13)] wyL rmL_at 1 6 4 := by
  have hG : GoodIn gw wyL := fun w hw => by
    have hm : w ∈ gw := by
      rcases List.mem_cons.mp hw with rfl | h1
      · exact wL_code
      · exact h1
    exact ⟨hm, good_of_word (List.mem_filter.mp hm).2⟩
  exact ⟨⟨rfl, rfl, hR.1, hR.2, pay_in ht hG, List.mem_cons_self⟩, ht _ wL_code, ht _ wq_129, by decide +kernel, fun sig h => by
    have h2 : (parseMethodDescriptor yL_at.desc).map (fun d => d.parameters.length) = some 4 := by decide +kernel
    rw [h] at h2
    exact (Option.some.inj h2).symm, ht _ hl, ht _ wq_841⟩
abbrev PcL (D : va_G) (cy cl : ClassId) (x0 o : Nat) (Aa Ab : Nat → Nat) (sa : Nat) (σa : Rg) (μa : Ar) (σb : Rg) (μb : Ar) (f : Nat → Int64) (av : List Value) : Array Value → State → Prop := va_Pc av (fun U => (va_P D vwCl (wS Aa cy σa μa) U.heap ∧ va_P D vwCl (wS Ab cy σb μb) U.heap ∧ va_P D vwCl (wX x0 Aa Ab) U.heap ∧ va_P D vwCl (wO o cl f) U.heap) ∧ va_K D vwCl [(cy, .int), (cl, .long)] U ∧ NW U ∧ EX (AL o Aa Ab) sa U U.heap)
theorem blindAt {D : va_G} {cy cl : ClassId} {x0 o : Nat} {Aa Ab : Nat → Nat} {sa : Nat} {σa : Rg} {μa : Ar} {σb : Rg} {μb : Ar} {f : Nat → Int64} {av : List Value} : FrameBlind (PcL D cy cl x0 o Aa Ab sa σa μa σb μb f av) := fun a U g mk hq => ⟨hq.1, hq.2.1, va_K.moved (u := U) (U := U.calling g mk a) (Vm.Alike.refl U.vm) hq.2.2.1, NW.same (u := U) (U := U.calling g mk a) rfl hq.2.2.2.1, EX.same (u := U) (U := U.calling g mk a) rfl hq.2.2.2.2⟩
theorem preLat {p : Program} {s : State} {m : MethodId} {args : Array Value} {meth : Method} {c : Code} {own : String} {cc : ByteArray} {nL : Nat} {ret : Option FieldType} {D : va_G} {cy cl : ClassId} {x0 o : Nat} {Aa Ab : Nat → Nat} {sa : Nat} {σa : Rg} {μa : Ar} {σb : Rg} {μb : Ar} {f : Nat → Int64} {av : List Value} {H : Heap} (C : Cx p s m args meth c own cc nL ret D [(cy, .int), (cl, .long)]) (hP : va_P D vwCl (wS Aa cy σa μa) H ∧ va_P D vwCl (wS Ab cy σb μb) H ∧ va_P D vwCl (wX x0 Aa Ab) H ∧ va_P D vwCl (wO o cl f) H) (hE : EX (AL o Aa Ab) sa s H) : ∀ U : State, U.heap = H → s.WarmedH U.vm → PcL D cy cl x0 o Aa Ab sa σa μa σb μb f av av.toArray U := fun U hU hW => ⟨rfl, by rw [hU]; exact hP, va_K.moved hW.alike C.2.2.2.2.2.2.2.1, C.2.2.2.2.2.2.2.2.warm hW, by rw [hU]; exact hE.warm hW⟩
theorem exAt {s : State} {sa o : Nat} {Aa Ab : Nat → Nat} {H : Heap} {locs : List Loc} (hE : EX (fun q : Nat => s.heap.size ≤ q) sa s s.heap) (hS : va_S (fun q : Nat => s.heap.size ≤ q) s.heap H locs) (h1 : ∀ q, AX Aa Ab q → s.heap.size ≤ q) (h2 : s.heap.size ≤ o) : EX (AL o Aa Ab) sa (s.setDrawn s.drawn) H := ((hE.kept hS.2.1).narrow (fun q h => h.elim (h1 q) (fun e => e ▸ h2))).same rfl
def wb_L_law_965 (xs : Nat → Int32) (L : Nat) (k23 : Rg → Ar → Rg → Ar → Rg → Ar → (Nat → Int64) → Int32 → Prop) (σa : Rg) (μa : Ar) (σb : Rg) (μb : Ar) (τ : Rg) (ν : Ar) (f : Nat → Int64) (v4 : Int32) : Prop := ∀ y965 : Int32, y965 = v4 + (7 : Int32) → (k23 σa μa σb μb τ ν f y965)
set_option maxHeartbeats 8000000 in
set_option maxRecDepth 100000 in
theorem wk_L_law_965 {p : Program} {l : Launch} {e : Env} {s : State} {m : MethodId} {below : List Frame} {meth : Method} {c : Code} {D : va_G} {cy cl : ClassId} {x0 o b L sa : Nat} {Aa Ab Am : Nat → Nat} {xs : Nat → Int32} (C : Cx p (s.setDrawn s.drawn) m #[Value.ref b] meth c RL cL_law 7 (some FieldType.boolean) D [(cy, .int), (cl, .long)]) (hlt : l.stackTraces = false) (G : LG s b L xs x0 o Aa Ab Am) (hE : EX (fun q : Nat => s.heap.size ≤ q) sa s s.heap) {c0 s0 c1 s1 : Nat} (hcR : c0 ≤ 1071 ∧ s0 ≤ 12584) (hc1 : c0 ≤ c1 ∧ s0 ≤ s1) {k23 : Rg → Ar → Rg → Ar → Rg → Ar → (Nat → Int64) → Int32 → Prop} (hk23 : ∀ {σa : Rg} {μa : Ar} {σb : Rg} {μb : Ar} {τ : Rg} {ν : Ar} {f : Nat → Int64} {v4 : Int32} {H : Heap} {locs : List Loc} {ls : Array Slot}, k23 σa μa σb μb τ ν f v4 → va_P D vwCl (wS Aa cy σa μa) H → va_P D vwCl (wS Ab cy σb μb) H → va_P D vwCl (wX x0 Aa Ab) H → va_P D vwCl (wM Am cy τ ν) H → va_P D vwCl (wO o cl f) H → va_S (fun q : Nat => s.heap.size ≤ q) s.heap H locs → lv_has ls 7 [(0, .ref b), (1, .ref x0), (2, .ref (Am 0)), (3, .ref o), (4, .int v4)] → W p l e room_1 (s.setDrawn s.drawn) m #[Value.ref b] below meth c H locs c1 s1 (lw_Z below #[Value.ref b] s) (F0 m 23 ls [])) {σa : Rg} {μa : Ar} {σb : Rg} {μb : Ar} {τ : Rg} {ν : Ar} {f : Nat → Int64} {v4 : Int32} {H : Heap} {locs : List Loc} {ls : Array Slot} (h : wb_L_law_965 xs L k23 σa μa σb μb τ ν f v4) (hPa : va_P D vwCl (wS Aa cy σa μa) H) (hPb : va_P D vwCl (wS Ab cy σb μb) H) (hPx : va_P D vwCl (wX x0 Aa Ab) H) (hPm : va_P D vwCl (wM Am cy τ ν) H) (hPo : va_P D vwCl (wO o cl f) H) (hS : va_S (fun q : Nat => s.heap.size ≤ q) s.heap H locs) (hl : lv_has ls 7 [(0, .ref b), (1, .ref x0), (2, .ref (Am 0)), (3, .ref o), (4, .int v4)]) : W p l e room_1 (s.setDrawn s.drawn) m #[Value.ref b] below meth c H locs c0 s0 (lw_Z below #[Value.ref b] s) (F0 m 965 ls []) := by
  have hx := C.1
  have hb := C.2.1
  obtain ⟨hX, hbl, hap, hapM, g1, g2, g3, g4, g5, g6, g7, g8, g9, g10, g11⟩ := id G
  have hbA : ¬ (fun q : Nat => s.heap.size ≤ q) b := Nat.not_le.mpr hbl
  obtain ⟨y965, e965⟩ : ∃ y : Int32, y = v4 + (7 : Int32) := ⟨_, rfl⟩
  have h := h y965 e965
  refine lv_iinc (v := y965) (lv' := [(4, .int y965), (0, .ref b), (1, .ref x0), (2, .ref (Am 0)), (3, .ref o)]) hx hb dL_law_965 hl (k := 4) rfl (by rw [e965]; rfl) (by decide) rfl (fun ls hl => ?_)
  refine lv_goto (tgt := 23) hx hb dL_law_968 (by decide) ?_
  refine W.widen (k := c1) (n := s1) hc1.1 hc1.2 ?_
  exact hk23 h hPa hPb hPx hPm hPo hS (lv_sub hl [1, 2, 3, 4, 0] rfl)
def wb_L_law_23 (xs : Nat → Int32) (L : Nat) (k23 : Rg → Ar → Rg → Ar → Rg → Ar → (Nat → Int64) → Int32 → Prop) (σa : Rg) (μa : Ar) (σb : Rg) (μb : Ar) (τ : Rg) (ν : Ar) (f : Nat → Int64) (v4 : Int32) : Prop := ((((Int32.ofNat L) - (7 : Int32)) < v4 → True) ∧ (¬ ((Int32.ofNat L) - (7 : Int32)) < v4 → (vp_in v4 L) ∧ ((((((xs (v4).toNatClampNeg) &&& (31 : Int32))).toInt < 0 ∨ 26 < (((xs (v4).toNatClampNeg) &&& (31 : Int32))).toInt → wb_L_law_965 xs L k23 σa μa σb μb τ ν f v4) ∧ (((xs (v4).toNatClampNeg) &&& (31 : Int32)) = 0 → (vp_in (v4 + (1 : Int32)) L) ∧ ((vp_in (v4 + (2 : Int32)) L) ∧ (wp_X5_chip σa μa σb μb (xs ((v4 + (1 : Int32))).toNatClampNeg) (xs ((v4 + (2 : Int32))).toNatClampNeg) (fun r177 σa177 μa177 σb177 μb177 => (vp_in (v4 + (1 : Int32)) L) ∧ ((vp_in (v4 + (2 : Int32)) L) ∧ (wp_X6_chip τ ν (xs ((v4 + (1 : Int32))).toNatClampNeg) (xs ((v4 + (2 : Int32))).toNatClampNeg) (fun r194 τ194 ν194 => wb_L_law_965 xs L k23 σa177 μa177 σb177 μb177 τ194 ν194 f v4))))))) ∧ (((xs (v4).toNatClampNeg) &&& (31 : Int32)) = 1 → wp_X5_on σa μa σb μb (fun r202 σa202 μa202 σb202 μb202 => wp_X6_on τ ν (fun r207 τ207 ν207 => wb_L_law_965 xs L k23 σa202 μa202 σb202 μb202 τ207 ν207 f v4))) ∧ (((xs (v4).toNatClampNeg) &&& (31 : Int32)) = 2 → wp_X5_off σa μa σb μb (fun r215 σa215 μa215 σb215 μb215 => wp_X6_off τ ν (fun r220 τ220 ν220 => wb_L_law_965 xs L k23 σa215 μa215 σb215 μb215 τ220 ν220 f v4))) ∧ (((xs (v4).toNatClampNeg) &&& (31 : Int32)) = 3 → (vp_in (v4 + (1 : Int32)) L) ∧ ((vp_in (v4 + (2 : Int32)) L) ∧ (wp_X5_power σa μa σb μb (xs ((v4 + (1 : Int32))).toNatClampNeg) (xs ((v4 + (2 : Int32))).toNatClampNeg) (fun r240 σa240 μa240 σb240 μb240 => (vp_in (v4 + (1 : Int32)) L) ∧ ((vp_in (v4 + (2 : Int32)) L) ∧ (wp_X6_power τ ν (xs ((v4 + (1 : Int32))).toNatClampNeg) (xs ((v4 + (2 : Int32))).toNatClampNeg) (fun r257 τ257 ν257 => wb_L_law_965 xs L k23 σa240 μa240 σb240 μb240 τ257 ν257 f v4))))))) ∧ (((xs (v4).toNatClampNeg) &&& (31 : Int32)) = 4 → (vp_in (v4 + (1 : Int32)) L) ∧ ((vp_in (v4 + (2 : Int32)) L) ∧ ((vp_in (v4 + (3 : Int32)) L) ∧ (wp_X5_rot σa μa σb μb (xs ((v4 + (1 : Int32))).toNatClampNeg) (xs ((v4 + (2 : Int32))).toNatClampNeg) (xs ((v4 + (3 : Int32))).toNatClampNeg) (fun r283 σa283 μa283 σb283 μb283 => (vp_in (v4 + (1 : Int32)) L) ∧ ((vp_in (v4 + (2 : Int32)) L) ∧ ((vp_in (v4 + (3 : Int32)) L) ∧ (wp_X6_rot τ ν (xs ((v4 + (1 : Int32))).toNatClampNeg) (xs ((v4 + (2 : Int32))).toNatClampNeg) (xs ((v4 + (3 : Int32))).toNatClampNeg) (fun r306 τ306 ν306 => wb_L_law_965 xs L k23 σa283 μa283 σb283 μb283 τ306 ν306 f v4))))))))) ∧ (((xs (v4).toNatClampNeg) &&& (31 : Int32)) = 5 → (vp_in (v4 + (1 : Int32)) L) ∧ ((vp_in (v4 + (2 : Int32)) L) ∧ ((vp_in (v4 + (3 : Int32)) L) ∧ (wp_X5_set σa μa σb μb (xs ((v4 + (1 : Int32))).toNatClampNeg) (xs ((v4 + (2 : Int32))).toNatClampNeg) (xs ((v4 + (3 : Int32))).toNatClampNeg) (fun r332 σa332 μa332 σb332 μb332 => (vp_in (v4 + (1 : Int32)) L) ∧ ((vp_in (v4 + (2 : Int32)) L) ∧ ((vp_in (v4 + (3 : Int32)) L) ∧ (wp_X6_set τ ν (xs ((v4 + (1 : Int32))).toNatClampNeg) (xs ((v4 + (2 : Int32))).toNatClampNeg) (xs ((v4 + (3 : Int32))).toNatClampNeg) (fun r355 τ355 ν355 => wb_L_law_965 xs L k23 σa332 μa332 σb332 μb332 τ355 ν355 f v4))))))))) ∧ (((xs (v4).toNatClampNeg) &&& (31 : Int32)) = 6 → (vp_in (v4 + (1 : Int32)) L) ∧ (wp_X5_drop σa μa σb μb (xs ((v4 + (1 : Int32))).toNatClampNeg) (fun r369 σa369 μa369 σb369 μb369 => (vp_in (v4 + (1 : Int32)) L) ∧ (wp_X6_drop τ ν (xs ((v4 + (1 : Int32))).toNatClampNeg) (fun r380 τ380 ν380 => wb_L_law_965 xs L k23 σa369 μa369 σb369 μb369 τ380 ν380 f v4))))) ∧ (((xs (v4).toNatClampNeg) &&& (31 : Int32)) = 7 → (vp_in (v4 + (1 : Int32)) L) ∧ (wp_X5_bump σa μa σb μb (xs ((v4 + (1 : Int32))).toNatClampNeg) (fun r394 σa394 μa394 σb394 μb394 => (vp_in (v4 + (1 : Int32)) L) ∧ (wp_X6_bump τ ν (xs ((v4 + (1 : Int32))).toNatClampNeg) (fun r405 τ405 ν405 => wb_L_law_965 xs L k23 σa394 μa394 σb394 μb394 τ405 ν405 f v4))))) ∧ (((xs (v4).toNatClampNeg) &&& (31 : Int32)) = 8 → wp_X5_begin σa μa σb μb (fun r413 σa413 μa413 σb413 μb413 => wp_X6_begin τ ν (fun r418 τ418 ν418 => wb_L_law_965 xs L k23 σa413 μa413 σb413 μb413 τ418 ν418 f v4))) ∧ (((xs (v4).toNatClampNeg) &&& (31 : Int32)) = 9 → wp_X5_commit σa μa σb μb (fun r426 σa426 μa426 σb426 μb426 => wp_X6_commit τ ν (fun r431 τ431 ν431 => wb_L_law_965 xs L k23 σa426 μa426 σb426 μb426 τ431 ν431 f v4))) ∧ (((xs (v4).toNatClampNeg) &&& (31 : Int32)) = 10 → wp_X5_abort σa μa σb μb (fun r439 σa439 μa439 σb439 μb439 => wp_X6_abort τ ν (fun r444 τ444 ν444 => wb_L_law_965 xs L k23 σa439 μa439 σb439 μb439 τ444 ν444 f v4))) ∧ (((xs (v4).toNatClampNeg) &&& (31 : Int32)) = 11 → (vp_in (v4 + (1 : Int32)) L) ∧ (wp_X5_get σa μa σb μb (xs ((v4 + (1 : Int32))).toNatClampNeg) (fun r458 σa458 μa458 σb458 μb458 => (vp_in (v4 + (1 : Int32)) L) ∧ (wp_X6_get τ ν (xs ((v4 + (1 : Int32))).toNatClampNeg) (fun r468 τ468 ν468 => (((lg_cmp r458 r468) = 0 → wb_L_law_965 xs L k23 σa458 μa458 σb458 μb458 τ468 ν468 f v4) ∧ (¬ (lg_cmp r458 r468) = 0 → False))))))) ∧ (((xs (v4).toNatClampNeg) &&& (31 : Int32)) = 12 → (vp_in (v4 + (1 : Int32)) L) ∧ (wp_X5_length σa μa σb μb (xs ((v4 + (1 : Int32))).toNatClampNeg) (fun r484 σa484 μa484 σb484 μb484 => (vp_in (v4 + (1 : Int32)) L) ∧ (wp_X6_length τ ν (xs ((v4 + (1 : Int32))).toNatClampNeg) (fun r495 τ495 ν495 => wb_L_law_965 xs L k23 σa484 μa484 σb484 μb484 τ495 ν495 f v4))))) ∧ (((xs (v4).toNatClampNeg) &&& (31 : Int32)) = 13 → wp_X5_hand σa μa σb μb (fun r503 σa503 μa503 σb503 μb503 => wp_X6_hand τ ν (fun r508 τ508 ν508 => wb_L_law_965 xs L k23 σa503 μa503 σb503 μb503 τ508 ν508 f v4))) ∧ (((xs (v4).toNatClampNeg) &&& (31 : Int32)) = 14 → (vp_in (v4 + (1 : Int32)) L) ∧ ((vp_in (v4 + (2 : Int32)) L) ∧ (wp_L_at σa μa σb μb f (xs ((v4 + (1 : Int32))).toNatClampNeg) (xs ((v4 + (2 : Int32))).toNatClampNeg) (fun r529 σa529 μa529 σb529 μb529 f529 => (vp_in (v4 + (1 : Int32)) L) ∧ ((vp_in (v4 + (2 : Int32)) L) ∧ (wp_X6_at τ ν (xs ((v4 + (1 : Int32))).toNatClampNeg) (xs ((v4 + (2 : Int32))).toNatClampNeg) (fun r547 τ547 ν547 => wb_L_law_965 xs L k23 σa529 μa529 σb529 μb529 τ547 ν547 f529 v4))))))) ∧ (((xs (v4).toNatClampNeg) &&& (31 : Int32)) = 15 → (vp_in (v4 + (1 : Int32)) L) ∧ ((vp_in (v4 + (2 : Int32)) L) ∧ (wp_X5_sector σa μa σb μb (xs ((v4 + (1 : Int32))).toNatClampNeg) (xs ((v4 + (2 : Int32))).toNatClampNeg) (fun r568 σa568 μa568 σb568 μb568 => (vp_in (v4 + (1 : Int32)) L) ∧ ((vp_in (v4 + (2 : Int32)) L) ∧ (wp_X6_sector τ ν (xs ((v4 + (1 : Int32))).toNatClampNeg) (xs ((v4 + (2 : Int32))).toNatClampNeg) (fun r585 τ585 ν585 => wb_L_law_965 xs L k23 σa568 μa568 σb568 μb568 τ585 ν585 f v4))))))) ∧ (((xs (v4).toNatClampNeg) &&& (31 : Int32)) = 16 → (vp_in (v4 + (1 : Int32)) L) ∧ ((vp_in (v4 + (2 : Int32)) L) ∧ ((vp_in (v4 + (3 : Int32)) L) ∧ (wp_X5_entry σa μa σb μb (xs ((v4 + (1 : Int32))).toNatClampNeg) (xs ((v4 + (2 : Int32))).toNatClampNeg) (xs ((v4 + (3 : Int32))).toNatClampNeg) (fun r611 σa611 μa611 σb611 μb611 => (vp_in (v4 + (1 : Int32)) L) ∧ ((vp_in (v4 + (2 : Int32)) L) ∧ ((vp_in (v4 + (3 : Int32)) L) ∧ (wp_X6_entry τ ν (xs ((v4 + (1 : Int32))).toNatClampNeg) (xs ((v4 + (2 : Int32))).toNatClampNeg) (xs ((v4 + (3 : Int32))).toNatClampNeg) (fun r634 τ634 ν634 => wb_L_law_965 xs L k23 σa611 μa611 σb611 μb611 τ634 ν634 f v4))))))))) ∧ (((xs (v4).toNatClampNeg) &&& (31 : Int32)) = 17 → (vp_in (v4 + (1 : Int32)) L) ∧ ((vp_in (v4 + (2 : Int32)) L) ∧ (wp_X5_space σa μa σb μb (xs ((v4 + (1 : Int32))).toNatClampNeg) (xs ((v4 + (2 : Int32))).toNatClampNeg) (fun r654 σa654 μa654 σb654 μb654 => (vp_in (v4 + (1 : Int32)) L) ∧ ((vp_in (v4 + (2 : Int32)) L) ∧ (wp_X6_space τ ν (xs ((v4 + (1 : Int32))).toNatClampNeg) (xs ((v4 + (2 : Int32))).toNatClampNeg) (fun r671 τ671 ν671 => wb_L_law_965 xs L k23 σa654 μa654 σb654 μb654 τ671 ν671 f v4))))))) ∧ (((xs (v4).toNatClampNeg) &&& (31 : Int32)) = 18 → (vp_in (v4 + (1 : Int32)) L) ∧ (wp_X5_until σa μa σb μb (xs ((v4 + (1 : Int32))).toNatClampNeg) (fun r685 σa685 μa685 σb685 μb685 => (vp_in (v4 + (1 : Int32)) L) ∧ (wp_X6_until τ ν (xs ((v4 + (1 : Int32))).toNatClampNeg) (fun r696 τ696 ν696 => wb_L_law_965 xs L k23 σa685 μa685 σb685 μb685 τ696 ν696 f v4))))) ∧ (((xs (v4).toNatClampNeg) &&& (31 : Int32)) = 19 → wp_X5_after σa μa σb μb (fun r704 σa704 μa704 σb704 μb704 => wp_X6_after τ ν (fun r709 τ709 ν709 => wb_L_law_965 xs L k23 σa704 μa704 σb704 μb704 τ709 ν709 f v4))) ∧ (((xs (v4).toNatClampNeg) &&& (31 : Int32)) = 20 → (vp_in (v4 + (1 : Int32)) L) ∧ (wp_X5_costs σa μa σb μb (xs ((v4 + (1 : Int32))).toNatClampNeg) (fun r723 σa723 μa723 σb723 μb723 => (vp_in (v4 + (1 : Int32)) L) ∧ (wp_X6_costs τ ν (xs ((v4 + (1 : Int32))).toNatClampNeg) (fun r734 τ734 ν734 => wb_L_law_965 xs L k23 σa723 μa723 σb723 μb723 τ734 ν734 f v4))))) ∧ (((xs (v4).toNatClampNeg) &&& (31 : Int32)) = 21 → (vp_in (v4 + (1 : Int32)) L) ∧ ((vp_in (v4 + (2 : Int32)) L) ∧ ((vp_in (v4 + (3 : Int32)) L) ∧ ((vp_in (v4 + (4 : Int32)) L) ∧ ((vp_in (v4 + (5 : Int32)) L) ∧ ((vp_in (v4 + (6 : Int32)) L) ∧ (wp_X5_torn σa μa σb μb (xs ((v4 + (1 : Int32))).toNatClampNeg) (xs ((v4 + (2 : Int32))).toNatClampNeg) (xs ((v4 + (3 : Int32))).toNatClampNeg) (xs ((v4 + (4 : Int32))).toNatClampNeg) (xs ((v4 + (5 : Int32))).toNatClampNeg) (xs ((v4 + (6 : Int32))).toNatClampNeg) (fun r779 σa779 μa779 σb779 μb779 => (vp_in (v4 + (1 : Int32)) L) ∧ ((vp_in (v4 + (2 : Int32)) L) ∧ ((vp_in (v4 + (3 : Int32)) L) ∧ ((vp_in (v4 + (4 : Int32)) L) ∧ ((vp_in (v4 + (5 : Int32)) L) ∧ ((vp_in (v4 + (6 : Int32)) L) ∧ (wp_X6_torn τ ν (xs ((v4 + (1 : Int32))).toNatClampNeg) (xs ((v4 + (2 : Int32))).toNatClampNeg) (xs ((v4 + (3 : Int32))).toNatClampNeg) (xs ((v4 + (4 : Int32))).toNatClampNeg) (xs ((v4 + (5 : Int32))).toNatClampNeg) (xs ((v4 + (6 : Int32))).toNatClampNeg) (fun r821 τ821 ν821 => wb_L_law_965 xs L k23 σa779 μa779 σb779 μb779 τ821 ν821 f v4))))))))))))))) ∧ (((xs (v4).toNatClampNeg) &&& (31 : Int32)) = 22 → (vp_in (v4 + (1 : Int32)) L) ∧ ((vp_in (v4 + (2 : Int32)) L) ∧ (wp_X5_history σa μa σb μb (xs ((v4 + (1 : Int32))).toNatClampNeg) (xs ((v4 + (2 : Int32))).toNatClampNeg) (fun r841 σa841 μa841 σb841 μb841 => (vp_in (v4 + (1 : Int32)) L) ∧ ((vp_in (v4 + (2 : Int32)) L) ∧ (wp_X6_history τ ν (xs ((v4 + (1 : Int32))).toNatClampNeg) (xs ((v4 + (2 : Int32))).toNatClampNeg) (fun r858 τ858 ν858 => wb_L_law_965 xs L k23 σa841 μa841 σb841 μb841 τ858 ν858 f v4))))))) ∧ (((xs (v4).toNatClampNeg) &&& (31 : Int32)) = 23 → (vp_in (v4 + (1 : Int32)) L) ∧ ((vp_in (v4 + (2 : Int32)) L) ∧ (wp_X5_wears σa μa σb μb (xs ((v4 + (1 : Int32))).toNatClampNeg) (xs ((v4 + (2 : Int32))).toNatClampNeg) (fun r878 σa878 μa878 σb878 μb878 => (vp_in (v4 + (1 : Int32)) L) ∧ ((vp_in (v4 + (2 : Int32)) L) ∧ (wp_X6_wears τ ν (xs ((v4 + (1 : Int32))).toNatClampNeg) (xs ((v4 + (2 : Int32))).toNatClampNeg) (fun r895 τ895 ν895 => wb_L_law_965 xs L k23 σa878 μa878 σb878 μb878 τ895 ν895 f v4))))))) ∧ (((xs (v4).toNatClampNeg) &&& (31 : Int32)) = 24 → (vp_in (v4 + (1 : Int32)) L) ∧ (wp_X5_wear σa μa σb μb (xs ((v4 + (1 : Int32))).toNatClampNeg) (fun r909 σa909 μa909 σb909 μb909 => (vp_in (v4 + (1 : Int32)) L) ∧ (wp_X6_wear τ ν (xs ((v4 + (1 : Int32))).toNatClampNeg) (fun r920 τ920 ν920 => wb_L_law_965 xs L k23 σa909 μa909 σb909 μb909 τ920 ν920 f v4))))) ∧ (((xs (v4).toNatClampNeg) &&& (31 : Int32)) = 25 → wp_X5_tags σa μa σb μb (fun r928 σa928 μa928 σb928 μb928 => wp_X6_tags τ ν (fun r933 τ933 ν933 => wb_L_law_965 xs L k23 σa928 μa928 σb928 μb928 τ933 ν933 f v4))) ∧ (((xs (v4).toNatClampNeg) &&& (31 : Int32)) = 26 → (vp_in (v4 + (1 : Int32)) L) ∧ (wp_X5_count σa μa σb μb (xs ((v4 + (1 : Int32))).toNatClampNeg) (fun r947 σa947 μa947 σb947 μb947 => (vp_in (v4 + (1 : Int32)) L) ∧ (wp_X6_count τ ν (xs ((v4 + (1 : Int32))).toNatClampNeg) (fun r958 τ958 ν958 => wb_L_law_965 xs L k23 σa947 μa947 σb947 μb947 τ958 ν958 f v4)))))))))
set_option maxHeartbeats 8000000 in
set_option maxRecDepth 100000 in
theorem wk_L_law_23 {p : Program} {l : Launch} {e : Env} {s : State} {m : MethodId} {below : List Frame} {meth : Method} {c : Code} {D : va_G} {cy cl : ClassId} {x0 o b L sa : Nat} {Aa Ab Am : Nat → Nat} {xs : Nat → Int32} (C : Cx p (s.setDrawn s.drawn) m #[Value.ref b] meth c RL cL_law 7 (some FieldType.boolean) D [(cy, .int), (cl, .long)]) (hlt : l.stackTraces = false) (G : LG s b L xs x0 o Aa Ab Am) (hE : EX (fun q : Nat => s.heap.size ≤ q) sa s s.heap) {c0 s0 c1 s1 : Nat} (hcR : c0 ≤ 1071 ∧ s0 ≤ 12584) (hc1 : c0 ≤ c1 ∧ s0 ≤ s1) (hc2 : c0 + 1 ≤ c1 ∧ s0 + 6 ≤ s1 ∧ c0 + 1 ≤ 1071 ∧ s0 + 6 ≤ 12584) {k23 : Rg → Ar → Rg → Ar → Rg → Ar → (Nat → Int64) → Int32 → Prop} (hk23 : ∀ {σa : Rg} {μa : Ar} {σb : Rg} {μb : Ar} {τ : Rg} {ν : Ar} {f : Nat → Int64} {v4 : Int32} {H : Heap} {locs : List Loc} {ls : Array Slot}, k23 σa μa σb μb τ ν f v4 → va_P D vwCl (wS Aa cy σa μa) H → va_P D vwCl (wS Ab cy σb μb) H → va_P D vwCl (wX x0 Aa Ab) H → va_P D vwCl (wM Am cy τ ν) H → va_P D vwCl (wO o cl f) H → va_S (fun q : Nat => s.heap.size ≤ q) s.heap H locs → lv_has ls 7 [(0, .ref b), (1, .ref x0), (2, .ref (Am 0)), (3, .ref o), (4, .int v4)] → W p l e room_1 (s.setDrawn s.drawn) m #[Value.ref b] below meth c H locs c1 s1 (lw_Z below #[Value.ref b] s) (F0 m 23 ls [])) {σa : Rg} {μa : Ar} {σb : Rg} {μb : Ar} {τ : Rg} {ν : Ar} {f : Nat → Int64} {v4 : Int32} {H : Heap} {locs : List Loc} {ls : Array Slot} (h : wb_L_law_23 xs L k23 σa μa σb μb τ ν f v4) (hPa : va_P D vwCl (wS Aa cy σa μa) H) (hPb : va_P D vwCl (wS Ab cy σb μb) H) (hPx : va_P D vwCl (wX x0 Aa Ab) H) (hPm : va_P D vwCl (wM Am cy τ ν) H) (hPo : va_P D vwCl (wO o cl f) H) (hS : va_S (fun q : Nat => s.heap.size ≤ q) s.heap H locs) (hl : lv_has ls 7 [(0, .ref b), (1, .ref x0), (2, .ref (Am 0)), (3, .ref o), (4, .int v4)]) : W p l e room_1 (s.setDrawn s.drawn) m #[Value.ref b] below meth c H locs c0 s0 (lw_Z below #[Value.ref b] s) (F0 m 23 ls []) := by
  have hx := C.1
  have hb := C.2.1
  obtain ⟨hX, hbl, hap, hapM, g1, g2, g3, g4, g5, g6, g7, g8, g9, g10, g11⟩ := id G
  have hbA : ¬ (fun q : Nat => s.heap.size ≤ q) b := Nat.not_le.mpr hbl
  refine lv_iload hx hb dL_law_23 (lv_at hl 4 rfl) ?_
  refine lv_aload_n hx hb dL_law_25 rfl (lv_at hl 0 rfl) ?_
  refine va_slen hx hb hX hbl hbA hS dL_law_26 ?_
  refine lv_bipush (v := 7) hx hb dL_law_27 (by decide) ?_
  refine lv_isub hx hb dL_law_29 ?_
  refine lv_icmp_gt (tgt := 971) hx hb dL_law_30 (by decide) (fun hc => ?_) (fun hc => ?_)
  · have h := h.1 hc
    refine lv_iconst (v := 1) hx hb dL_law_971 (by decide) ?_
    refine va_forget (fun q hq => hS.2.2 q hq) ?_
    refine W.widen (k := 1071) (n := 12584) hcR.1 hcR.2 ?_
    exact lw_ret (Drawn.sameBut.refl s.drawn lw_cs) hx hb C.2.2.2.2.1 C.2.2.2.2.2.1 dL_law_972
  · have h := h.2 hc
    refine lv_aload_n hx hb dL_law_33 rfl (lv_at hl 0 rfl) ?_
    refine lv_iload hx hb dL_law_34 (lv_at hl 4 rfl) ?_
    obtain ⟨hc, h⟩ := h
    refine va_sld hx hb hX hbl hbA hS hc dL_law_36 ?_
    refine lv_bipush (v := 31) hx hb dL_law_37 (by decide) ?_
    refine lv_iand hx hb dL_law_39 ?_
    by_cases hc : (((xs (v4).toNatClampNeg) &&& (31 : Int32))).toInt < 0 ∨ 26 < (((xs (v4).toNatClampNeg) &&& (31 : Int32))).toInt
    · have h := h.1 hc
      refine lv_tableOut (tgt := 965) hx hb dL_law_40 hc (by decide) ?_
      exact wk_L_law_965 C hlt G hE hcR hc1 hk23 h hPa hPb hPx hPm hPo hS (lv_sub hl [0, 1, 2, 3, 4] rfl)
    · have hr : (((xs (v4).toNatClampNeg) &&& (31 : Int32))).toInt = 0 ∨ (((xs (v4).toNatClampNeg) &&& (31 : Int32))).toInt = 1 ∨ (((xs (v4).toNatClampNeg) &&& (31 : Int32))).toInt = 2 ∨ (((xs (v4).toNatClampNeg) &&& (31 : Int32))).toInt = 3 ∨ (((xs (v4).toNatClampNeg) &&& (31 : Int32))).toInt = 4 ∨ (((xs (v4).toNatClampNeg) &&& (31 : Int32))).toInt = 5 ∨ (((xs (v4).toNatClampNeg) &&& (31 : Int32))).toInt = 6 ∨ (((xs (v4).toNatClampNeg) &&& (31 : Int32))).toInt = 7 ∨ (((xs (v4).toNatClampNeg) &&& (31 : Int32))).toInt = 8 ∨ (((xs (v4).toNatClampNeg) &&& (31 : Int32))).toInt = 9 ∨ (((xs (v4).toNatClampNeg) &&& (31 : Int32))).toInt = 10 ∨ (((xs (v4).toNatClampNeg) &&& (31 : Int32))).toInt = 11 ∨ (((xs (v4).toNatClampNeg) &&& (31 : Int32))).toInt = 12 ∨ (((xs (v4).toNatClampNeg) &&& (31 : Int32))).toInt = 13 ∨ (((xs (v4).toNatClampNeg) &&& (31 : Int32))).toInt = 14 ∨ (((xs (v4).toNatClampNeg) &&& (31 : Int32))).toInt = 15 ∨ (((xs (v4).toNatClampNeg) &&& (31 : Int32))).toInt = 16 ∨ (((xs (v4).toNatClampNeg) &&& (31 : Int32))).toInt = 17 ∨ (((xs (v4).toNatClampNeg) &&& (31 : Int32))).toInt = 18 ∨ (((xs (v4).toNatClampNeg) &&& (31 : Int32))).toInt = 19 ∨ (((xs (v4).toNatClampNeg) &&& (31 : Int32))).toInt = 20 ∨ (((xs (v4).toNatClampNeg) &&& (31 : Int32))).toInt = 21 ∨ (((xs (v4).toNatClampNeg) &&& (31 : Int32))).toInt = 22 ∨ (((xs (v4).toNatClampNeg) &&& (31 : Int32))).toInt = 23 ∨ (((xs (v4).toNatClampNeg) &&& (31 : Int32))).toInt = 24 ∨ (((xs (v4).toNatClampNeg) &&& (31 : Int32))).toInt = 25 ∨ (((xs (v4).toNatClampNeg) &&& (31 : Int32))).toInt = 26 := by omega
      rcases hr with hr | hr | hr | hr | hr | hr | hr | hr | hr | hr | hr | hr | hr | hr | hr | hr | hr | hr | hr | hr | hr | hr | hr | hr | hr | hr | hr
      · have h := h.2.1 (Int32.toInt_inj.mp (by rw [hr]; rfl))
        refine lv_tableIn (off := 124) (tgt := 164) hx hb dL_law_40 (by omega) (by omega) (by rw [hr]; rfl) (by decide) ?_
        refine lv_aload_n hx hb dL_law_164 rfl (lv_at hl 1 rfl) ?_
        refine lv_aload_n hx hb dL_law_165 rfl (lv_at hl 0 rfl) ?_
        refine lv_iload hx hb dL_law_166 (lv_at hl 4 rfl) ?_
        refine lv_iconst (v := 1) hx hb dL_law_168 (by decide) ?_
        refine lv_iadd hx hb dL_law_169 ?_
        obtain ⟨hc, h⟩ := h
        refine va_sld hx hb hX hbl hbA hS hc dL_law_170 ?_
        refine lv_aload_n hx hb dL_law_171 rfl (lv_at hl 0 rfl) ?_
        refine lv_iload hx hb dL_law_172 (lv_at hl 4 rfl) ?_
        refine lv_iconst (v := 2) hx hb dL_law_174 (by decide) ?_
        refine lv_iadd hx hb dL_law_175 ?_
        obtain ⟨hc, h⟩ := h
        refine va_sld hx hb hX hbl hbA hS hc dL_law_176 ?_
        refine kXi (rnV C.one (ct_X5_chip l D cy x0 Aa Ab hap h) yv_X5_chip wq_343 ⟨rfl, rfl⟩ ⟨Nat.le_of_ble_eq_true rfl, Nat.le_of_ble_eq_true rfl⟩ ⟨hcR.1, hcR.2⟩ (vX C.one hPx) ⟨hPa, hPb, hPx⟩ hl.1 rfl rfl (Nat.le_of_ble_eq_true rfl) dL_law_177) hS g8 (fun r177 σa177 μa177 σb177 μb177 H locs h hPa hPb hPx hk hS => ?_)
        have hPm := keepW rM g1 hPm hk
        have hPo := keepW rO (fun _ _ => g5) hPo hk
        refine lv_pop hx hb dL_law_180 rfl ?_
        refine lv_aload_n hx hb dL_law_181 rfl (lv_at hl 2 rfl) ?_
        refine lv_aload_n hx hb dL_law_182 rfl (lv_at hl 0 rfl) ?_
        refine lv_iload hx hb dL_law_183 (lv_at hl 4 rfl) ?_
        refine lv_iconst (v := 1) hx hb dL_law_185 (by decide) ?_
        refine lv_iadd hx hb dL_law_186 ?_
        obtain ⟨hc, h⟩ := h
        refine va_sld hx hb hX hbl hbA hS hc dL_law_187 ?_
        refine lv_aload_n hx hb dL_law_188 rfl (lv_at hl 0 rfl) ?_
        refine lv_iload hx hb dL_law_189 (lv_at hl 4 rfl) ?_
        refine lv_iconst (v := 2) hx hb dL_law_191 (by decide) ?_
        refine lv_iadd hx hb dL_law_192 ?_
        obtain ⟨hc, h⟩ := h
        refine va_sld hx hb hX hbl hbA hS hc dL_law_193 ?_
        refine kWi (rnV C.one (ct_X6_chip l D cy Am hapM h) yv_X6_chip wq_970 ⟨rfl, rfl⟩ ⟨Nat.le_of_ble_eq_true rfl, Nat.le_of_ble_eq_true rfl⟩ ⟨hcR.1, hcR.2⟩ (vM_model C.one hPm) hPm hl.1 rfl rfl (Nat.le_of_ble_eq_true rfl) dL_law_194) hS g9 (fun r194 τ194 ν194 H locs h hPm hk hS => ?_)
        have hPa := keepW rS g2 hPa hk
        have hPb := keepW rS g3 hPb hk
        have hPx := keepW (rX (x0 := x0) (Aa := Aa) (Ab := Ab)) (fun _ _ => g4) hPx hk
        have hPo := keepW rO (fun _ _ => g6) hPo hk
        refine lv_pop hx hb dL_law_197 rfl ?_
        refine lv_goto (tgt := 965) hx hb dL_law_198 (by decide) ?_
        exact wk_L_law_965 C hlt G hE hcR hc1 hk23 h hPa hPb hPx hPm hPo hS (lv_sub hl [0, 1, 2, 3, 4] rfl)
      · have h := h.2.2.1 (Int32.toInt_inj.mp (by rw [hr]; rfl))
        refine lv_tableIn (off := 161) (tgt := 201) hx hb dL_law_40 (by omega) (by omega) (by rw [hr]; rfl) (by decide) ?_
        refine lv_aload_n hx hb dL_law_201 rfl (lv_at hl 1 rfl) ?_
        refine kXi (rnV C.one (ct_X5_on l D cy x0 Aa Ab hap h) yv_X5_on wq_362 ⟨rfl, rfl⟩ ⟨Nat.le_of_ble_eq_true rfl, Nat.le_of_ble_eq_true rfl⟩ ⟨hcR.1, hcR.2⟩ (vX C.one hPx) ⟨hPa, hPb, hPx⟩ hl.1 rfl rfl (Nat.le_of_ble_eq_true rfl) dL_law_202) hS g8 (fun r202 σa202 μa202 σb202 μb202 H locs h hPa hPb hPx hk hS => ?_)
        have hPm := keepW rM g1 hPm hk
        have hPo := keepW rO (fun _ _ => g5) hPo hk
        refine lv_pop hx hb dL_law_205 rfl ?_
        refine lv_aload_n hx hb dL_law_206 rfl (lv_at hl 2 rfl) ?_
        refine kWi (rnV C.one (ct_X6_on l D cy Am hapM h) yv_X6_on wq_977 ⟨rfl, rfl⟩ ⟨Nat.le_of_ble_eq_true rfl, Nat.le_of_ble_eq_true rfl⟩ ⟨hcR.1, hcR.2⟩ (vM_model C.one hPm) hPm hl.1 rfl rfl (Nat.le_of_ble_eq_true rfl) dL_law_207) hS g9 (fun r207 τ207 ν207 H locs h hPm hk hS => ?_)
        have hPa := keepW rS g2 hPa hk
        have hPb := keepW rS g3 hPb hk
        have hPx := keepW (rX (x0 := x0) (Aa := Aa) (Ab := Ab)) (fun _ _ => g4) hPx hk
        have hPo := keepW rO (fun _ _ => g6) hPo hk
        refine lv_pop hx hb dL_law_210 rfl ?_
        refine lv_goto (tgt := 965) hx hb dL_law_211 (by decide) ?_
        exact wk_L_law_965 C hlt G hE hcR hc1 hk23 h hPa hPb hPx hPm hPo hS (lv_sub hl [0, 1, 2, 3, 4] rfl)
      · have h := h.2.2.2.1 (Int32.toInt_inj.mp (by rw [hr]; rfl))
        refine lv_tableIn (off := 174) (tgt := 214) hx hb dL_law_40 (by omega) (by omega) (by rw [hr]; rfl) (by decide) ?_
        refine lv_aload_n hx hb dL_law_214 rfl (lv_at hl 1 rfl) ?_
        refine kXi (rnV C.one (ct_X5_off l D cy x0 Aa Ab hap h) yv_X5_off wq_513 ⟨rfl, rfl⟩ ⟨Nat.le_of_ble_eq_true rfl, Nat.le_of_ble_eq_true rfl⟩ ⟨hcR.1, hcR.2⟩ (vX C.one hPx) ⟨hPa, hPb, hPx⟩ hl.1 rfl rfl (Nat.le_of_ble_eq_true rfl) dL_law_215) hS g8 (fun r215 σa215 μa215 σb215 μb215 H locs h hPa hPb hPx hk hS => ?_)
        have hPm := keepW rM g1 hPm hk
        have hPo := keepW rO (fun _ _ => g5) hPo hk
        refine lv_pop hx hb dL_law_218 rfl ?_
        refine lv_aload_n hx hb dL_law_219 rfl (lv_at hl 2 rfl) ?_
        refine kWi (rnV C.one (ct_X6_off l D cy Am hapM h) yv_X6_off wq_1072 ⟨rfl, rfl⟩ ⟨Nat.le_of_ble_eq_true rfl, Nat.le_of_ble_eq_true rfl⟩ ⟨hcR.1, hcR.2⟩ (vM_model C.one hPm) hPm hl.1 rfl rfl (Nat.le_of_ble_eq_true rfl) dL_law_220) hS g9 (fun r220 τ220 ν220 H locs h hPm hk hS => ?_)
        have hPa := keepW rS g2 hPa hk
        have hPb := keepW rS g3 hPb hk
        have hPx := keepW (rX (x0 := x0) (Aa := Aa) (Ab := Ab)) (fun _ _ => g4) hPx hk
        have hPo := keepW rO (fun _ _ => g6) hPo hk
        refine lv_pop hx hb dL_law_223 rfl ?_
        refine lv_goto (tgt := 965) hx hb dL_law_224 (by decide) ?_
        exact wk_L_law_965 C hlt G hE hcR hc1 hk23 h hPa hPb hPx hPm hPo hS (lv_sub hl [0, 1, 2, 3, 4] rfl)
      · have h := h.2.2.2.2.1 (Int32.toInt_inj.mp (by rw [hr]; rfl))
        refine lv_tableIn (off := 187) (tgt := 227) hx hb dL_law_40 (by omega) (by omega) (by rw [hr]; rfl) (by decide) ?_
        refine lv_aload_n hx hb dL_law_227 rfl (lv_at hl 1 rfl) ?_
        refine lv_aload_n hx hb dL_law_228 rfl (lv_at hl 0 rfl) ?_
        refine lv_iload hx hb dL_law_229 (lv_at hl 4 rfl) ?_
        refine lv_iconst (v := 1) hx hb dL_law_231 (by decide) ?_
        refine lv_iadd hx hb dL_law_232 ?_
        obtain ⟨hc, h⟩ := h
        refine va_sld hx hb hX hbl hbA hS hc dL_law_233 ?_
        refine lv_aload_n hx hb dL_law_234 rfl (lv_at hl 0 rfl) ?_
        refine lv_iload hx hb dL_law_235 (lv_at hl 4 rfl) ?_
        refine lv_iconst (v := 2) hx hb dL_law_237 (by decide) ?_
        refine lv_iadd hx hb dL_law_238 ?_
        obtain ⟨hc, h⟩ := h
        refine va_sld hx hb hX hbl hbA hS hc dL_law_239 ?_
        refine kXi (rnV C.one (ct_X5_power l D cy x0 Aa Ab hap h) yv_X5_power wq_518 ⟨rfl, rfl⟩ ⟨Nat.le_of_ble_eq_true rfl, Nat.le_of_ble_eq_true rfl⟩ ⟨hcR.1, hcR.2⟩ (vX C.one hPx) ⟨hPa, hPb, hPx⟩ hl.1 rfl rfl (Nat.le_of_ble_eq_true rfl) dL_law_240) hS g8 (fun r240 σa240 μa240 σb240 μb240 H locs h hPa hPb hPx hk hS => ?_)
        have hPm := keepW rM g1 hPm hk
        have hPo := keepW rO (fun _ _ => g5) hPo hk
        refine lv_pop hx hb dL_law_243 rfl ?_
        refine lv_aload_n hx hb dL_law_244 rfl (lv_at hl 2 rfl) ?_
        refine lv_aload_n hx hb dL_law_245 rfl (lv_at hl 0 rfl) ?_
        refine lv_iload hx hb dL_law_246 (lv_at hl 4 rfl) ?_
        refine lv_iconst (v := 1) hx hb dL_law_248 (by decide) ?_
        refine lv_iadd hx hb dL_law_249 ?_
        obtain ⟨hc, h⟩ := h
        refine va_sld hx hb hX hbl hbA hS hc dL_law_250 ?_
        refine lv_aload_n hx hb dL_law_251 rfl (lv_at hl 0 rfl) ?_
        refine lv_iload hx hb dL_law_252 (lv_at hl 4 rfl) ?_
        refine lv_iconst (v := 2) hx hb dL_law_254 (by decide) ?_
        refine lv_iadd hx hb dL_law_255 ?_
        obtain ⟨hc, h⟩ := h
        refine va_sld hx hb hX hbl hbA hS hc dL_law_256 ?_
        refine kWi (rnV C.one (ct_X6_power l D cy Am hapM h) yv_X6_power wq_1076 ⟨rfl, rfl⟩ ⟨Nat.le_of_ble_eq_true rfl, Nat.le_of_ble_eq_true rfl⟩ ⟨hcR.1, hcR.2⟩ (vM_model C.one hPm) hPm hl.1 rfl rfl (Nat.le_of_ble_eq_true rfl) dL_law_257) hS g9 (fun r257 τ257 ν257 H locs h hPm hk hS => ?_)
        have hPa := keepW rS g2 hPa hk
        have hPb := keepW rS g3 hPb hk
        have hPx := keepW (rX (x0 := x0) (Aa := Aa) (Ab := Ab)) (fun _ _ => g4) hPx hk
        have hPo := keepW rO (fun _ _ => g6) hPo hk
        refine lv_pop hx hb dL_law_260 rfl ?_
        refine lv_goto (tgt := 965) hx hb dL_law_261 (by decide) ?_
        exact wk_L_law_965 C hlt G hE hcR hc1 hk23 h hPa hPb hPx hPm hPo hS (lv_sub hl [0, 1, 2, 3, 4] rfl)
      · have h := h.2.2.2.2.2.1 (Int32.toInt_inj.mp (by rw [hr]; rfl))
        refine lv_tableIn (off := 224) (tgt := 264) hx hb dL_law_40 (by omega) (by omega) (by rw [hr]; rfl) (by decide) ?_
        refine lv_aload_n hx hb dL_law_264 rfl (lv_at hl 1 rfl) ?_
        refine lv_aload_n hx hb dL_law_265 rfl (lv_at hl 0 rfl) ?_
        refine lv_iload hx hb dL_law_266 (lv_at hl 4 rfl) ?_
        refine lv_iconst (v := 1) hx hb dL_law_268 (by decide) ?_
        refine lv_iadd hx hb dL_law_269 ?_
        obtain ⟨hc, h⟩ := h
        refine va_sld hx hb hX hbl hbA hS hc dL_law_270 ?_
        refine lv_aload_n hx hb dL_law_271 rfl (lv_at hl 0 rfl) ?_
        refine lv_iload hx hb dL_law_272 (lv_at hl 4 rfl) ?_
        refine lv_iconst (v := 2) hx hb dL_law_274 (by decide) ?_
        refine lv_iadd hx hb dL_law_275 ?_
        obtain ⟨hc, h⟩ := h
        refine va_sld hx hb hX hbl hbA hS hc dL_law_276 ?_
        refine lv_aload_n hx hb dL_law_277 rfl (lv_at hl 0 rfl) ?_
        refine lv_iload hx hb dL_law_278 (lv_at hl 4 rfl) ?_
        refine lv_iconst (v := 3) hx hb dL_law_280 (by decide) ?_
        refine lv_iadd hx hb dL_law_281 ?_
        obtain ⟨hc, h⟩ := h
        refine va_sld hx hb hX hbl hbA hS hc dL_law_282 ?_
        refine kXi (rnV C.one (ct_X5_rot l D cy x0 Aa Ab hap h) yv_X5_rot wq_526 ⟨rfl, rfl⟩ ⟨Nat.le_of_ble_eq_true rfl, Nat.le_of_ble_eq_true rfl⟩ ⟨hcR.1, hcR.2⟩ (vX C.one hPx) ⟨hPa, hPb, hPx⟩ hl.1 rfl rfl (Nat.le_of_ble_eq_true rfl) dL_law_283) hS g8 (fun r283 σa283 μa283 σb283 μb283 H locs h hPa hPb hPx hk hS => ?_)
        have hPm := keepW rM g1 hPm hk
        have hPo := keepW rO (fun _ _ => g5) hPo hk
        refine lv_pop hx hb dL_law_286 rfl ?_
        refine lv_aload_n hx hb dL_law_287 rfl (lv_at hl 2 rfl) ?_
        refine lv_aload_n hx hb dL_law_288 rfl (lv_at hl 0 rfl) ?_
        refine lv_iload hx hb dL_law_289 (lv_at hl 4 rfl) ?_
        refine lv_iconst (v := 1) hx hb dL_law_291 (by decide) ?_
        refine lv_iadd hx hb dL_law_292 ?_
        obtain ⟨hc, h⟩ := h
        refine va_sld hx hb hX hbl hbA hS hc dL_law_293 ?_
        refine lv_aload_n hx hb dL_law_294 rfl (lv_at hl 0 rfl) ?_
        refine lv_iload hx hb dL_law_295 (lv_at hl 4 rfl) ?_
        refine lv_iconst (v := 2) hx hb dL_law_297 (by decide) ?_
        refine lv_iadd hx hb dL_law_298 ?_
        obtain ⟨hc, h⟩ := h
        refine va_sld hx hb hX hbl hbA hS hc dL_law_299 ?_
        refine lv_aload_n hx hb dL_law_300 rfl (lv_at hl 0 rfl) ?_
        refine lv_iload hx hb dL_law_301 (lv_at hl 4 rfl) ?_
        refine lv_iconst (v := 3) hx hb dL_law_303 (by decide) ?_
        refine lv_iadd hx hb dL_law_304 ?_
        obtain ⟨hc, h⟩ := h
        refine va_sld hx hb hX hbl hbA hS hc dL_law_305 ?_
        refine kWi (rnV C.one (ct_X6_rot l D cy Am hapM h) yv_X6_rot wq_1080 ⟨rfl, rfl⟩ ⟨Nat.le_of_ble_eq_true rfl, Nat.le_of_ble_eq_true rfl⟩ ⟨hcR.1, hcR.2⟩ (vM_model C.one hPm) hPm hl.1 rfl rfl (Nat.le_of_ble_eq_true rfl) dL_law_306) hS g9 (fun r306 τ306 ν306 H locs h hPm hk hS => ?_)
        have hPa := keepW rS g2 hPa hk
        have hPb := keepW rS g3 hPb hk
        have hPx := keepW (rX (x0 := x0) (Aa := Aa) (Ab := Ab)) (fun _ _ => g4) hPx hk
        have hPo := keepW rO (fun _ _ => g6) hPo hk
        refine lv_pop hx hb dL_law_309 rfl ?_
        refine lv_goto (tgt := 965) hx hb dL_law_310 (by decide) ?_
        exact wk_L_law_965 C hlt G hE hcR hc1 hk23 h hPa hPb hPx hPm hPo hS (lv_sub hl [0, 1, 2, 3, 4] rfl)
      · have h := h.2.2.2.2.2.2.1 (Int32.toInt_inj.mp (by rw [hr]; rfl))
        refine lv_tableIn (off := 273) (tgt := 313) hx hb dL_law_40 (by omega) (by omega) (by rw [hr]; rfl) (by decide) ?_
        refine lv_aload_n hx hb dL_law_313 rfl (lv_at hl 1 rfl) ?_
        refine lv_aload_n hx hb dL_law_314 rfl (lv_at hl 0 rfl) ?_
        refine lv_iload hx hb dL_law_315 (lv_at hl 4 rfl) ?_
        refine lv_iconst (v := 1) hx hb dL_law_317 (by decide) ?_
        refine lv_iadd hx hb dL_law_318 ?_
        obtain ⟨hc, h⟩ := h
        refine va_sld hx hb hX hbl hbA hS hc dL_law_319 ?_
        refine lv_aload_n hx hb dL_law_320 rfl (lv_at hl 0 rfl) ?_
        refine lv_iload hx hb dL_law_321 (lv_at hl 4 rfl) ?_
        refine lv_iconst (v := 2) hx hb dL_law_323 (by decide) ?_
        refine lv_iadd hx hb dL_law_324 ?_
        obtain ⟨hc, h⟩ := h
        refine va_sld hx hb hX hbl hbA hS hc dL_law_325 ?_
        refine lv_aload_n hx hb dL_law_326 rfl (lv_at hl 0 rfl) ?_
        refine lv_iload hx hb dL_law_327 (lv_at hl 4 rfl) ?_
        refine lv_iconst (v := 3) hx hb dL_law_329 (by decide) ?_
        refine lv_iadd hx hb dL_law_330 ?_
        obtain ⟨hc, h⟩ := h
        refine va_sld hx hb hX hbl hbA hS hc dL_law_331 ?_
        refine kXi (rnV C.one (ct_X5_set l D cy x0 Aa Ab hap h) yv_X5_set wq_535 ⟨rfl, rfl⟩ ⟨Nat.le_of_ble_eq_true rfl, Nat.le_of_ble_eq_true rfl⟩ ⟨hcR.1, hcR.2⟩ (vX C.one hPx) ⟨hPa, hPb, hPx⟩ hl.1 rfl rfl (Nat.le_of_ble_eq_true rfl) dL_law_332) hS g8 (fun r332 σa332 μa332 σb332 μb332 H locs h hPa hPb hPx hk hS => ?_)
        have hPm := keepW rM g1 hPm hk
        have hPo := keepW rO (fun _ _ => g5) hPo hk
        refine lv_pop hx hb dL_law_335 rfl ?_
        refine lv_aload_n hx hb dL_law_336 rfl (lv_at hl 2 rfl) ?_
        refine lv_aload_n hx hb dL_law_337 rfl (lv_at hl 0 rfl) ?_
        refine lv_iload hx hb dL_law_338 (lv_at hl 4 rfl) ?_
        refine lv_iconst (v := 1) hx hb dL_law_340 (by decide) ?_
        refine lv_iadd hx hb dL_law_341 ?_
        obtain ⟨hc, h⟩ := h
        refine va_sld hx hb hX hbl hbA hS hc dL_law_342 ?_
        refine lv_aload_n hx hb dL_law_343 rfl (lv_at hl 0 rfl) ?_
        refine lv_iload hx hb dL_law_344 (lv_at hl 4 rfl) ?_
        refine lv_iconst (v := 2) hx hb dL_law_346 (by decide) ?_
        refine lv_iadd hx hb dL_law_347 ?_
        obtain ⟨hc, h⟩ := h
        refine va_sld hx hb hX hbl hbA hS hc dL_law_348 ?_
        refine lv_aload_n hx hb dL_law_349 rfl (lv_at hl 0 rfl) ?_
        refine lv_iload hx hb dL_law_350 (lv_at hl 4 rfl) ?_
        refine lv_iconst (v := 3) hx hb dL_law_352 (by decide) ?_
        refine lv_iadd hx hb dL_law_353 ?_
        obtain ⟨hc, h⟩ := h
        refine va_sld hx hb hX hbl hbA hS hc dL_law_354 ?_
        refine kWi (rnV C.one (ct_X6_set l D cy Am hapM h) yv_X6_set wq_1088 ⟨rfl, rfl⟩ ⟨Nat.le_of_ble_eq_true rfl, Nat.le_of_ble_eq_true rfl⟩ ⟨hcR.1, hcR.2⟩ (vM_model C.one hPm) hPm hl.1 rfl rfl (Nat.le_of_ble_eq_true rfl) dL_law_355) hS g9 (fun r355 τ355 ν355 H locs h hPm hk hS => ?_)
        have hPa := keepW rS g2 hPa hk
        have hPb := keepW rS g3 hPb hk
        have hPx := keepW (rX (x0 := x0) (Aa := Aa) (Ab := Ab)) (fun _ _ => g4) hPx hk
        have hPo := keepW rO (fun _ _ => g6) hPo hk
        refine lv_pop hx hb dL_law_358 rfl ?_
        refine lv_goto (tgt := 965) hx hb dL_law_359 (by decide) ?_
        exact wk_L_law_965 C hlt G hE hcR hc1 hk23 h hPa hPb hPx hPm hPo hS (lv_sub hl [0, 1, 2, 3, 4] rfl)
      · have h := h.2.2.2.2.2.2.2.1 (Int32.toInt_inj.mp (by rw [hr]; rfl))
        refine lv_tableIn (off := 322) (tgt := 362) hx hb dL_law_40 (by omega) (by omega) (by rw [hr]; rfl) (by decide) ?_
        refine lv_aload_n hx hb dL_law_362 rfl (lv_at hl 1 rfl) ?_
        refine lv_aload_n hx hb dL_law_363 rfl (lv_at hl 0 rfl) ?_
        refine lv_iload hx hb dL_law_364 (lv_at hl 4 rfl) ?_
        refine lv_iconst (v := 1) hx hb dL_law_366 (by decide) ?_
        refine lv_iadd hx hb dL_law_367 ?_
        obtain ⟨hc, h⟩ := h
        refine va_sld hx hb hX hbl hbA hS hc dL_law_368 ?_
        refine kXi (rnV C.one (ct_X5_drop l D cy x0 Aa Ab hap h) yv_X5_drop wq_629 ⟨rfl, rfl⟩ ⟨Nat.le_of_ble_eq_true rfl, Nat.le_of_ble_eq_true rfl⟩ ⟨hcR.1, hcR.2⟩ (vX C.one hPx) ⟨hPa, hPb, hPx⟩ hl.1 rfl rfl (Nat.le_of_ble_eq_true rfl) dL_law_369) hS g8 (fun r369 σa369 μa369 σb369 μb369 H locs h hPa hPb hPx hk hS => ?_)
        have hPm := keepW rM g1 hPm hk
        have hPo := keepW rO (fun _ _ => g5) hPo hk
        refine lv_pop hx hb dL_law_372 rfl ?_
        refine lv_aload_n hx hb dL_law_373 rfl (lv_at hl 2 rfl) ?_
        refine lv_aload_n hx hb dL_law_374 rfl (lv_at hl 0 rfl) ?_
        refine lv_iload hx hb dL_law_375 (lv_at hl 4 rfl) ?_
        refine lv_iconst (v := 1) hx hb dL_law_377 (by decide) ?_
        refine lv_iadd hx hb dL_law_378 ?_
        obtain ⟨hc, h⟩ := h
        refine va_sld hx hb hX hbl hbA hS hc dL_law_379 ?_
        refine kWi (rnV C.one (ct_X6_drop l D cy Am hapM h) yv_X6_drop wq_1163 ⟨rfl, rfl⟩ ⟨Nat.le_of_ble_eq_true rfl, Nat.le_of_ble_eq_true rfl⟩ ⟨hcR.1, hcR.2⟩ (vM_model C.one hPm) hPm hl.1 rfl rfl (Nat.le_of_ble_eq_true rfl) dL_law_380) hS g9 (fun r380 τ380 ν380 H locs h hPm hk hS => ?_)
        have hPa := keepW rS g2 hPa hk
        have hPb := keepW rS g3 hPb hk
        have hPx := keepW (rX (x0 := x0) (Aa := Aa) (Ab := Ab)) (fun _ _ => g4) hPx hk
        have hPo := keepW rO (fun _ _ => g6) hPo hk
        refine lv_pop hx hb dL_law_383 rfl ?_
        refine lv_goto (tgt := 965) hx hb dL_law_384 (by decide) ?_
        exact wk_L_law_965 C hlt G hE hcR hc1 hk23 h hPa hPb hPx hPm hPo hS (lv_sub hl [0, 1, 2, 3, 4] rfl)
      · have h := h.2.2.2.2.2.2.2.2.1 (Int32.toInt_inj.mp (by rw [hr]; rfl))
        refine lv_tableIn (off := 347) (tgt := 387) hx hb dL_law_40 (by omega) (by omega) (by rw [hr]; rfl) (by decide) ?_
        refine lv_aload_n hx hb dL_law_387 rfl (lv_at hl 1 rfl) ?_
        refine lv_aload_n hx hb dL_law_388 rfl (lv_at hl 0 rfl) ?_
        refine lv_iload hx hb dL_law_389 (lv_at hl 4 rfl) ?_
        refine lv_iconst (v := 1) hx hb dL_law_391 (by decide) ?_
        refine lv_iadd hx hb dL_law_392 ?_
        obtain ⟨hc, h⟩ := h
        refine va_sld hx hb hX hbl hbA hS hc dL_law_393 ?_
        refine kXi (rnV C.one (ct_X5_bump l D cy x0 Aa Ab hap h) yv_X5_bump wq_638 ⟨rfl, rfl⟩ ⟨Nat.le_of_ble_eq_true rfl, Nat.le_of_ble_eq_true rfl⟩ ⟨hcR.1, hcR.2⟩ (vX C.one hPx) ⟨hPa, hPb, hPx⟩ hl.1 rfl rfl (Nat.le_of_ble_eq_true rfl) dL_law_394) hS g8 (fun r394 σa394 μa394 σb394 μb394 H locs h hPa hPb hPx hk hS => ?_)
        have hPm := keepW rM g1 hPm hk
        have hPo := keepW rO (fun _ _ => g5) hPo hk
        refine lv_pop hx hb dL_law_397 rfl ?_
        refine lv_aload_n hx hb dL_law_398 rfl (lv_at hl 2 rfl) ?_
        refine lv_aload_n hx hb dL_law_399 rfl (lv_at hl 0 rfl) ?_
        refine lv_iload hx hb dL_law_400 (lv_at hl 4 rfl) ?_
        refine lv_iconst (v := 1) hx hb dL_law_402 (by decide) ?_
        refine lv_iadd hx hb dL_law_403 ?_
        obtain ⟨hc, h⟩ := h
        refine va_sld hx hb hX hbl hbA hS hc dL_law_404 ?_
        refine kWi (rnV C.one (ct_X6_bump l D cy Am hapM h) yv_X6_bump wq_1167 ⟨rfl, rfl⟩ ⟨Nat.le_of_ble_eq_true rfl, Nat.le_of_ble_eq_true rfl⟩ ⟨hcR.1, hcR.2⟩ (vM_model C.one hPm) hPm hl.1 rfl rfl (Nat.le_of_ble_eq_true rfl) dL_law_405) hS g9 (fun r405 τ405 ν405 H locs h hPm hk hS => ?_)
        have hPa := keepW rS g2 hPa hk
        have hPb := keepW rS g3 hPb hk
        have hPx := keepW (rX (x0 := x0) (Aa := Aa) (Ab := Ab)) (fun _ _ => g4) hPx hk
        have hPo := keepW rO (fun _ _ => g6) hPo hk
        refine lv_pop hx hb dL_law_408 rfl ?_
        refine lv_goto (tgt := 965) hx hb dL_law_409 (by decide) ?_
        exact wk_L_law_965 C hlt G hE hcR hc1 hk23 h hPa hPb hPx hPm hPo hS (lv_sub hl [0, 1, 2, 3, 4] rfl)
      · have h := h.2.2.2.2.2.2.2.2.2.1 (Int32.toInt_inj.mp (by rw [hr]; rfl))
        refine lv_tableIn (off := 372) (tgt := 412) hx hb dL_law_40 (by omega) (by omega) (by rw [hr]; rfl) (by decide) ?_
        refine lv_aload_n hx hb dL_law_412 rfl (lv_at hl 1 rfl) ?_
        refine kXi (rnV C.one (ct_X5_begin l D cy x0 Aa Ab hap h) yv_X5_begin wq_660 ⟨rfl, rfl⟩ ⟨Nat.le_of_ble_eq_true rfl, Nat.le_of_ble_eq_true rfl⟩ ⟨hcR.1, hcR.2⟩ (vX C.one hPx) ⟨hPa, hPb, hPx⟩ hl.1 rfl rfl (Nat.le_of_ble_eq_true rfl) dL_law_413) hS g8 (fun r413 σa413 μa413 σb413 μb413 H locs h hPa hPb hPx hk hS => ?_)
        have hPm := keepW rM g1 hPm hk
        have hPo := keepW rO (fun _ _ => g5) hPo hk
        refine lv_pop hx hb dL_law_416 rfl ?_
        refine lv_aload_n hx hb dL_law_417 rfl (lv_at hl 2 rfl) ?_
        refine kWi (rnV C.one (ct_X6_begin l D cy Am hapM h) yv_X6_begin wq_1184 ⟨rfl, rfl⟩ ⟨Nat.le_of_ble_eq_true rfl, Nat.le_of_ble_eq_true rfl⟩ ⟨hcR.1, hcR.2⟩ (vM_model C.one hPm) hPm hl.1 rfl rfl (Nat.le_of_ble_eq_true rfl) dL_law_418) hS g9 (fun r418 τ418 ν418 H locs h hPm hk hS => ?_)
        have hPa := keepW rS g2 hPa hk
        have hPb := keepW rS g3 hPb hk
        have hPx := keepW (rX (x0 := x0) (Aa := Aa) (Ab := Ab)) (fun _ _ => g4) hPx hk
        have hPo := keepW rO (fun _ _ => g6) hPo hk
        refine lv_pop hx hb dL_law_421 rfl ?_
        refine lv_goto (tgt := 965) hx hb dL_law_422 (by decide) ?_
        exact wk_L_law_965 C hlt G hE hcR hc1 hk23 h hPa hPb hPx hPm hPo hS (lv_sub hl [0, 1, 2, 3, 4] rfl)
      · have h := h.2.2.2.2.2.2.2.2.2.2.1 (Int32.toInt_inj.mp (by rw [hr]; rfl))
        refine lv_tableIn (off := 385) (tgt := 425) hx hb dL_law_40 (by omega) (by omega) (by rw [hr]; rfl) (by decide) ?_
        refine lv_aload_n hx hb dL_law_425 rfl (lv_at hl 1 rfl) ?_
        refine kXi (rnV C.one (ct_X5_commit l D cy x0 Aa Ab hap h) yv_X5_commit wq_668 ⟨rfl, rfl⟩ ⟨Nat.le_of_ble_eq_true rfl, Nat.le_of_ble_eq_true rfl⟩ ⟨hcR.1, hcR.2⟩ (vX C.one hPx) ⟨hPa, hPb, hPx⟩ hl.1 rfl rfl (Nat.le_of_ble_eq_true rfl) dL_law_426) hS g8 (fun r426 σa426 μa426 σb426 μb426 H locs h hPa hPb hPx hk hS => ?_)
        have hPm := keepW rM g1 hPm hk
        have hPo := keepW rO (fun _ _ => g5) hPo hk
        refine lv_pop hx hb dL_law_429 rfl ?_
        refine lv_aload_n hx hb dL_law_430 rfl (lv_at hl 2 rfl) ?_
        refine kWi (rnV C.one (ct_X6_commit l D cy Am hapM h) yv_X6_commit wq_1188 ⟨rfl, rfl⟩ ⟨Nat.le_of_ble_eq_true rfl, Nat.le_of_ble_eq_true rfl⟩ ⟨hcR.1, hcR.2⟩ (vM_model C.one hPm) hPm hl.1 rfl rfl (Nat.le_of_ble_eq_true rfl) dL_law_431) hS g9 (fun r431 τ431 ν431 H locs h hPm hk hS => ?_)
        have hPa := keepW rS g2 hPa hk
        have hPb := keepW rS g3 hPb hk
        have hPx := keepW (rX (x0 := x0) (Aa := Aa) (Ab := Ab)) (fun _ _ => g4) hPx hk
        have hPo := keepW rO (fun _ _ => g6) hPo hk
        refine lv_pop hx hb dL_law_434 rfl ?_
        refine lv_goto (tgt := 965) hx hb dL_law_435 (by decide) ?_
        exact wk_L_law_965 C hlt G hE hcR hc1 hk23 h hPa hPb hPx hPm hPo hS (lv_sub hl [0, 1, 2, 3, 4] rfl)
      · have h := h.2.2.2.2.2.2.2.2.2.2.2.1 (Int32.toInt_inj.mp (by rw [hr]; rfl))
        refine lv_tableIn (off := 398) (tgt := 438) hx hb dL_law_40 (by omega) (by omega) (by rw [hr]; rfl) (by decide) ?_
        refine lv_aload_n hx hb dL_law_438 rfl (lv_at hl 1 rfl) ?_
        refine kXi (rnV C.one (ct_X5_abort l D cy x0 Aa Ab hap h) yv_X5_abort wq_685 ⟨rfl, rfl⟩ ⟨Nat.le_of_ble_eq_true rfl, Nat.le_of_ble_eq_true rfl⟩ ⟨hcR.1, hcR.2⟩ (vX C.one hPx) ⟨hPa, hPb, hPx⟩ hl.1 rfl rfl (Nat.le_of_ble_eq_true rfl) dL_law_439) hS g8 (fun r439 σa439 μa439 σb439 μb439 H locs h hPa hPb hPx hk hS => ?_)
        have hPm := keepW rM g1 hPm hk
        have hPo := keepW rO (fun _ _ => g5) hPo hk
        refine lv_pop hx hb dL_law_442 rfl ?_
        refine lv_aload_n hx hb dL_law_443 rfl (lv_at hl 2 rfl) ?_
        refine kWi (rnV C.one (ct_X6_abort l D cy Am hapM h) yv_X6_abort wq_1192 ⟨rfl, rfl⟩ ⟨Nat.le_of_ble_eq_true rfl, Nat.le_of_ble_eq_true rfl⟩ ⟨hcR.1, hcR.2⟩ (vM_model C.one hPm) hPm hl.1 rfl rfl (Nat.le_of_ble_eq_true rfl) dL_law_444) hS g9 (fun r444 τ444 ν444 H locs h hPm hk hS => ?_)
        have hPa := keepW rS g2 hPa hk
        have hPb := keepW rS g3 hPb hk
        have hPx := keepW (rX (x0 := x0) (Aa := Aa) (Ab := Ab)) (fun _ _ => g4) hPx hk
        have hPo := keepW rO (fun _ _ => g6) hPo hk
        refine lv_pop hx hb dL_law_447 rfl ?_
        refine lv_goto (tgt := 965) hx hb dL_law_448 (by decide) ?_
        exact wk_L_law_965 C hlt G hE hcR hc1 hk23 h hPa hPb hPx hPm hPo hS (lv_sub hl [0, 1, 2, 3, 4] rfl)
      · have h := h.2.2.2.2.2.2.2.2.2.2.2.2.1 (Int32.toInt_inj.mp (by rw [hr]; rfl))
        refine lv_tableIn (off := 411) (tgt := 451) hx hb dL_law_40 (by omega) (by omega) (by rw [hr]; rfl) (by decide) ?_
        refine lv_aload_n hx hb dL_law_451 rfl (lv_at hl 1 rfl) ?_
        refine lv_aload_n hx hb dL_law_452 rfl (lv_at hl 0 rfl) ?_
        refine lv_iload hx hb dL_law_453 (lv_at hl 4 rfl) ?_
        refine lv_iconst (v := 1) hx hb dL_law_455 (by decide) ?_
        refine lv_iadd hx hb dL_law_456 ?_
        obtain ⟨hc, h⟩ := h
        refine va_sld hx hb hX hbl hbA hS hc dL_law_457 ?_
        refine kXl (rnV C.one (ct_X5_get l D cy x0 Aa Ab hap h) yv_X5_get wq_689 ⟨rfl, rfl⟩ ⟨Nat.le_of_ble_eq_true rfl, Nat.le_of_ble_eq_true rfl⟩ ⟨hcR.1, hcR.2⟩ (vX C.one hPx) ⟨hPa, hPb, hPx⟩ hl.1 rfl rfl (Nat.le_of_ble_eq_true rfl) dL_law_458) hS g8 (fun r458 σa458 μa458 σb458 μb458 H locs h hPa hPb hPx hk hS => ?_)
        have hPm := keepW rM g1 hPm hk
        have hPo := keepW rO (fun _ _ => g5) hPo hk
        refine lv_aload_n hx hb dL_law_461 rfl (lv_at hl 2 rfl) ?_
        refine lv_aload_n hx hb dL_law_462 rfl (lv_at hl 0 rfl) ?_
        refine lv_iload hx hb dL_law_463 (lv_at hl 4 rfl) ?_
        refine lv_iconst (v := 1) hx hb dL_law_465 (by decide) ?_
        refine lv_iadd hx hb dL_law_466 ?_
        obtain ⟨hc, h⟩ := h
        refine va_sld hx hb hX hbl hbA hS hc dL_law_467 ?_
        refine kWl (rnV C.one (ct_X6_get l D cy Am hapM h) yv_X6_get wq_1196 ⟨rfl, rfl⟩ ⟨Nat.le_of_ble_eq_true rfl, Nat.le_of_ble_eq_true rfl⟩ ⟨hcR.1, hcR.2⟩ (vM_model C.one hPm) hPm hl.1 rfl rfl (Nat.le_of_ble_eq_true rfl) dL_law_468) hS g9 (fun r468 τ468 ν468 H locs h hPm hk hS => ?_)
        have hPa := keepW rS g2 hPa hk
        have hPb := keepW rS g3 hPb hk
        have hPx := keepW (rX (x0 := x0) (Aa := Aa) (Ab := Ab)) (fun _ _ => g4) hPx hk
        have hPo := keepW rO (fun _ _ => g6) hPo hk
        refine W.lcmp hx hb dL_law_471 ?_
        refine lv_if_eq (tgt := 965) hx hb dL_law_472 (by decide) (fun hc => ?_) (fun hc => ?_)
        · have h := h.1 hc
          exact wk_L_law_965 C hlt G hE hcR hc1 hk23 h hPa hPb hPx hPm hPo hS (lv_sub hl [0, 1, 2, 3, 4] rfl)
        · have h := h.2 hc
          refine lv_iconst (v := 0) hx hb dL_law_475 (by decide) ?_
          exact h.elim
      · have h := h.2.2.2.2.2.2.2.2.2.2.2.2.2.1 (Int32.toInt_inj.mp (by rw [hr]; rfl))
        refine lv_tableIn (off := 437) (tgt := 477) hx hb dL_law_40 (by omega) (by omega) (by rw [hr]; rfl) (by decide) ?_
        refine lv_aload_n hx hb dL_law_477 rfl (lv_at hl 1 rfl) ?_
        refine lv_aload_n hx hb dL_law_478 rfl (lv_at hl 0 rfl) ?_
        refine lv_iload hx hb dL_law_479 (lv_at hl 4 rfl) ?_
        refine lv_iconst (v := 1) hx hb dL_law_481 (by decide) ?_
        refine lv_iadd hx hb dL_law_482 ?_
        obtain ⟨hc, h⟩ := h
        refine va_sld hx hb hX hbl hbA hS hc dL_law_483 ?_
        refine kXi (rnV C.one (ct_X5_length l D cy x0 Aa Ab hap h) yv_X5_length wq_697 ⟨rfl, rfl⟩ ⟨Nat.le_of_ble_eq_true rfl, Nat.le_of_ble_eq_true rfl⟩ ⟨hcR.1, hcR.2⟩ (vX C.one hPx) ⟨hPa, hPb, hPx⟩ hl.1 rfl rfl (Nat.le_of_ble_eq_true rfl) dL_law_484) hS g8 (fun r484 σa484 μa484 σb484 μb484 H locs h hPa hPb hPx hk hS => ?_)
        have hPm := keepW rM g1 hPm hk
        have hPo := keepW rO (fun _ _ => g5) hPo hk
        refine lv_pop hx hb dL_law_487 rfl ?_
        refine lv_aload_n hx hb dL_law_488 rfl (lv_at hl 2 rfl) ?_
        refine lv_aload_n hx hb dL_law_489 rfl (lv_at hl 0 rfl) ?_
        refine lv_iload hx hb dL_law_490 (lv_at hl 4 rfl) ?_
        refine lv_iconst (v := 1) hx hb dL_law_492 (by decide) ?_
        refine lv_iadd hx hb dL_law_493 ?_
        obtain ⟨hc, h⟩ := h
        refine va_sld hx hb hX hbl hbA hS hc dL_law_494 ?_
        refine kWi (rnV C.one (ct_X6_length l D cy Am hapM h) yv_X6_length wq_1209 ⟨rfl, rfl⟩ ⟨Nat.le_of_ble_eq_true rfl, Nat.le_of_ble_eq_true rfl⟩ ⟨hcR.1, hcR.2⟩ (vM_model C.one hPm) hPm hl.1 rfl rfl (Nat.le_of_ble_eq_true rfl) dL_law_495) hS g9 (fun r495 τ495 ν495 H locs h hPm hk hS => ?_)
        have hPa := keepW rS g2 hPa hk
        have hPb := keepW rS g3 hPb hk
        have hPx := keepW (rX (x0 := x0) (Aa := Aa) (Ab := Ab)) (fun _ _ => g4) hPx hk
        have hPo := keepW rO (fun _ _ => g6) hPo hk
        refine lv_pop hx hb dL_law_498 rfl ?_
        refine lv_goto (tgt := 965) hx hb dL_law_499 (by decide) ?_
        exact wk_L_law_965 C hlt G hE hcR hc1 hk23 h hPa hPb hPx hPm hPo hS (lv_sub hl [0, 1, 2, 3, 4] rfl)
      · have h := h.2.2.2.2.2.2.2.2.2.2.2.2.2.2.1 (Int32.toInt_inj.mp (by rw [hr]; rfl))
        refine lv_tableIn (off := 462) (tgt := 502) hx hb dL_law_40 (by omega) (by omega) (by rw [hr]; rfl) (by decide) ?_
        refine lv_aload_n hx hb dL_law_502 rfl (lv_at hl 1 rfl) ?_
        refine kXi (rnV C.one (ct_X5_hand l D cy x0 Aa Ab hap h) yv_X5_hand wq_702 ⟨rfl, rfl⟩ ⟨Nat.le_of_ble_eq_true rfl, Nat.le_of_ble_eq_true rfl⟩ ⟨hcR.1, hcR.2⟩ (vX C.one hPx) ⟨hPa, hPb, hPx⟩ hl.1 rfl rfl (Nat.le_of_ble_eq_true rfl) dL_law_503) hS g8 (fun r503 σa503 μa503 σb503 μb503 H locs h hPa hPb hPx hk hS => ?_)
        have hPm := keepW rM g1 hPm hk
        have hPo := keepW rO (fun _ _ => g5) hPo hk
        refine lv_pop hx hb dL_law_506 rfl ?_
        refine lv_aload_n hx hb dL_law_507 rfl (lv_at hl 2 rfl) ?_
        refine kWi (rnV C.one (ct_X6_hand l D cy Am hapM h) yv_X6_hand wq_1213 ⟨rfl, rfl⟩ ⟨Nat.le_of_ble_eq_true rfl, Nat.le_of_ble_eq_true rfl⟩ ⟨hcR.1, hcR.2⟩ (vM_model C.one hPm) hPm hl.1 rfl rfl (Nat.le_of_ble_eq_true rfl) dL_law_508) hS g9 (fun r508 τ508 ν508 H locs h hPm hk hS => ?_)
        have hPa := keepW rS g2 hPa hk
        have hPb := keepW rS g3 hPb hk
        have hPx := keepW (rX (x0 := x0) (Aa := Aa) (Ab := Ab)) (fun _ _ => g4) hPx hk
        have hPo := keepW rO (fun _ _ => g6) hPo hk
        refine lv_pop hx hb dL_law_511 rfl ?_
        refine lv_goto (tgt := 965) hx hb dL_law_512 (by decide) ?_
        exact wk_L_law_965 C hlt G hE hcR hc1 hk23 h hPa hPb hPx hPm hPo hS (lv_sub hl [0, 1, 2, 3, 4] rfl)
      · have h := h.2.2.2.2.2.2.2.2.2.2.2.2.2.2.2.1 (Int32.toInt_inj.mp (by rw [hr]; rfl))
        refine lv_tableIn (off := 475) (tgt := 515) hx hb dL_law_40 (by omega) (by omega) (by rw [hr]; rfl) (by decide) ?_
        refine lv_aload_n hx hb dL_law_515 rfl (lv_at hl 1 rfl) ?_
        refine lv_aload_n hx hb dL_law_516 rfl (lv_at hl 0 rfl) ?_
        refine lv_iload hx hb dL_law_517 (lv_at hl 4 rfl) ?_
        refine lv_iconst (v := 1) hx hb dL_law_519 (by decide) ?_
        refine lv_iadd hx hb dL_law_520 ?_
        obtain ⟨hc, h⟩ := h
        refine va_sld hx hb hX hbl hbA hS hc dL_law_521 ?_
        refine lv_aload_n hx hb dL_law_522 rfl (lv_at hl 0 rfl) ?_
        refine lv_iload hx hb dL_law_523 (lv_at hl 4 rfl) ?_
        refine lv_iconst (v := 2) hx hb dL_law_525 (by decide) ?_
        refine lv_iadd hx hb dL_law_526 ?_
        obtain ⟨hc, h⟩ := h
        refine va_sld hx hb hX hbl hbA hS hc dL_law_527 ?_
        refine lv_aload_n hx hb dL_law_528 rfl (lv_at hl 3 rfl) ?_
        refine va_calli (vx_runSW (As := [.ref x0, .int (xs ((v4 + (1 : Int32))).toNatClampNeg), .int (xs ((v4 + (2 : Int32))).toNatClampNeg), .ref o]) (rest := []) (Ts := gw) (hh := [(0, 10, 13, 13)]) (n := 4) ⟨hx, hb, C.2.2.1, C.2.2.2.1, C.2.2.2.2.2.2.1⟩ (ct_L_at l hlt D cy cl x0 o Aa Ab hap g5 g7 sa h) (cwLat C.2.2.2.2.2.2.1 wq_840 ⟨Nat.le_of_ble_eq_true rfl, Nat.le_of_ble_eq_true rfl⟩) ⟨blindAt, preLat C ⟨hPa, hPb, hPx, hPo⟩ (exAt hE hS g8 g10)⟩ rfl rfl hl.1 rfl (lv_room (Nat.le_of_ble_eq_true rfl)) dL_law_529 ⟨hc2.2.2.1, hc2.2.2.2⟩) hS (fun q _ h => h.elim (g8 q) (fun e => e ▸ g10)) (fun q h => h.elim (g8 q) (fun e => e ▸ g10)) (fun r529 u t H1 locs ht hvm hw hB hz1 hk hS => ?_)
        obtain ⟨σa529, μa529, σb529, μb529, f529⟩ := u
        have h := hw
        dsimp only at h
        obtain ⟨hPa, hPb, hPx, hPo⟩ := hB
        rw [ht] at hPa hPb hPx hPo
        have hPm := keepW rM (fun k hk2 h => h.elim (g1 k hk2) (fun e => g6 ⟨k, hk2, e.symm⟩)) hPm hk
        have hcR : c0 + 1 ≤ 1071 ∧ s0 + 6 ≤ 12584 := ⟨hc2.2.2.1, hc2.2.2.2⟩
        have hc1 : c0 + 1 ≤ c1 ∧ s0 + 6 ≤ s1 := ⟨hc2.1, hc2.2.1⟩
        refine lv_istore (lv' := [(5, .int r529), (0, .ref b), (1, .ref x0), (2, .ref (Am 0)), (3, .ref o), (4, .int v4)]) hx hb dL_law_532 hl (by decide) rfl (fun ls hl => ?_)
        refine lv_aload_n hx hb dL_law_534 rfl (lv_at hl 3 rfl) ?_
        refine lv_aload_n hx hb dL_law_535 rfl (lv_at hl 1 rfl) ?_
        refine lv_iload hx hb dL_law_536 (lv_at hl 5 rfl) ?_
        refine lv_iconst (v := 1) hx hb dL_law_538 (by decide) ?_
        refine lv_iadd hx hb dL_law_539 ?_
        obtain ⟨hc, h⟩ := h
        refine va_sld hx hb hX hbl hbA hS hc dL_law_540 ?_
        refine lv_aload_n hx hb dL_law_541 rfl (lv_at hl 1 rfl) ?_
        refine lv_iload hx hb dL_law_542 (lv_at hl 5 rfl) ?_
        refine lv_iconst (v := 2) hx hb dL_law_544 (by decide) ?_
        refine lv_iadd hx hb dL_law_545 ?_
        obtain ⟨hc, h⟩ := h
        refine va_sld hx hb hX hbl hbA hS hc dL_law_546 ?_
        refine kWi (rnV C.one (ct_X6_at l D cy Am hapM h) yv_X6_at wq_1217 ⟨rfl, rfl⟩ ⟨Nat.le_of_ble_eq_true rfl, Nat.le_of_ble_eq_true rfl⟩ ⟨hcR.1, hcR.2⟩ (vM_model C.one hPm) hPm hl.1 rfl rfl (Nat.le_of_ble_eq_true rfl) dL_law_547) hS g9 (fun r547 τ547 ν547 H locs h hPm hk hS => ?_)
        have hPa := keepW rS g2 hPa hk
        have hPb := keepW rS g3 hPb hk
        have hPx := keepW (rX (x0 := x0) (Aa := Aa) (Ab := Ab)) (fun _ _ => g4) hPx hk
        have hPo := keepW rO (fun _ _ => g6) hPo hk
        refine lv_istore (lv' := [(6, .int r547), (5, .int r529), (0, .ref b), (1, .ref x0), (2, .ref (Am 0)), (3, .ref o), (4, .int v4)]) hx hb dL_law_550 hl (by decide) rfl (fun ls hl => ?_)
        refine lv_goto (tgt := 965) hx hb dL_law_552 (by decide) ?_
        exact wk_L_law_965 C hlt G hE hcR hc1 hk23 h hPa hPb hPx hPm hPo hS (lv_sub hl [2, 3, 4, 5, 6] rfl)
      · have h := h.2.2.2.2.2.2.2.2.2.2.2.2.2.2.2.2.1 (Int32.toInt_inj.mp (by rw [hr]; rfl))
        refine lv_tableIn (off := 515) (tgt := 555) hx hb dL_law_40 (by omega) (by omega) (by rw [hr]; rfl) (by decide) ?_
        refine lv_aload_n hx hb dL_law_555 rfl (lv_at hl 1 rfl) ?_
        refine lv_aload_n hx hb dL_law_556 rfl (lv_at hl 0 rfl) ?_
        refine lv_iload hx hb dL_law_557 (lv_at hl 4 rfl) ?_
        refine lv_iconst (v := 1) hx hb dL_law_559 (by decide) ?_
        refine lv_iadd hx hb dL_law_560 ?_
        obtain ⟨hc, h⟩ := h
        refine va_sld hx hb hX hbl hbA hS hc dL_law_561 ?_
        refine lv_aload_n hx hb dL_law_562 rfl (lv_at hl 0 rfl) ?_
        refine lv_iload hx hb dL_law_563 (lv_at hl 4 rfl) ?_
        refine lv_iconst (v := 2) hx hb dL_law_565 (by decide) ?_
        refine lv_iadd hx hb dL_law_566 ?_
        obtain ⟨hc, h⟩ := h
        refine va_sld hx hb hX hbl hbA hS hc dL_law_567 ?_
        refine kXi (rnV C.one (ct_X5_sector l D cy x0 Aa Ab hap h) yv_X5_sector wq_710 ⟨rfl, rfl⟩ ⟨Nat.le_of_ble_eq_true rfl, Nat.le_of_ble_eq_true rfl⟩ ⟨hcR.1, hcR.2⟩ (vX C.one hPx) ⟨hPa, hPb, hPx⟩ hl.1 rfl rfl (Nat.le_of_ble_eq_true rfl) dL_law_568) hS g8 (fun r568 σa568 μa568 σb568 μb568 H locs h hPa hPb hPx hk hS => ?_)
        have hPm := keepW rM g1 hPm hk
        have hPo := keepW rO (fun _ _ => g5) hPo hk
        refine lv_pop hx hb dL_law_571 rfl ?_
        refine lv_aload_n hx hb dL_law_572 rfl (lv_at hl 2 rfl) ?_
        refine lv_aload_n hx hb dL_law_573 rfl (lv_at hl 0 rfl) ?_
        refine lv_iload hx hb dL_law_574 (lv_at hl 4 rfl) ?_
        refine lv_iconst (v := 1) hx hb dL_law_576 (by decide) ?_
        refine lv_iadd hx hb dL_law_577 ?_
        obtain ⟨hc, h⟩ := h
        refine va_sld hx hb hX hbl hbA hS hc dL_law_578 ?_
        refine lv_aload_n hx hb dL_law_579 rfl (lv_at hl 0 rfl) ?_
        refine lv_iload hx hb dL_law_580 (lv_at hl 4 rfl) ?_
        refine lv_iconst (v := 2) hx hb dL_law_582 (by decide) ?_
        refine lv_iadd hx hb dL_law_583 ?_
        obtain ⟨hc, h⟩ := h
        refine va_sld hx hb hX hbl hbA hS hc dL_law_584 ?_
        refine kWi (rnV C.one (ct_X6_sector l D cy Am hapM h) yv_X6_sector wq_1221 ⟨rfl, rfl⟩ ⟨Nat.le_of_ble_eq_true rfl, Nat.le_of_ble_eq_true rfl⟩ ⟨hcR.1, hcR.2⟩ (vM_model C.one hPm) hPm hl.1 rfl rfl (Nat.le_of_ble_eq_true rfl) dL_law_585) hS g9 (fun r585 τ585 ν585 H locs h hPm hk hS => ?_)
        have hPa := keepW rS g2 hPa hk
        have hPb := keepW rS g3 hPb hk
        have hPx := keepW (rX (x0 := x0) (Aa := Aa) (Ab := Ab)) (fun _ _ => g4) hPx hk
        have hPo := keepW rO (fun _ _ => g6) hPo hk
        refine lv_pop hx hb dL_law_588 rfl ?_
        refine lv_goto (tgt := 965) hx hb dL_law_589 (by decide) ?_
        exact wk_L_law_965 C hlt G hE hcR hc1 hk23 h hPa hPb hPx hPm hPo hS (lv_sub hl [0, 1, 2, 3, 4] rfl)
      · have h := h.2.2.2.2.2.2.2.2.2.2.2.2.2.2.2.2.2.1 (Int32.toInt_inj.mp (by rw [hr]; rfl))
        refine lv_tableIn (off := 552) (tgt := 592) hx hb dL_law_40 (by omega) (by omega) (by rw [hr]; rfl) (by decide) ?_
        refine lv_aload_n hx hb dL_law_592 rfl (lv_at hl 1 rfl) ?_
        refine lv_aload_n hx hb dL_law_593 rfl (lv_at hl 0 rfl) ?_
        refine lv_iload hx hb dL_law_594 (lv_at hl 4 rfl) ?_
        refine lv_iconst (v := 1) hx hb dL_law_596 (by decide) ?_
        refine lv_iadd hx hb dL_law_597 ?_
        obtain ⟨hc, h⟩ := h
        refine va_sld hx hb hX hbl hbA hS hc dL_law_598 ?_
        refine lv_aload_n hx hb dL_law_599 rfl (lv_at hl 0 rfl) ?_
        refine lv_iload hx hb dL_law_600 (lv_at hl 4 rfl) ?_
        refine lv_iconst (v := 2) hx hb dL_law_602 (by decide) ?_
        refine lv_iadd hx hb dL_law_603 ?_
        obtain ⟨hc, h⟩ := h
        refine va_sld hx hb hX hbl hbA hS hc dL_law_604 ?_
        refine lv_aload_n hx hb dL_law_605 rfl (lv_at hl 0 rfl) ?_
        refine lv_iload hx hb dL_law_606 (lv_at hl 4 rfl) ?_
        refine lv_iconst (v := 3) hx hb dL_law_608 (by decide) ?_
        refine lv_iadd hx hb dL_law_609 ?_
        obtain ⟨hc, h⟩ := h
        refine va_sld hx hb hX hbl hbA hS hc dL_law_610 ?_
        refine kXi (rnV C.one (ct_X5_entry l D cy x0 Aa Ab hap h) yv_X5_entry wq_719 ⟨rfl, rfl⟩ ⟨Nat.le_of_ble_eq_true rfl, Nat.le_of_ble_eq_true rfl⟩ ⟨hcR.1, hcR.2⟩ (vX C.one hPx) ⟨hPa, hPb, hPx⟩ hl.1 rfl rfl (Nat.le_of_ble_eq_true rfl) dL_law_611) hS g8 (fun r611 σa611 μa611 σb611 μb611 H locs h hPa hPb hPx hk hS => ?_)
        have hPm := keepW rM g1 hPm hk
        have hPo := keepW rO (fun _ _ => g5) hPo hk
        refine lv_pop hx hb dL_law_614 rfl ?_
        refine lv_aload_n hx hb dL_law_615 rfl (lv_at hl 2 rfl) ?_
        refine lv_aload_n hx hb dL_law_616 rfl (lv_at hl 0 rfl) ?_
        refine lv_iload hx hb dL_law_617 (lv_at hl 4 rfl) ?_
        refine lv_iconst (v := 1) hx hb dL_law_619 (by decide) ?_
        refine lv_iadd hx hb dL_law_620 ?_
        obtain ⟨hc, h⟩ := h
        refine va_sld hx hb hX hbl hbA hS hc dL_law_621 ?_
        refine lv_aload_n hx hb dL_law_622 rfl (lv_at hl 0 rfl) ?_
        refine lv_iload hx hb dL_law_623 (lv_at hl 4 rfl) ?_
        refine lv_iconst (v := 2) hx hb dL_law_625 (by decide) ?_
        refine lv_iadd hx hb dL_law_626 ?_
        obtain ⟨hc, h⟩ := h
        refine va_sld hx hb hX hbl hbA hS hc dL_law_627 ?_
        refine lv_aload_n hx hb dL_law_628 rfl (lv_at hl 0 rfl) ?_
        refine lv_iload hx hb dL_law_629 (lv_at hl 4 rfl) ?_
        refine lv_iconst (v := 3) hx hb dL_law_631 (by decide) ?_
        refine lv_iadd hx hb dL_law_632 ?_
        obtain ⟨hc, h⟩ := h
        refine va_sld hx hb hX hbl hbA hS hc dL_law_633 ?_
        refine kWi (rnV C.one (ct_X6_entry l D cy Am hapM h) yv_X6_entry wq_1225 ⟨rfl, rfl⟩ ⟨Nat.le_of_ble_eq_true rfl, Nat.le_of_ble_eq_true rfl⟩ ⟨hcR.1, hcR.2⟩ (vM_model C.one hPm) hPm hl.1 rfl rfl (Nat.le_of_ble_eq_true rfl) dL_law_634) hS g9 (fun r634 τ634 ν634 H locs h hPm hk hS => ?_)
        have hPa := keepW rS g2 hPa hk
        have hPb := keepW rS g3 hPb hk
        have hPx := keepW (rX (x0 := x0) (Aa := Aa) (Ab := Ab)) (fun _ _ => g4) hPx hk
        have hPo := keepW rO (fun _ _ => g6) hPo hk
        refine lv_pop hx hb dL_law_637 rfl ?_
        refine lv_goto (tgt := 965) hx hb dL_law_638 (by decide) ?_
        exact wk_L_law_965 C hlt G hE hcR hc1 hk23 h hPa hPb hPx hPm hPo hS (lv_sub hl [0, 1, 2, 3, 4] rfl)
      · have h := h.2.2.2.2.2.2.2.2.2.2.2.2.2.2.2.2.2.2.1 (Int32.toInt_inj.mp (by rw [hr]; rfl))
        refine lv_tableIn (off := 601) (tgt := 641) hx hb dL_law_40 (by omega) (by omega) (by rw [hr]; rfl) (by decide) ?_
        refine lv_aload_n hx hb dL_law_641 rfl (lv_at hl 1 rfl) ?_
        refine lv_aload_n hx hb dL_law_642 rfl (lv_at hl 0 rfl) ?_
        refine lv_iload hx hb dL_law_643 (lv_at hl 4 rfl) ?_
        refine lv_iconst (v := 1) hx hb dL_law_645 (by decide) ?_
        refine lv_iadd hx hb dL_law_646 ?_
        obtain ⟨hc, h⟩ := h
        refine va_sld hx hb hX hbl hbA hS hc dL_law_647 ?_
        refine lv_aload_n hx hb dL_law_648 rfl (lv_at hl 0 rfl) ?_
        refine lv_iload hx hb dL_law_649 (lv_at hl 4 rfl) ?_
        refine lv_iconst (v := 2) hx hb dL_law_651 (by decide) ?_
        refine lv_iadd hx hb dL_law_652 ?_
        obtain ⟨hc, h⟩ := h
        refine va_sld hx hb hX hbl hbA hS hc dL_law_653 ?_
        refine kXi (rnV C.one (ct_X5_space l D cy x0 Aa Ab hap h) yv_X5_space wq_728 ⟨rfl, rfl⟩ ⟨Nat.le_of_ble_eq_true rfl, Nat.le_of_ble_eq_true rfl⟩ ⟨hcR.1, hcR.2⟩ (vX C.one hPx) ⟨hPa, hPb, hPx⟩ hl.1 rfl rfl (Nat.le_of_ble_eq_true rfl) dL_law_654) hS g8 (fun r654 σa654 μa654 σb654 μb654 H locs h hPa hPb hPx hk hS => ?_)
        have hPm := keepW rM g1 hPm hk
        have hPo := keepW rO (fun _ _ => g5) hPo hk
        refine lv_pop hx hb dL_law_657 rfl ?_
        refine lv_aload_n hx hb dL_law_658 rfl (lv_at hl 2 rfl) ?_
        refine lv_aload_n hx hb dL_law_659 rfl (lv_at hl 0 rfl) ?_
        refine lv_iload hx hb dL_law_660 (lv_at hl 4 rfl) ?_
        refine lv_iconst (v := 1) hx hb dL_law_662 (by decide) ?_
        refine lv_iadd hx hb dL_law_663 ?_
        obtain ⟨hc, h⟩ := h
        refine va_sld hx hb hX hbl hbA hS hc dL_law_664 ?_
        refine lv_aload_n hx hb dL_law_665 rfl (lv_at hl 0 rfl) ?_
        refine lv_iload hx hb dL_law_666 (lv_at hl 4 rfl) ?_
        refine lv_iconst (v := 2) hx hb dL_law_668 (by decide) ?_
        refine lv_iadd hx hb dL_law_669 ?_
        obtain ⟨hc, h⟩ := h
        refine va_sld hx hb hX hbl hbA hS hc dL_law_670 ?_
        refine kWi (rnV C.one (ct_X6_space l D cy Am hapM h) yv_X6_space wq_1229 ⟨rfl, rfl⟩ ⟨Nat.le_of_ble_eq_true rfl, Nat.le_of_ble_eq_true rfl⟩ ⟨hcR.1, hcR.2⟩ (vM_model C.one hPm) hPm hl.1 rfl rfl (Nat.le_of_ble_eq_true rfl) dL_law_671) hS g9 (fun r671 τ671 ν671 H locs h hPm hk hS => ?_)
        have hPa := keepW rS g2 hPa hk
        have hPb := keepW rS g3 hPb hk
        have hPx := keepW (rX (x0 := x0) (Aa := Aa) (Ab := Ab)) (fun _ _ => g4) hPx hk
        have hPo := keepW rO (fun _ _ => g6) hPo hk
        refine lv_pop hx hb dL_law_674 rfl ?_
        refine lv_goto (tgt := 965) hx hb dL_law_675 (by decide) ?_
        exact wk_L_law_965 C hlt G hE hcR hc1 hk23 h hPa hPb hPx hPm hPo hS (lv_sub hl [0, 1, 2, 3, 4] rfl)
      · have h := h.2.2.2.2.2.2.2.2.2.2.2.2.2.2.2.2.2.2.2.1 (Int32.toInt_inj.mp (by rw [hr]; rfl))
        refine lv_tableIn (off := 638) (tgt := 678) hx hb dL_law_40 (by omega) (by omega) (by rw [hr]; rfl) (by decide) ?_
        refine lv_aload_n hx hb dL_law_678 rfl (lv_at hl 1 rfl) ?_
        refine lv_aload_n hx hb dL_law_679 rfl (lv_at hl 0 rfl) ?_
        refine lv_iload hx hb dL_law_680 (lv_at hl 4 rfl) ?_
        refine lv_iconst (v := 1) hx hb dL_law_682 (by decide) ?_
        refine lv_iadd hx hb dL_law_683 ?_
        obtain ⟨hc, h⟩ := h
        refine va_sld hx hb hX hbl hbA hS hc dL_law_684 ?_
        refine kXi (rnV C.one (ct_X5_until l D cy x0 Aa Ab hap h) yv_X5_until wq_737 ⟨rfl, rfl⟩ ⟨Nat.le_of_ble_eq_true rfl, Nat.le_of_ble_eq_true rfl⟩ ⟨hcR.1, hcR.2⟩ (vX C.one hPx) ⟨hPa, hPb, hPx⟩ hl.1 rfl rfl (Nat.le_of_ble_eq_true rfl) dL_law_685) hS g8 (fun r685 σa685 μa685 σb685 μb685 H locs h hPa hPb hPx hk hS => ?_)
        have hPm := keepW rM g1 hPm hk
        have hPo := keepW rO (fun _ _ => g5) hPo hk
        refine lv_pop hx hb dL_law_688 rfl ?_
        refine lv_aload_n hx hb dL_law_689 rfl (lv_at hl 2 rfl) ?_
        refine lv_aload_n hx hb dL_law_690 rfl (lv_at hl 0 rfl) ?_
        refine lv_iload hx hb dL_law_691 (lv_at hl 4 rfl) ?_
        refine lv_iconst (v := 1) hx hb dL_law_693 (by decide) ?_
        refine lv_iadd hx hb dL_law_694 ?_
        obtain ⟨hc, h⟩ := h
        refine va_sld hx hb hX hbl hbA hS hc dL_law_695 ?_
        refine kWi (rnV C.one (ct_X6_until l D cy Am hapM h) yv_X6_until wq_1233 ⟨rfl, rfl⟩ ⟨Nat.le_of_ble_eq_true rfl, Nat.le_of_ble_eq_true rfl⟩ ⟨hcR.1, hcR.2⟩ (vM_model C.one hPm) hPm hl.1 rfl rfl (Nat.le_of_ble_eq_true rfl) dL_law_696) hS g9 (fun r696 τ696 ν696 H locs h hPm hk hS => ?_)
        have hPa := keepW rS g2 hPa hk
        have hPb := keepW rS g3 hPb hk
        have hPx := keepW (rX (x0 := x0) (Aa := Aa) (Ab := Ab)) (fun _ _ => g4) hPx hk
        have hPo := keepW rO (fun _ _ => g6) hPo hk
        refine lv_pop hx hb dL_law_699 rfl ?_
        refine lv_goto (tgt := 965) hx hb dL_law_700 (by decide) ?_
        exact wk_L_law_965 C hlt G hE hcR hc1 hk23 h hPa hPb hPx hPm hPo hS (lv_sub hl [0, 1, 2, 3, 4] rfl)
      · have h := h.2.2.2.2.2.2.2.2.2.2.2.2.2.2.2.2.2.2.2.2.1 (Int32.toInt_inj.mp (by rw [hr]; rfl))
        refine lv_tableIn (off := 663) (tgt := 703) hx hb dL_law_40 (by omega) (by omega) (by rw [hr]; rfl) (by decide) ?_
        refine lv_aload_n hx hb dL_law_703 rfl (lv_at hl 1 rfl) ?_
        refine kXi (rnV C.one (ct_X5_after l D cy x0 Aa Ab hap h) yv_X5_after wq_742 ⟨rfl, rfl⟩ ⟨Nat.le_of_ble_eq_true rfl, Nat.le_of_ble_eq_true rfl⟩ ⟨hcR.1, hcR.2⟩ (vX C.one hPx) ⟨hPa, hPb, hPx⟩ hl.1 rfl rfl (Nat.le_of_ble_eq_true rfl) dL_law_704) hS g8 (fun r704 σa704 μa704 σb704 μb704 H locs h hPa hPb hPx hk hS => ?_)
        have hPm := keepW rM g1 hPm hk
        have hPo := keepW rO (fun _ _ => g5) hPo hk
        refine lv_pop hx hb dL_law_707 rfl ?_
        refine lv_aload_n hx hb dL_law_708 rfl (lv_at hl 2 rfl) ?_
        refine kWi (rnV C.one (ct_X6_after l D cy Am hapM h) yv_X6_after wq_1237 ⟨rfl, rfl⟩ ⟨Nat.le_of_ble_eq_true rfl, Nat.le_of_ble_eq_true rfl⟩ ⟨hcR.1, hcR.2⟩ (vM_model C.one hPm) hPm hl.1 rfl rfl (Nat.le_of_ble_eq_true rfl) dL_law_709) hS g9 (fun r709 τ709 ν709 H locs h hPm hk hS => ?_)
        have hPa := keepW rS g2 hPa hk
        have hPb := keepW rS g3 hPb hk
        have hPx := keepW (rX (x0 := x0) (Aa := Aa) (Ab := Ab)) (fun _ _ => g4) hPx hk
        have hPo := keepW rO (fun _ _ => g6) hPo hk
        refine lv_pop hx hb dL_law_712 rfl ?_
        refine lv_goto (tgt := 965) hx hb dL_law_713 (by decide) ?_
        exact wk_L_law_965 C hlt G hE hcR hc1 hk23 h hPa hPb hPx hPm hPo hS (lv_sub hl [0, 1, 2, 3, 4] rfl)
      · have h := h.2.2.2.2.2.2.2.2.2.2.2.2.2.2.2.2.2.2.2.2.2.1 (Int32.toInt_inj.mp (by rw [hr]; rfl))
        refine lv_tableIn (off := 676) (tgt := 716) hx hb dL_law_40 (by omega) (by omega) (by rw [hr]; rfl) (by decide) ?_
        refine lv_aload_n hx hb dL_law_716 rfl (lv_at hl 1 rfl) ?_
        refine lv_aload_n hx hb dL_law_717 rfl (lv_at hl 0 rfl) ?_
        refine lv_iload hx hb dL_law_718 (lv_at hl 4 rfl) ?_
        refine lv_iconst (v := 1) hx hb dL_law_720 (by decide) ?_
        refine lv_iadd hx hb dL_law_721 ?_
        obtain ⟨hc, h⟩ := h
        refine va_sld hx hb hX hbl hbA hS hc dL_law_722 ?_
        refine kXi (rnV C.one (ct_X5_costs l D cy x0 Aa Ab hap h) yv_X5_costs wq_747 ⟨rfl, rfl⟩ ⟨Nat.le_of_ble_eq_true rfl, Nat.le_of_ble_eq_true rfl⟩ ⟨hcR.1, hcR.2⟩ (vX C.one hPx) ⟨hPa, hPb, hPx⟩ hl.1 rfl rfl (Nat.le_of_ble_eq_true rfl) dL_law_723) hS g8 (fun r723 σa723 μa723 σb723 μb723 H locs h hPa hPb hPx hk hS => ?_)
        have hPm := keepW rM g1 hPm hk
        have hPo := keepW rO (fun _ _ => g5) hPo hk
        refine lv_pop hx hb dL_law_726 rfl ?_
        refine lv_aload_n hx hb dL_law_727 rfl (lv_at hl 2 rfl) ?_
        refine lv_aload_n hx hb dL_law_728 rfl (lv_at hl 0 rfl) ?_
        refine lv_iload hx hb dL_law_729 (lv_at hl 4 rfl) ?_
        refine lv_iconst (v := 1) hx hb dL_law_731 (by decide) ?_
        refine lv_iadd hx hb dL_law_732 ?_
        obtain ⟨hc, h⟩ := h
        refine va_sld hx hb hX hbl hbA hS hc dL_law_733 ?_
        refine kWi (rnV C.one (ct_X6_costs l D cy Am hapM h) yv_X6_costs wq_1241 ⟨rfl, rfl⟩ ⟨Nat.le_of_ble_eq_true rfl, Nat.le_of_ble_eq_true rfl⟩ ⟨hcR.1, hcR.2⟩ (vM_model C.one hPm) hPm hl.1 rfl rfl (Nat.le_of_ble_eq_true rfl) dL_law_734) hS g9 (fun r734 τ734 ν734 H locs h hPm hk hS => ?_)
        have hPa := keepW rS g2 hPa hk
        have hPb := keepW rS g3 hPb hk
        have hPx := keepW (rX (x0 := x0) (Aa := Aa) (Ab := Ab)) (fun _ _ => g4) hPx hk
        have hPo := keepW rO (fun _ _ => g6) hPo hk
        refine lv_pop hx hb dL_law_737 rfl ?_
        refine lv_goto (tgt := 965) hx hb dL_law_738 (by decide) ?_
        exact wk_L_law_965 C hlt G hE hcR hc1 hk23 h hPa hPb hPx hPm hPo hS (lv_sub hl [0, 1, 2, 3, 4] rfl)
      · have h := h.2.2.2.2.2.2.2.2.2.2.2.2.2.2.2.2.2.2.2.2.2.2.1 (Int32.toInt_inj.mp (by rw [hr]; rfl))
        refine lv_tableIn (off := 701) (tgt := 741) hx hb dL_law_40 (by omega) (by omega) (by rw [hr]; rfl) (by decide) ?_
        refine lv_aload_n hx hb dL_law_741 rfl (lv_at hl 1 rfl) ?_
        refine lv_aload_n hx hb dL_law_742 rfl (lv_at hl 0 rfl) ?_
        refine lv_iload hx hb dL_law_743 (lv_at hl 4 rfl) ?_
        refine lv_iconst (v := 1) hx hb dL_law_745 (by decide) ?_
        refine lv_iadd hx hb dL_law_746 ?_
        obtain ⟨hc, h⟩ := h
        refine va_sld hx hb hX hbl hbA hS hc dL_law_747 ?_
        refine lv_aload_n hx hb dL_law_748 rfl (lv_at hl 0 rfl) ?_
        refine lv_iload hx hb dL_law_749 (lv_at hl 4 rfl) ?_
        refine lv_iconst (v := 2) hx hb dL_law_751 (by decide) ?_
        refine lv_iadd hx hb dL_law_752 ?_
        obtain ⟨hc, h⟩ := h
        refine va_sld hx hb hX hbl hbA hS hc dL_law_753 ?_
        refine lv_aload_n hx hb dL_law_754 rfl (lv_at hl 0 rfl) ?_
        refine lv_iload hx hb dL_law_755 (lv_at hl 4 rfl) ?_
        refine lv_iconst (v := 3) hx hb dL_law_757 (by decide) ?_
        refine lv_iadd hx hb dL_law_758 ?_
        obtain ⟨hc, h⟩ := h
        refine va_sld hx hb hX hbl hbA hS hc dL_law_759 ?_
        refine lv_aload_n hx hb dL_law_760 rfl (lv_at hl 0 rfl) ?_
        refine lv_iload hx hb dL_law_761 (lv_at hl 4 rfl) ?_
        refine lv_iconst (v := 4) hx hb dL_law_763 (by decide) ?_
        refine lv_iadd hx hb dL_law_764 ?_
        obtain ⟨hc, h⟩ := h
        refine va_sld hx hb hX hbl hbA hS hc dL_law_765 ?_
        refine lv_aload_n hx hb dL_law_766 rfl (lv_at hl 0 rfl) ?_
        refine lv_iload hx hb dL_law_767 (lv_at hl 4 rfl) ?_
        refine lv_iconst (v := 5) hx hb dL_law_769 (by decide) ?_
        refine lv_iadd hx hb dL_law_770 ?_
        obtain ⟨hc, h⟩ := h
        refine va_sld hx hb hX hbl hbA hS hc dL_law_771 ?_
        refine lv_aload_n hx hb dL_law_772 rfl (lv_at hl 0 rfl) ?_
        refine lv_iload hx hb dL_law_773 (lv_at hl 4 rfl) ?_
        refine lv_bipush (v := 6) hx hb dL_law_775 (by decide) ?_
        refine lv_iadd hx hb dL_law_777 ?_
        obtain ⟨hc, h⟩ := h
        refine va_sld hx hb hX hbl hbA hS hc dL_law_778 ?_
        refine kXl (rnV C.one (ct_X5_torn l D cy x0 Aa Ab hap h) yv_X5_torn wq_763 ⟨rfl, rfl⟩ ⟨Nat.le_of_ble_eq_true rfl, Nat.le_of_ble_eq_true rfl⟩ ⟨hcR.1, hcR.2⟩ (vX C.one hPx) ⟨hPa, hPb, hPx⟩ hl.1 rfl rfl (Nat.le_of_ble_eq_true rfl) dL_law_779) hS g8 (fun r779 σa779 μa779 σb779 μb779 H locs h hPa hPb hPx hk hS => ?_)
        have hPm := keepW rM g1 hPm hk
        have hPo := keepW rO (fun _ _ => g5) hPo hk
        refine lv_pop2_2 hx hb dL_law_782 rfl ?_
        refine lv_aload_n hx hb dL_law_783 rfl (lv_at hl 2 rfl) ?_
        refine lv_aload_n hx hb dL_law_784 rfl (lv_at hl 0 rfl) ?_
        refine lv_iload hx hb dL_law_785 (lv_at hl 4 rfl) ?_
        refine lv_iconst (v := 1) hx hb dL_law_787 (by decide) ?_
        refine lv_iadd hx hb dL_law_788 ?_
        obtain ⟨hc, h⟩ := h
        refine va_sld hx hb hX hbl hbA hS hc dL_law_789 ?_
        refine lv_aload_n hx hb dL_law_790 rfl (lv_at hl 0 rfl) ?_
        refine lv_iload hx hb dL_law_791 (lv_at hl 4 rfl) ?_
        refine lv_iconst (v := 2) hx hb dL_law_793 (by decide) ?_
        refine lv_iadd hx hb dL_law_794 ?_
        obtain ⟨hc, h⟩ := h
        refine va_sld hx hb hX hbl hbA hS hc dL_law_795 ?_
        refine lv_aload_n hx hb dL_law_796 rfl (lv_at hl 0 rfl) ?_
        refine lv_iload hx hb dL_law_797 (lv_at hl 4 rfl) ?_
        refine lv_iconst (v := 3) hx hb dL_law_799 (by decide) ?_
        refine lv_iadd hx hb dL_law_800 ?_
        obtain ⟨hc, h⟩ := h
        refine va_sld hx hb hX hbl hbA hS hc dL_law_801 ?_
        refine lv_aload_n hx hb dL_law_802 rfl (lv_at hl 0 rfl) ?_
        refine lv_iload hx hb dL_law_803 (lv_at hl 4 rfl) ?_
        refine lv_iconst (v := 4) hx hb dL_law_805 (by decide) ?_
        refine lv_iadd hx hb dL_law_806 ?_
        obtain ⟨hc, h⟩ := h
        refine va_sld hx hb hX hbl hbA hS hc dL_law_807 ?_
        refine lv_aload_n hx hb dL_law_808 rfl (lv_at hl 0 rfl) ?_
        refine lv_iload hx hb dL_law_809 (lv_at hl 4 rfl) ?_
        refine lv_iconst (v := 5) hx hb dL_law_811 (by decide) ?_
        refine lv_iadd hx hb dL_law_812 ?_
        obtain ⟨hc, h⟩ := h
        refine va_sld hx hb hX hbl hbA hS hc dL_law_813 ?_
        refine lv_aload_n hx hb dL_law_814 rfl (lv_at hl 0 rfl) ?_
        refine lv_iload hx hb dL_law_815 (lv_at hl 4 rfl) ?_
        refine lv_bipush (v := 6) hx hb dL_law_817 (by decide) ?_
        refine lv_iadd hx hb dL_law_819 ?_
        obtain ⟨hc, h⟩ := h
        refine va_sld hx hb hX hbl hbA hS hc dL_law_820 ?_
        refine kWl (rnV C.one (ct_X6_torn l D cy Am hapM h) yv_X6_torn wq_1257 ⟨rfl, rfl⟩ ⟨Nat.le_of_ble_eq_true rfl, Nat.le_of_ble_eq_true rfl⟩ ⟨hcR.1, hcR.2⟩ (vM_model C.one hPm) hPm hl.1 rfl rfl (Nat.le_of_ble_eq_true rfl) dL_law_821) hS g9 (fun r821 τ821 ν821 H locs h hPm hk hS => ?_)
        have hPa := keepW rS g2 hPa hk
        have hPb := keepW rS g3 hPb hk
        have hPx := keepW (rX (x0 := x0) (Aa := Aa) (Ab := Ab)) (fun _ _ => g4) hPx hk
        have hPo := keepW rO (fun _ _ => g6) hPo hk
        refine lv_pop2_2 hx hb dL_law_824 rfl ?_
        refine lv_goto (tgt := 965) hx hb dL_law_825 (by decide) ?_
        exact wk_L_law_965 C hlt G hE hcR hc1 hk23 h hPa hPb hPx hPm hPo hS (lv_sub hl [0, 1, 2, 3, 4] rfl)
      · have h := h.2.2.2.2.2.2.2.2.2.2.2.2.2.2.2.2.2.2.2.2.2.2.2.1 (Int32.toInt_inj.mp (by rw [hr]; rfl))
        refine lv_tableIn (off := 788) (tgt := 828) hx hb dL_law_40 (by omega) (by omega) (by rw [hr]; rfl) (by decide) ?_
        refine lv_aload_n hx hb dL_law_828 rfl (lv_at hl 1 rfl) ?_
        refine lv_aload_n hx hb dL_law_829 rfl (lv_at hl 0 rfl) ?_
        refine lv_iload hx hb dL_law_830 (lv_at hl 4 rfl) ?_
        refine lv_iconst (v := 1) hx hb dL_law_832 (by decide) ?_
        refine lv_iadd hx hb dL_law_833 ?_
        obtain ⟨hc, h⟩ := h
        refine va_sld hx hb hX hbl hbA hS hc dL_law_834 ?_
        refine lv_aload_n hx hb dL_law_835 rfl (lv_at hl 0 rfl) ?_
        refine lv_iload hx hb dL_law_836 (lv_at hl 4 rfl) ?_
        refine lv_iconst (v := 2) hx hb dL_law_838 (by decide) ?_
        refine lv_iadd hx hb dL_law_839 ?_
        obtain ⟨hc, h⟩ := h
        refine va_sld hx hb hX hbl hbA hS hc dL_law_840 ?_
        refine kXl (rnV C.one (ct_X5_history l D cy x0 Aa Ab hap h) yv_X5_history wq_778 ⟨rfl, rfl⟩ ⟨Nat.le_of_ble_eq_true rfl, Nat.le_of_ble_eq_true rfl⟩ ⟨hcR.1, hcR.2⟩ (vX C.one hPx) ⟨hPa, hPb, hPx⟩ hl.1 rfl rfl (Nat.le_of_ble_eq_true rfl) dL_law_841) hS g8 (fun r841 σa841 μa841 σb841 μb841 H locs h hPa hPb hPx hk hS => ?_)
        have hPm := keepW rM g1 hPm hk
        have hPo := keepW rO (fun _ _ => g5) hPo hk
        refine lv_pop2_2 hx hb dL_law_844 rfl ?_
        refine lv_aload_n hx hb dL_law_845 rfl (lv_at hl 2 rfl) ?_
        refine lv_aload_n hx hb dL_law_846 rfl (lv_at hl 0 rfl) ?_
        refine lv_iload hx hb dL_law_847 (lv_at hl 4 rfl) ?_
        refine lv_iconst (v := 1) hx hb dL_law_849 (by decide) ?_
        refine lv_iadd hx hb dL_law_850 ?_
        obtain ⟨hc, h⟩ := h
        refine va_sld hx hb hX hbl hbA hS hc dL_law_851 ?_
        refine lv_aload_n hx hb dL_law_852 rfl (lv_at hl 0 rfl) ?_
        refine lv_iload hx hb dL_law_853 (lv_at hl 4 rfl) ?_
        refine lv_iconst (v := 2) hx hb dL_law_855 (by decide) ?_
        refine lv_iadd hx hb dL_law_856 ?_
        obtain ⟨hc, h⟩ := h
        refine va_sld hx hb hX hbl hbA hS hc dL_law_857 ?_
        refine kWl (rnV C.one (ct_X6_history l D cy Am hapM h) yv_X6_history wq_1261 ⟨rfl, rfl⟩ ⟨Nat.le_of_ble_eq_true rfl, Nat.le_of_ble_eq_true rfl⟩ ⟨hcR.1, hcR.2⟩ (vM_model C.one hPm) hPm hl.1 rfl rfl (Nat.le_of_ble_eq_true rfl) dL_law_858) hS g9 (fun r858 τ858 ν858 H locs h hPm hk hS => ?_)
        have hPa := keepW rS g2 hPa hk
        have hPb := keepW rS g3 hPb hk
        have hPx := keepW (rX (x0 := x0) (Aa := Aa) (Ab := Ab)) (fun _ _ => g4) hPx hk
        have hPo := keepW rO (fun _ _ => g6) hPo hk
        refine lv_pop2_2 hx hb dL_law_861 rfl ?_
        refine lv_goto (tgt := 965) hx hb dL_law_862 (by decide) ?_
        exact wk_L_law_965 C hlt G hE hcR hc1 hk23 h hPa hPb hPx hPm hPo hS (lv_sub hl [0, 1, 2, 3, 4] rfl)
      · have h := h.2.2.2.2.2.2.2.2.2.2.2.2.2.2.2.2.2.2.2.2.2.2.2.2.1 (Int32.toInt_inj.mp (by rw [hr]; rfl))
        refine lv_tableIn (off := 825) (tgt := 865) hx hb dL_law_40 (by omega) (by omega) (by rw [hr]; rfl) (by decide) ?_
        refine lv_aload_n hx hb dL_law_865 rfl (lv_at hl 1 rfl) ?_
        refine lv_aload_n hx hb dL_law_866 rfl (lv_at hl 0 rfl) ?_
        refine lv_iload hx hb dL_law_867 (lv_at hl 4 rfl) ?_
        refine lv_iconst (v := 1) hx hb dL_law_869 (by decide) ?_
        refine lv_iadd hx hb dL_law_870 ?_
        obtain ⟨hc, h⟩ := h
        refine va_sld hx hb hX hbl hbA hS hc dL_law_871 ?_
        refine lv_aload_n hx hb dL_law_872 rfl (lv_at hl 0 rfl) ?_
        refine lv_iload hx hb dL_law_873 (lv_at hl 4 rfl) ?_
        refine lv_iconst (v := 2) hx hb dL_law_875 (by decide) ?_
        refine lv_iadd hx hb dL_law_876 ?_
        obtain ⟨hc, h⟩ := h
        refine va_sld hx hb hX hbl hbA hS hc dL_law_877 ?_
        refine kXi (rnV C.one (ct_X5_wears l D cy x0 Aa Ab hap h) yv_X5_wears wq_795 ⟨rfl, rfl⟩ ⟨Nat.le_of_ble_eq_true rfl, Nat.le_of_ble_eq_true rfl⟩ ⟨hcR.1, hcR.2⟩ (vX C.one hPx) ⟨hPa, hPb, hPx⟩ hl.1 rfl rfl (Nat.le_of_ble_eq_true rfl) dL_law_878) hS g8 (fun r878 σa878 μa878 σb878 μb878 H locs h hPa hPb hPx hk hS => ?_)
        have hPm := keepW rM g1 hPm hk
        have hPo := keepW rO (fun _ _ => g5) hPo hk
        refine lv_pop hx hb dL_law_881 rfl ?_
        refine lv_aload_n hx hb dL_law_882 rfl (lv_at hl 2 rfl) ?_
        refine lv_aload_n hx hb dL_law_883 rfl (lv_at hl 0 rfl) ?_
        refine lv_iload hx hb dL_law_884 (lv_at hl 4 rfl) ?_
        refine lv_iconst (v := 1) hx hb dL_law_886 (by decide) ?_
        refine lv_iadd hx hb dL_law_887 ?_
        obtain ⟨hc, h⟩ := h
        refine va_sld hx hb hX hbl hbA hS hc dL_law_888 ?_
        refine lv_aload_n hx hb dL_law_889 rfl (lv_at hl 0 rfl) ?_
        refine lv_iload hx hb dL_law_890 (lv_at hl 4 rfl) ?_
        refine lv_iconst (v := 2) hx hb dL_law_892 (by decide) ?_
        refine lv_iadd hx hb dL_law_893 ?_
        obtain ⟨hc, h⟩ := h
        refine va_sld hx hb hX hbl hbA hS hc dL_law_894 ?_
        refine kWi (rnV C.one (ct_X6_wears l D cy Am hapM h) yv_X6_wears wq_1270 ⟨rfl, rfl⟩ ⟨Nat.le_of_ble_eq_true rfl, Nat.le_of_ble_eq_true rfl⟩ ⟨hcR.1, hcR.2⟩ (vM_model C.one hPm) hPm hl.1 rfl rfl (Nat.le_of_ble_eq_true rfl) dL_law_895) hS g9 (fun r895 τ895 ν895 H locs h hPm hk hS => ?_)
        have hPa := keepW rS g2 hPa hk
        have hPb := keepW rS g3 hPb hk
        have hPx := keepW (rX (x0 := x0) (Aa := Aa) (Ab := Ab)) (fun _ _ => g4) hPx hk
        have hPo := keepW rO (fun _ _ => g6) hPo hk
        refine lv_pop hx hb dL_law_898 rfl ?_
        refine lv_goto (tgt := 965) hx hb dL_law_899 (by decide) ?_
        exact wk_L_law_965 C hlt G hE hcR hc1 hk23 h hPa hPb hPx hPm hPo hS (lv_sub hl [0, 1, 2, 3, 4] rfl)
      · have h := h.2.2.2.2.2.2.2.2.2.2.2.2.2.2.2.2.2.2.2.2.2.2.2.2.2.1 (Int32.toInt_inj.mp (by rw [hr]; rfl))
        refine lv_tableIn (off := 862) (tgt := 902) hx hb dL_law_40 (by omega) (by omega) (by rw [hr]; rfl) (by decide) ?_
        refine lv_aload_n hx hb dL_law_902 rfl (lv_at hl 1 rfl) ?_
        refine lv_aload_n hx hb dL_law_903 rfl (lv_at hl 0 rfl) ?_
        refine lv_iload hx hb dL_law_904 (lv_at hl 4 rfl) ?_
        refine lv_iconst (v := 1) hx hb dL_law_906 (by decide) ?_
        refine lv_iadd hx hb dL_law_907 ?_
        obtain ⟨hc, h⟩ := h
        refine va_sld hx hb hX hbl hbA hS hc dL_law_908 ?_
        refine kXi (rnV C.one (ct_X5_wear l D cy x0 Aa Ab hap h) yv_X5_wear wq_816 ⟨rfl, rfl⟩ ⟨Nat.le_of_ble_eq_true rfl, Nat.le_of_ble_eq_true rfl⟩ ⟨hcR.1, hcR.2⟩ (vX C.one hPx) ⟨hPa, hPb, hPx⟩ hl.1 rfl rfl (Nat.le_of_ble_eq_true rfl) dL_law_909) hS g8 (fun r909 σa909 μa909 σb909 μb909 H locs h hPa hPb hPx hk hS => ?_)
        have hPm := keepW rM g1 hPm hk
        have hPo := keepW rO (fun _ _ => g5) hPo hk
        refine lv_pop hx hb dL_law_912 rfl ?_
        refine lv_aload_n hx hb dL_law_913 rfl (lv_at hl 2 rfl) ?_
        refine lv_aload_n hx hb dL_law_914 rfl (lv_at hl 0 rfl) ?_
        refine lv_iload hx hb dL_law_915 (lv_at hl 4 rfl) ?_
        refine lv_iconst (v := 1) hx hb dL_law_917 (by decide) ?_
        refine lv_iadd hx hb dL_law_918 ?_
        obtain ⟨hc, h⟩ := h
        refine va_sld hx hb hX hbl hbA hS hc dL_law_919 ?_
        refine kWi (rnV C.one (ct_X6_wear l D cy Am hapM h) yv_X6_wear wq_1278 ⟨rfl, rfl⟩ ⟨Nat.le_of_ble_eq_true rfl, Nat.le_of_ble_eq_true rfl⟩ ⟨hcR.1, hcR.2⟩ (vM_model C.one hPm) hPm hl.1 rfl rfl (Nat.le_of_ble_eq_true rfl) dL_law_920) hS g9 (fun r920 τ920 ν920 H locs h hPm hk hS => ?_)
        have hPa := keepW rS g2 hPa hk
        have hPb := keepW rS g3 hPb hk
        have hPx := keepW (rX (x0 := x0) (Aa := Aa) (Ab := Ab)) (fun _ _ => g4) hPx hk
        have hPo := keepW rO (fun _ _ => g6) hPo hk
        refine lv_pop hx hb dL_law_923 rfl ?_
        refine lv_goto (tgt := 965) hx hb dL_law_924 (by decide) ?_
        exact wk_L_law_965 C hlt G hE hcR hc1 hk23 h hPa hPb hPx hPm hPo hS (lv_sub hl [0, 1, 2, 3, 4] rfl)
      · have h := h.2.2.2.2.2.2.2.2.2.2.2.2.2.2.2.2.2.2.2.2.2.2.2.2.2.2.1 (Int32.toInt_inj.mp (by rw [hr]; rfl))
        refine lv_tableIn (off := 887) (tgt := 927) hx hb dL_law_40 (by omega) (by omega) (by rw [hr]; rfl) (by decide) ?_
        refine lv_aload_n hx hb dL_law_927 rfl (lv_at hl 1 rfl) ?_
        refine kXl (rnV C.one (ct_X5_tags l D cy x0 Aa Ab hap h) yv_X5_tags wq_831 ⟨rfl, rfl⟩ ⟨Nat.le_of_ble_eq_true rfl, Nat.le_of_ble_eq_true rfl⟩ ⟨hcR.1, hcR.2⟩ (vX C.one hPx) ⟨hPa, hPb, hPx⟩ hl.1 rfl rfl (Nat.le_of_ble_eq_true rfl) dL_law_928) hS g8 (fun r928 σa928 μa928 σb928 μb928 H locs h hPa hPb hPx hk hS => ?_)
        have hPm := keepW rM g1 hPm hk
        have hPo := keepW rO (fun _ _ => g5) hPo hk
        refine lv_pop2_2 hx hb dL_law_931 rfl ?_
        refine lv_aload_n hx hb dL_law_932 rfl (lv_at hl 2 rfl) ?_
        refine kWl (rnV C.one (ct_X6_tags l D cy Am hapM h) yv_X6_tags wq_1296 ⟨rfl, rfl⟩ ⟨Nat.le_of_ble_eq_true rfl, Nat.le_of_ble_eq_true rfl⟩ ⟨hcR.1, hcR.2⟩ (vM_model C.one hPm) hPm hl.1 rfl rfl (Nat.le_of_ble_eq_true rfl) dL_law_933) hS g9 (fun r933 τ933 ν933 H locs h hPm hk hS => ?_)
        have hPa := keepW rS g2 hPa hk
        have hPb := keepW rS g3 hPb hk
        have hPx := keepW (rX (x0 := x0) (Aa := Aa) (Ab := Ab)) (fun _ _ => g4) hPx hk
        have hPo := keepW rO (fun _ _ => g6) hPo hk
        refine lv_pop2_2 hx hb dL_law_936 rfl ?_
        refine lv_goto (tgt := 965) hx hb dL_law_937 (by decide) ?_
        exact wk_L_law_965 C hlt G hE hcR hc1 hk23 h hPa hPb hPx hPm hPo hS (lv_sub hl [0, 1, 2, 3, 4] rfl)
      · have h := h.2.2.2.2.2.2.2.2.2.2.2.2.2.2.2.2.2.2.2.2.2.2.2.2.2.2.2 (Int32.toInt_inj.mp (by rw [hr]; rfl))
        refine lv_tableIn (off := 900) (tgt := 940) hx hb dL_law_40 (by omega) (by omega) (by rw [hr]; rfl) (by decide) ?_
        refine lv_aload_n hx hb dL_law_940 rfl (lv_at hl 1 rfl) ?_
        refine lv_aload_n hx hb dL_law_941 rfl (lv_at hl 0 rfl) ?_
        refine lv_iload hx hb dL_law_942 (lv_at hl 4 rfl) ?_
        refine lv_iconst (v := 1) hx hb dL_law_944 (by decide) ?_
        refine lv_iadd hx hb dL_law_945 ?_
        obtain ⟨hc, h⟩ := h
        refine va_sld hx hb hX hbl hbA hS hc dL_law_946 ?_
        refine kXi (rnV C.one (ct_X5_count l D cy x0 Aa Ab hap h) yv_X5_count wq_836 ⟨rfl, rfl⟩ ⟨Nat.le_of_ble_eq_true rfl, Nat.le_of_ble_eq_true rfl⟩ ⟨hcR.1, hcR.2⟩ (vX C.one hPx) ⟨hPa, hPb, hPx⟩ hl.1 rfl rfl (Nat.le_of_ble_eq_true rfl) dL_law_947) hS g8 (fun r947 σa947 μa947 σb947 μb947 H locs h hPa hPb hPx hk hS => ?_)
        have hPm := keepW rM g1 hPm hk
        have hPo := keepW rO (fun _ _ => g5) hPo hk
        refine lv_pop hx hb dL_law_950 rfl ?_
        refine lv_aload_n hx hb dL_law_951 rfl (lv_at hl 2 rfl) ?_
        refine lv_aload_n hx hb dL_law_952 rfl (lv_at hl 0 rfl) ?_
        refine lv_iload hx hb dL_law_953 (lv_at hl 4 rfl) ?_
        refine lv_iconst (v := 1) hx hb dL_law_955 (by decide) ?_
        refine lv_iadd hx hb dL_law_956 ?_
        obtain ⟨hc, h⟩ := h
        refine va_sld hx hb hX hbl hbA hS hc dL_law_957 ?_
        refine kWi (rnV C.one (ct_X6_count l D cy Am hapM h) yv_X6_count wq_1300 ⟨rfl, rfl⟩ ⟨Nat.le_of_ble_eq_true rfl, Nat.le_of_ble_eq_true rfl⟩ ⟨hcR.1, hcR.2⟩ (vM_model C.one hPm) hPm hl.1 rfl rfl (Nat.le_of_ble_eq_true rfl) dL_law_958) hS g9 (fun r958 τ958 ν958 H locs h hPm hk hS => ?_)
        have hPa := keepW rS g2 hPa hk
        have hPb := keepW rS g3 hPb hk
        have hPx := keepW (rX (x0 := x0) (Aa := Aa) (Ab := Ab)) (fun _ _ => g4) hPx hk
        have hPo := keepW rO (fun _ _ => g6) hPo hk
        refine lv_pop hx hb dL_law_961 rfl ?_
        refine lv_goto (tgt := 965) hx hb dL_law_962 (by decide) ?_
        exact wk_L_law_965 C hlt G hE hcR hc1 hk23 h hPa hPb hPx hPm hPo hS (lv_sub hl [0, 1, 2, 3, 4] rfl)
