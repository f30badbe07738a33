/-! the static row of factorials -/
def zz_fac (n : Nat) : Int64 := match n with
  | 0 => 1
  | 1 => 1
  | 2 => 2
  | 3 => 6
  | 4 => 24
  | 5 => 120
  | 6 => 720
  | 7 => 5040
  | _ => 40320
def zz_St (A : Nat → Prop) (U : State) : Prop := ∃ t : Nat, va_Z "WornLetters" "FACTORIALS" "[J" (.ref t) A U U.heap ∧ va_T .long t 9 (fun j => .long (zz_fac j)) A U U.heap
theorem zz_St_at {A B : Nat → Prop} {s U : State} {H : Heap} {locs : List Loc} (h : zz_St A s) (hS : va_S A s.heap H locs) (hU : U.heap = H) (hvm : s.vm.Alike U.vm) (hBA : ∀ q, B q → A q) : zz_St B U := by
  obtain ⟨t, h1, h2⟩ := h
  have hk : ∀ q : Nat, q < s.heap.size → ¬ A q → U.heap[q]? = s.heap[q]? := fun q a b => by rw [hU]; exact hS.2.1 q a b
  exact ⟨t, ((h1.kept hk).narrow hBA).moved hvm, ((h2.kept hk).narrow hBA).moved hvm⟩
def zz_PreF (D : va_G) (ca : Nat → ClassId) (ds : List zz_D) (av : List Value) (a : Nat → Nat) (I : zz_I) (L : zz_L) (sz : Nat) : Array Value → State → Prop := fun v U => zz_Pre D ca ds av a I L sz v U ∧ zz_St (zz_A ca ds a I L sz) U
theorem zk_fac_l : Cond.fieldLink RX7 269 "WornLetters" "FACTORIALS" "[J" ∈ lw_tbl := by decide +kernel
section ZF
variable {p : Program} {l : Launch} {e : Env} {R : Room} {s : State} {m : MethodId} {args : Array Value} {below : List Frame} {meth : Method} {c : Code} {H : Heap} {locs : List Loc} {cells slots : Nat} {Q : State → Prop}
variable {cc : ByteArray} {pc : Nat} {ls : Array Slot} {rest : List Value} {D : va_G} {A : Nat → Prop} {H0 : Heap} {ca : Nat → ClassId} {ds : List zz_D} {a : Nat → Nat} {I : zz_I} {L : zz_L}
theorem zz_startF {y : MethodName} {bytes : ByteArray} {maxL : Nat} {ret : Option FieldType} {rm : Room} {av : List Value} {sz : Nat} {Qc : Array Value → State → Outcome → State → Prop} {mc ms : Nat} (hy : plainName y.cls = true) (hlen : (lg_sl av).length ≤ maxL)
    (body : ∀ (p : Program) (e : Env) (s : State) (m : MethodId) (below : List Frame) (meth : Method) (c : Code), zz_X p s m meth c bytes y.cls ret maxL → s.heap.size = sz → (∀ q, s.heap.size ≤ q → zz_A ca ds a I L sz q) → zz_St (zz_A ca ds a I L sz) s → zz_Go p l e rm s m av.toArray below meth c 0 0 (MQ below Qc av.toArray s mc ms (zz_A ca ds a I L sz)) D ca ds (zz_A ca ds a I L sz) maxL 0 a [] (lv_args 0 av) I L) :
    Met l y [.code y bytes maxL ret] rm (zz_PreF D ca ds av a I L sz) Qc mc ms (zz_A ca ds a I L sz) := by
  refine Met.ofW (cc := bytes) (maxL := maxL) (ret := ret) hy rfl ?_
  intro p e s m args below meth c s₁ B hml hv
  obtain ⟨⟨rfl, hsz, zw, hK, hP, hD0⟩, hF⟩ := hv
  have hX : zz_X p s m meth c bytes y.cls ret maxL := ⟨B.exec, B.bytes, hml, findClass_of_methodNamed B.named, zw, B.returns, B.notSynchronized⟩
  have hD := hD0.self (sz := sz)
  have hA : ∀ q, s.heap.size ≤ q → zz_A ca ds a I L sz q := fun q h => Or.inr (by rw [← hsz]; exact h)
  have hl := lv_entry av (n := maxL) hlen
  rw [lg_entry_eq]
  exact body p e s m below meth c hX hsz hA hF s.heap [] _ ⟨hK, hP, hD, va_S.rf⟩ hl
theorem zz_blindF {av : List Value} {sz : Nat} : FrameBlind (zz_PreF D ca ds av a I L sz) := by
  intro v U g mk q
  obtain ⟨q0, t, q1, q2⟩ := q
  exact ⟨zz_blind v U g mk q0, t, q1.moved (Vm.Alike.refl U.vm), q2.moved (Vm.Alike.refl U.vm)⟩
theorem zz_preF {av : List Value} (zw : zz_W s) (hB : zz_B D ca ds A s.heap s a I L H locs) (hA : ∀ q, s.heap.size ≤ q → A q) (hF : zz_St A s) : ∀ U : State, U.heap = H → s.WarmedH U.vm → zz_PreF D ca ds av a I L H.size av.toArray U :=
  fun U hU hW => ⟨zz_pre zw hB U hU hW, zz_St_at hF hB.2.2.2 hU hW.alike (zz_freeA hB hA)⟩
theorem zz_runSF (hx : p.tables.exec = Jvm.exec) (hb : c.code = cc) {nL : Nat} (hml : c.maxLocals = nL) {own : String} (hown : s.vm.findClass own = some m.cls) (zw : zz_W s) (hB : zz_B D ca ds A s.heap s a I L H locs) (hA : ∀ q, s.heap.size ≤ q → A q) (hF : zz_St A s) {index maxL n mc ms : Nat} {y : MethodName} {bytes : ByteArray} {ret : Option FieldType} {rm : Room} {As st : List Value} {Qc : Array Value → State → Outcome → State → Prop} {free : Addr → Prop}
    (M : zz_MS own index y bytes maxL ret n) (hM : Met l y [.code y bytes maxL ret] rm (zz_PreF D ca ds As a I L H.size) Qc mc ms free) (hn : As.length = n) (hls : ls.size = nL) (hst : st = As.reverse ++ rest) (hW : (rest.map fun v => v.category).sum ≤ 8) (hrc : rm.cells = mc) (hrs : rm.slots = ms) (hR : rm.frames + 1 ≤ R.frames ∧ 8 + (maxL + 11) + rm.locals ≤ R.locals) (hdg : decode cc pc = .ok (.invokestatic index, 3)) (hf : cells + mc ≤ R.cells ∧ slots + ms ≤ R.slots) :
    va_Run p l e R s m args below meth c H locs cells slots mc ms (F0 m pc ls st) rest (Qc As.toArray) free := by
  obtain ⟨M, hi⟩ := M
  have hpre : PreS s H (zz_PreF D ca ds As a I L H.size) As := ⟨zz_blindF, zz_preF zw hB hA hF⟩
  have hS5 : CallFix p m c cc nL s args [] own := ⟨hx, hb, hml, hown, fun w h => by cases h⟩
  rcases M.2.2.1 with hl | ⟨host, hl⟩
  · exact va_runS (g := F0 m pc ls st) (n := n) hS5 hM ⟨⟨hrc, hrs, hR.1, hR.2, zz_mc_w zw M, List.mem_singleton.mpr rfl, zz_W_use zw M.1 rfl, zz_W_use zw M.2.1 rfl, M.2.2.2.1, zz_mc_n M, zz_W_use zw hl rfl⟩, zz_W_use zw hi rfl⟩ hpre rfl hn hls hst (lv_room hW) hdg hf
  · exact va_runSN (g := F0 m pc ls st) (n := n) (host := host) hS5 hM ⟨⟨⟨hrc, hrs, hR.1, hR.2, zz_mc_w zw M, List.mem_singleton.mpr rfl⟩, zz_W_use zw M.1 rfl, zz_W_use zw M.2.1 rfl, M.2.2.2.1, zz_mc_n M, zz_W_use zw hl rfl⟩, zz_W_use zw hi rfl, trivial⟩ hpre rfl hn hls hst (lv_room hW) hdg hf
theorem zz_runVF (hx : p.tables.exec = Jvm.exec) (hb : c.code = cc) {nL : Nat} (hml : c.maxLocals = nL) {own : String} (hown : s.vm.findClass own = some m.cls) (zw : zz_W s) (hB : zz_B D ca ds A s.heap s a I L H locs) (hA : ∀ q, s.heap.size ≤ q → A q) (hF : zz_St A s) {index maxL n k ci N mc ms : Nat} {T : u_T} {y : MethodName} {bytes : ByteArray} {ret : Option FieldType} {rm : Room} {As st : List Value} {fs : List (Nat ⊕ Bool)} {Qc : Array Value → State → Outcome → State → Prop} {free : Addr → Prop}
    (M : zz_MV own index y bytes maxL ret n) (hM : Met l y [.code y bytes maxL ret] rm (zz_PreF D ca ds (.ref (a k) :: As) a I L H.size) Qc mc ms free) (hd : ds[k]? = some (.inr (ci, fs))) (hc : vwCl[ci]? = some (y.cls, T, N)) (hn : As.length = n) (hls : ls.size = nL) (hst : st = As.reverse ++ .ref (a k) :: rest) (hW : (rest.map fun v => v.category).sum ≤ 8) (hrc : rm.cells = mc) (hrs : rm.slots = ms) (hR : rm.frames + 1 ≤ R.frames ∧ 8 + (maxL + 11) + rm.locals ≤ R.locals) (hdg : decode cc pc = .ok (.invokevirtual index, 3)) (hf : cells + mc ≤ R.cells ∧ slots + ms ≤ R.slots) :
    va_Run p l e R s m args below meth c H locs cells slots mc ms (F0 m pc ls st) rest (Qc (Value.ref (a k) :: As).toArray) free := by
  obtain ⟨M, hi, hse⟩ := M
  have hB' := hB
  obtain ⟨hK, hP, hD, hS⟩ := hB'
  have hrecv := va_recv hK hP (ci := ci) (q0 := k) hc (zz_get hd)
  have hpre : PreV s H y.cls (a k) (zz_PreF D ca ds (.ref (a k) :: As) a I L H.size) As := ⟨zz_blindF, hrecv, zz_preF zw hB hA hF⟩
  have hS5 : CallFix p m c cc nL s args [] own := ⟨hx, hb, hml, hown, fun w h => by cases h⟩
  rcases M.2.2.1 with hl | ⟨host, hl⟩
  · exact va_runV (g := F0 m pc ls st) (n := n) hS5 hM ⟨⟨hrc, hrs, hR.1, hR.2, zz_mc_w zw M, List.mem_singleton.mpr rfl, zz_W_use zw M.1 rfl, zz_W_use zw M.2.1 rfl, M.2.2.2.1, zz_mc_n M, zz_W_use zw hl rfl⟩, zz_W_use zw hi rfl, zz_W_use zw hse rfl⟩ hpre rfl hn hls hst (lv_room hW) hdg hf
  · exact va_runVN (g := F0 m pc ls st) (n := n) (host := host) hS5 hM ⟨⟨⟨hrc, hrs, hR.1, hR.2, zz_mc_w zw M, List.mem_singleton.mpr rfl⟩, zz_W_use zw M.1 rfl, zz_W_use zw M.2.1 rfl, M.2.2.2.1, zz_mc_n M, zz_W_use zw hl rfl⟩, zz_W_use zw hi rfl, zz_W_use zw hse rfl⟩ hpre rfl hn hls hst (lv_room hW) hdg hf
end ZF
def zp_X7_factorial (x0 : Int32) (P : Int64 → Prop) (I : zz_I) (L : zz_L) : Prop := (x0 < 0 → P (1 : Int64)) ∧ (¬ x0 < 0 → (nI 9 ≤ x0 → P (1 : Int64)) ∧ (¬ nI 9 ≤ x0 → vp_in x0 9 ∧ P (zz_fac x0.toNatClampNeg)))
set_option maxHeartbeats 4000000 in
set_option maxRecDepth 100000 in
theorem zq_X7_factorial {p : Program} {l : Launch} {e : Env} {s : State} {m : MethodId} {args : Array Value} {below : List Frame} {meth : Method} {c : Code} {D : va_G} {ca : Nat → ClassId} {A : Nat → Prop} {a : Nat → Nat} {P : Int64 → Prop} {I : zz_I} {L : zz_L} {x0 : Int32} (X : zz_X p s m meth c cX7_factorial RX7 (some .long) 1) (hF : zz_St A s) (h : zp_X7_factorial x0 P I L) : zz_Go p l e ({ frames := 0, cells := 0, slots := 0, locals := 0 } : Room) s m args below meth c 0 0 (MQ below (zz_Ql D ca zz_dC A a (fun r I9 L9 => P r ∧ I9 = I ∧ L9 = L)) args s 0 0 A) D ca zz_dC A 1 0 a [] [(0, .int x0)] I L := by
  obtain ⟨hx, hb, hml, hown, zw, hr, hlocks⟩ := id X
  obtain ⟨t0, hZ, hT⟩ := hF
  intro H locs ls hB hl
  have hS := hB.2.2.2
  unfold zp_X7_factorial at h
  refine lv_iload_n hx hb dX7_factorial_0 rfl (lv_at hl 0 rfl) ?_
  refine lv_if_lt (tgt := 20) hx hb dX7_factorial_1 (by decide) (fun c1 => ?_) (fun c1 => ?_)
  · have h := h.1 c1
    refine lv_lconst (v := (1 : Int64)) hx hb dX7_factorial_20 (by decide) ?_
    exact zz_lret hx hb hr hlocks hB ⟨h, rfl, rfl⟩ dX7_factorial_21
  · have h := h.2 c1
    refine lv_iload_n hx hb dX7_factorial_4 rfl (lv_at hl 0 rfl) ?_
    refine va_gets hx hb hZ hS hown (zz_W_use zw zk_fac_l rfl) (fun _ h9 => h9) dX7_factorial_5 ?_
    refine va_tlen (v := nI 9) hx hb hT hS rfl dX7_factorial_8 ?_
    refine lv_icmp_ge (tgt := 20) hx hb dX7_factorial_9 (by decide) (fun c9 => ?_) (fun c9 => ?_)
    · have h := h.1 c9
      refine lv_lconst (v := (1 : Int64)) hx hb dX7_factorial_20 (by decide) ?_
      exact zz_lret hx hb hr hlocks hB ⟨h, rfl, rfl⟩ dX7_factorial_21
    · obtain ⟨hi, h⟩ := h.2 c9
      refine va_gets hx hb hZ hS hown (zz_W_use zw zk_fac_l rfl) (fun _ h9 => h9) dX7_factorial_12 ?_
      refine lv_iload_n hx hb dX7_factorial_15 rfl (lv_at hl 0 rfl) ?_
      refine va_tl hx hb hT hS hi rfl dX7_factorial_16 ?_
      refine lv_goto (tgt := 21) hx hb dX7_factorial_17 (by decide) ?_
      exact zz_lret hx hb hr hlocks hB ⟨h, rfl, rfl⟩ dX7_factorial_21
theorem zc_X7_factorial (l : Launch) (D : va_G) (ca : Nat → ClassId) (a : Nat → Nat) (I : zz_I) (L : zz_L) (sz : Nat) {x0 : Int32} {P : Int64 → Prop} (h : zp_X7_factorial x0 P I L) : Met l yX7_factorial [.code yX7_factorial cX7_factorial 1 (some .long)] ({ frames := 0, cells := 0, slots := 0, locals := 0 } : Room) (zz_PreF D ca zz_dC [.int x0] a I L sz) (zz_Ql D ca zz_dC (zz_A ca zz_dC a I L sz) a (fun r I9 L9 => P r ∧ I9 = I ∧ L9 = L)) 0 0 (zz_A ca zz_dC a I L sz) :=
  zz_startF (by decide) (Nat.le_of_ble_eq_true rfl) (fun p e s m below meth c X hsz hA hF => zq_X7_factorial X hF h)
