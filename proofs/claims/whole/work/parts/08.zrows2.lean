theorem zk_X2_acp : Cond.methodLink RX2 40 arraycopyName ∈ lw_tbl := List.mem_of_getElem? (i := 477) (by decide +kernel)
theorem zk_X6_acp : Cond.methodLink RX6 34 arraycopyName ∈ lw_tbl := List.mem_of_getElem? (i := 484) (by decide +kernel)
theorem zk_X1_min : Cond.methodLink RX1 28 Lib.Math.min.name ∈ lw_tbl := List.mem_of_getElem? (i := 528) (by decide +kernel)
theorem zk_X3_acp : Cond.methodLink RX3 29 arraycopyName ∈ lw_tbl := List.mem_of_getElem? (i := 641) (by decide +kernel)
theorem zk_X3_min : Cond.methodLink RX3 62 Lib.Math.min.name ∈ lw_tbl := List.mem_of_getElem? (i := 654) (by decide +kernel)
theorem zk_X7_193 : Cond.constantLong RX7 193 (-1) ∈ lw_tbl := List.mem_of_getElem? (i := 675) (by decide +kernel)
theorem zk_X7_198 : Cond.constantLong RX7 198 (-2) ∈ lw_tbl := List.mem_of_getElem? (i := 677) (by decide +kernel)
theorem zk_X7_215 : Cond.constantLong RX7 215 (100000) ∈ lw_tbl := List.mem_of_getElem? (i := 721) (by decide +kernel)
theorem zk_X7_230 : Cond.constantLong RX7 230 (-9) ∈ lw_tbl := List.mem_of_getElem? (i := 750) (by decide +kernel)
theorem zk_J6_265 : Cond.constant RJ6 265 (1431655765) ∈ lw_tbl := List.mem_of_getElem? (i := 765) (by decide +kernel)
theorem zk_J6_266 : Cond.constant RJ6 266 (858993459) ∈ lw_tbl := List.mem_of_getElem? (i := 766) (by decide +kernel)
theorem zk_J6_267 : Cond.constant RJ6 267 (252645135) ∈ lw_tbl := List.mem_of_getElem? (i := 767) (by decide +kernel)
theorem zk_X7_259 : Cond.constantLong RX7 259 (6364136223846793005) ∈ lw_tbl := List.mem_of_getElem? (i := 789) (by decide +kernel)
theorem zk_X7_261 : Cond.constantLong RX7 261 (1442695040888963407) ∈ lw_tbl := List.mem_of_getElem? (i := 790) (by decide +kernel)
theorem zk_X8_105 : Cond.constantLong RX8 105 (255) ∈ lw_tbl := List.mem_of_getElem? (i := 926) (by decide +kernel)
theorem zk_X8_158 : Cond.constantLong RX8 158 (2) ∈ lw_tbl := List.mem_of_getElem? (i := 997) (by decide +kernel)
theorem zk_X8_174 : Cond.constantLong RX8 174 (6) ∈ lw_tbl := List.mem_of_getElem? (i := 1014) (by decide +kernel)
theorem zk_X8_184 : Cond.constantLong RX8 184 (9) ∈ lw_tbl := List.mem_of_getElem? (i := 1039) (by decide +kernel)
theorem zk_X8_250 : Cond.constantLong RX8 250 (-1) ∈ lw_tbl := List.mem_of_getElem? (i := 1111) (by decide +kernel)
theorem zk_X8_255 : Cond.constantLong RX8 255 (-2) ∈ lw_tbl := List.mem_of_getElem? (i := 1128) (by decide +kernel)
theorem zk_X8_261 : Cond.constantLong RX8 261 (3) ∈ lw_tbl := List.mem_of_getElem? (i := 1145) (by decide +kernel)
theorem zk_X8_263 : Cond.constantLong RX8 263 (100000) ∈ lw_tbl := List.mem_of_getElem? (i := 1146) (by decide +kernel)
theorem zk_X8_272 : Cond.constantLong RX8 272 (-9) ∈ lw_tbl := List.mem_of_getElem? (i := 1166) (by decide +kernel)
theorem zk_X8_295 : Cond.constantLong RX8 295 (10) ∈ lw_tbl := List.mem_of_getElem? (i := 1195) (by decide +kernel)
theorem zk_X8_305 : Cond.constantLong RX8 305 (20) ∈ lw_tbl := List.mem_of_getElem? (i := 1207) (by decide +kernel)
theorem zk_X8_307 : Cond.constantLong RX8 307 (6364136223846793005) ∈ lw_tbl := List.mem_of_getElem? (i := 1208) (by decide +kernel)
theorem zk_X8_309 : Cond.constantLong RX8 309 (1442695040888963407) ∈ lw_tbl := List.mem_of_getElem? (i := 1209) (by decide +kernel)
theorem zk_L_78 : Cond.constantLong RL 78 (4294967295) ∈ lw_tbl := List.mem_of_getElem? (i := 1222) (by decide +kernel)
theorem zk_min_s : Cond.static Lib.Math.min.name ∈ lw_tbl := List.mem_of_getElem? (i := 529) (by decide +kernel)
theorem zk_min_i : Cond.initialized "java/lang/Math" ∈ lw_tbl := List.mem_of_getElem? (i := 102) (by decide +kernel)
theorem zk_min_c : Cond.code Lib.Math.min.name Lib.Math.min.code 2 (some .int) ∈ lw_tbl := List.mem_of_getElem? (i := 530) (by decide +kernel)
theorem zk_ac_n : Cond.native arraycopyName ∈ lw_tbl := List.mem_of_getElem? (i := 479) (by decide +kernel)
theorem zk_ac_s : Cond.static arraycopyName ∈ lw_tbl := List.mem_of_getElem? (i := 478) (by decide +kernel)
theorem zk_ac_i : Cond.initialized "java/lang/System" ∈ lw_tbl := List.mem_of_getElem? (i := 101) (by decide +kernel)
theorem zz_ne_int {x k : Int32} (h : ¬ x = k) : x.toInt ≠ k.toInt := fun q => h (Int32.toInt_inj.mp q)
def zz_cp (I : zz_I) (k0 k1 n : Nat) : zz_I := fun k j => if k = k1 ∧ j < n then I k0 j else I k j
section ZR2
variable {p : Program} {l : Launch} {e : Env} {R : Room} {s : State} {m : MethodId} {args : Array Value} {below : List Frame} {meth : Method} {c : Code} {H : Heap} {locs : List Loc} {cells slots : Nat} {Q : State → Prop}
variable {cc : ByteArray} {pc : Nat} {ls : Array Slot} {rest : List Value} {D : va_G} {A : Nat → Prop} {H0 : Heap} {ca : Nat → ClassId} {ds : List zz_D} {a : Nat → Nat} {I : zz_I} {L : zz_L}
theorem zz_goip (hB : zz_B D ca ds A H0 s a I L H locs) (hA : ∀ q, H0.size ≤ q → A q) {P : Int32 → Prop} {st : List Value} {av : Array Value} (hr : va_Run p l e R s m args below meth c H locs cells slots 0 0 (F0 m pc ls st) rest (zz_Qi D ca ds (zz_A ca ds a I L H.size) a (fun r I9 L9 => P r ∧ I9 = I ∧ L9 = L) av) (zz_A ca ds a I L H.size))
    (kk : ∀ (r : Int32) (H : Heap) (locs : List Loc), P r → zz_B D ca ds A H0 s a I L H locs → W p l e R s m args below meth c H locs cells slots Q (F0 m (pc + 3) ls (.int r :: rest))) : W p l e R s m args below meth c H locs cells slots Q (F0 m pc ls st) :=
  zz_goi hB hA hr (fun r I9 L9 H1 locs1 hw hB1 => by
    obtain ⟨h1, h2, h3⟩ := hw
    rw [h2, h3] at hB1
    exact kk r H1 locs1 h1 hB1)
theorem zz_golp (hB : zz_B D ca ds A H0 s a I L H locs) (hA : ∀ q, H0.size ≤ q → A q) {P : Int64 → Prop} {st : List Value} {av : Array Value} (hr : va_Run p l e R s m args below meth c H locs cells slots 0 0 (F0 m pc ls st) rest (zz_Ql D ca ds (zz_A ca ds a I L H.size) a (fun r I9 L9 => P r ∧ I9 = I ∧ L9 = L) av) (zz_A ca ds a I L H.size))
    (kk : ∀ (r : Int64) (H : Heap) (locs : List Loc), P r → zz_B D ca ds A H0 s a I L H locs → W p l e R s m args below meth c H locs cells slots Q (F0 m (pc + 3) ls (.long r :: rest))) : W p l e R s m args below meth c H locs cells slots Q (F0 m pc ls st) :=
  zz_gol hB hA hr (fun r I9 L9 H1 locs1 hw hB1 => by
    obtain ⟨h1, h2, h3⟩ := hw
    rw [h2, h3] at hB1
    exact kk r H1 locs1 h1 hB1)
theorem zz_copy (hx : p.tables.exec = Jvm.exec) (hb : c.code = cc) (hml : c.maxLocals = ls.size) {own : String} {index : Nat} (hown : s.vm.findClass own = some m.cls) (zw : zz_W s) (hl : Cond.methodLink own index arraycopyName ∈ lw_tbl) (hB : zz_B D ca ds A H0 s a I L H locs) {k0 k1 n0 n1 nn : Nat} {n : Int32} (hd0 : ds[k0]? = some (.inl (0, n0))) (hd1 : ds[k1]? = some (.inl (0, n1))) (hnn : n = nI nn) (hn0 : nn ≤ n0) (hn1 : nn ≤ n1) (hsm : nn < 2 ^ 31) (hframes : 1 ≤ R.frames) (hlocals : (rest.map fun v => v.category).sum + (nativeFrameWords "java/lang/System" "arraycopy" 5 + 11) ≤ R.locals) (hdg : decode cc pc = .ok (.invokestatic index, 3))
    (kk : ∀ (H : Heap) (locs : List Loc), zz_B D ca ds A H0 s a (zz_cp I k0 k1 nn) L H locs → W p l e R s m args below meth c H locs cells slots Q (F0 m (pc + 3) ls rest)) : W p l e R s m args below meth c H locs cells slots Q (F0 m pc ls (.int n :: .int 0 :: .ref (a k1) :: .int 0 :: .ref (a k0) :: rest)) := by
  obtain ⟨hK, hP, hD, hS⟩ := hB
  have hc : n.toNatClampNeg = nn := by rw [hnn]; exact nI_clamp hsm
  have hneg : ¬ n < 0 := by rw [hnn]; exact nI_pos hsm
  have hset : (zz_cells ca ds a I L).set k1 (a k1, .inl (ca 0, n1, .inl (va_cpy (I k0) (I k1) (0 : Int32).toNatClampNeg (0 : Int32).toNatClampNeg n.toNatClampNeg))) = zz_cells ca ds a (zz_cp I k0 k1 nn) L := by
    refine zz_set hd1 ?_ (fun q hq => ?_) (fun _ _ => rfl)
    · show _ = (Sum.inl (ca 0, n1, .inl (zz_cp I k0 k1 nn k1)) : va_E)
      have e1 : va_cpy (I k0) (I k1) (0 : Int32).toNatClampNeg (0 : Int32).toNatClampNeg n.toNatClampNeg = zz_cp I k0 k1 nn k1 := by
        funext j
        have e0 : (0 : Int32).toNatClampNeg = 0 := rfl
        rw [e0, hc]
        simp [va_cpy, zz_cp]
      rw [e1]
    · funext j
      simp [zz_cp, hq]
  refine va_copyi hx hb hml hown (zz_W_use zw hl rfl) (zz_W_use zw zk_ac_n rfl) (zz_W_use zw zk_ac_s rfl) (zz_W_use zw zk_ac_i rfl) hK hP hD hS k0 k1 0 0 (zz_get hd0) (zz_get hd1) (ty := .int) rfl rfl rfl (by decide) (by decide) hneg (by rw [hc]; show 0 + nn ≤ n0; omega) (by rw [hc]; show 0 + nn ≤ n1; omega) (fun _ _ => rfl) hframes hlocals hdg (fun H1 locs1 h1 h2 h3 => ?_)
  rw [hset] at h1 h2
  exact kk H1 locs1 ⟨hK, h1, h2, h3⟩
end ZR2
