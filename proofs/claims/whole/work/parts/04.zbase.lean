/-! the tables' words, carried in a contract's start rather than in its list of words -/
def zz_good : Cond → Bool
  | .fieldLinkNest .. => true
  | .methodLinkNest .. => true
  | w => goodWord w
def zz_W (U : State) : Prop := ∀ w ∈ lw_tbl, zz_good w = true → va_Nw w U
theorem zz_W_warm {s U : State} (hW : s.WarmedH U.vm) (h : zz_W s) : zz_W U := by
  intro w hw hg
  have h1 := h w hw hg
  cases w <;> first
    | exact va_Nw.warmF hW h1
    | exact va_Nw.warmM hW h1
    | exact word_at hW (good_of_word hg) h1
theorem zz_W_of {A : Array Value} {s : State} (h : ∀ w ∈ lw_tbl, w.before A s = true) : zz_W s := by
  intro w hw hg
  have h1 := h w hw
  cases w <;> first
    | exact va_Nw.of rfl h1
    | exact word_at (State.WarmedH.refl s) (good_of_word hg) h1
theorem zz_W_use {A : Array Value} {s : State} (h : zz_W s) {w : Cond} (hw : w ∈ lw_tbl) (hg : zz_good w = true) : w.before A s = true := by
  have h1 := h w hw hg
  cases w <;> first
    | exact va_Nw.use rfl h1
    | exact word_at (State.WarmedH.refl s) (good_of_word hg) h1
theorem zz_W_call {s : State} {g : JFrame} {mk : MethodId} {a : Array Value} (h : zz_W s) : zz_W (s.calling g mk a) := zz_W_warm (U := s.calling g mk a) (State.WarmedH.refl s) h
/-! the memory: cells by number; ints and longs by cell and place -/
abbrev zz_I : Type := Nat → Nat → Int32
abbrev zz_L : Type := Nat → Nat → Int64
abbrev zz_D : Type := (Nat × Nat) ⊕ (Nat × List (Nat ⊕ Bool))
def zz_up {α : Type} (f : Nat → Nat → α) (k i : Nat) (v : α) : Nat → Nat → α := fun k' i' => if k' = k ∧ i' = i then v else f k' i'
def zz_val (a : Nat → Nat) (I : zz_I) (L : zz_L) (k j : Nat) : Nat ⊕ Bool → Value
  | .inl d => .ref (a (k + d))
  | .inr false => .int (I k j)
  | .inr true => .long (L k j)
def zz_arr (ca : Nat → ClassId) (I : zz_I) (L : zz_L) (k n : Nat) : Nat → ClassId × vp_A
  | 0 => (ca 0, n, .inl (I k))
  | 1 => (ca 1, n, .inl (I k))
  | 2 => (ca 2, n, .inr (.inl (L k)))
  | _ => (ca 2, (I k 0).toNatClampNeg, .inr (.inl (L k)))
def zz_cell (ca : Nat → ClassId) (a : Nat → Nat) (I : zz_I) (L : zz_L) (k : Nat) : zz_D → va_E
  | .inl q => .inl (zz_arr ca I L k q.2 q.1)
  | .inr q => .inr (q.1, q.2.mapIdx (zz_val a I L k))
def zz_cells (ca : Nat → ClassId) (ds : List zz_D) (a : Nat → Nat) (I : zz_I) (L : zz_L) : va_W := ds.mapIdx (fun k d => (a k, zz_cell ca a I L k d))
theorem zz_get {ca : Nat → ClassId} {ds : List zz_D} {a : Nat → Nat} {I : zz_I} {L : zz_L} {k : Nat} {d : zz_D} (h : ds[k]? = some d) : (zz_cells ca ds a I L)[k]? = some (a k, zz_cell ca a I L k d) := by
  unfold zz_cells
  rw [List.getElem?_mapIdx, h]
  rfl
theorem zz_val_congr {a : Nat → Nat} {I I' : zz_I} {L L' : zz_L} {k : Nat} (h1 : I' k = I k) (h2 : L' k = L k) : zz_val a I' L' k = zz_val a I L k := by
  funext j f
  cases f with
  | inl d => rfl
  | inr b => cases b <;> simp [zz_val, h1, h2]
theorem zz_cell_congr {ca : Nat → ClassId} {a : Nat → Nat} {I I' : zz_I} {L L' : zz_L} {k : Nat} {d : zz_D} (h1 : I' k = I k) (h2 : L' k = L k) : zz_cell ca a I' L' k d = zz_cell ca a I L k d := by
  cases d with
  | inl q =>
    obtain ⟨t, n⟩ := q
    show Sum.inl (zz_arr ca I' L' k n t) = Sum.inl (zz_arr ca I L k n t)
    congr 1
    match t with
    | 0 => simp [zz_arr, h1]
    | 1 => simp [zz_arr, h1]
    | 2 => simp [zz_arr, h2]
    | t + 3 => simp [zz_arr, h1, h2]
  | inr q =>
    show Sum.inr (q.1, q.2.mapIdx (zz_val a I' L' k)) = Sum.inr (q.1, q.2.mapIdx (zz_val a I L k))
    rw [zz_val_congr h1 h2]
theorem zz_get_map {ca : Nat → ClassId} {ds : List zz_D} {a : Nat → Nat} {I : zz_I} {L : zz_L} (j : Nat) : (zz_cells ca ds a I L)[j]? = (ds[j]?).map (fun d => (a j, zz_cell ca a I L j d)) := List.getElem?_mapIdx
theorem zz_set {ca : Nat → ClassId} {ds : List zz_D} {a : Nat → Nat} {I I' : zz_I} {L L' : zz_L} {k : Nat} {d : zz_D} {e : va_E} (hd : ds[k]? = some d) (he : e = zz_cell ca a I' L' k d) (hI : ∀ j, j ≠ k → I' j = I j) (hL : ∀ j, j ≠ k → L' j = L j) :
    (zz_cells ca ds a I L).set k (a k, e) = zz_cells ca ds a I' L' := by
  subst he
  have hk : k < (zz_cells ca ds a I L).length := (List.getElem?_eq_some_iff.mp (zz_get (ca := ca) (a := a) (I := I) (L := L) hd)).1
  refine List.ext_getElem? (fun j => ?_)
  by_cases hj : k = j
  · subst hj
    exact (List.getElem?_set_self hk).trans (zz_get hd).symm
  · refine (List.getElem?_set_ne hj).trans ?_
    refine (zz_get_map j).trans (Eq.trans ?_ (zz_get_map j).symm)
    refine congrArg (fun f => (ds[j]?).map f) ?_
    funext dj
    exact congrArg (fun z => (a j, z)) (zz_cell_congr (hI j (fun q => hj q.symm)) (hL j (fun q => hj q.symm))).symm
theorem zz_up_ne {α : Type} (f : Nat → Nat → α) (k i : Nat) (v : α) (j : Nat) (h : j ≠ k) : zz_up f k i v j = f j := by
  funext q
  simp [zz_up, h]
theorem zz_up_at {α : Type} (f : Nat → Nat → α) (k i : Nat) (v : α) : zz_up f k i v k = fun q => if q = i then v else f k q := by
  funext q
  simp [zz_up]
def zz_tys (ca : Nat → ClassId) : List (ClassId × FieldType) := [(ca 0, .int), (ca 1, .boolean), (ca 2, .long)]
/-- the bundle: tables, cells, apart, frame -/
def zz_B (D : va_G) (ca : Nat → ClassId) (ds : List zz_D) (A : Nat → Prop) (H0 : Heap) (s : State) (a : Nat → Nat) (I : zz_I) (L : zz_L) (H : Heap) (locs : List Loc) : Prop :=
  va_K D vwCl (zz_tys ca) s ∧ va_P D vwCl (zz_cells ca ds a I L) H ∧ va_D A (zz_cells ca ds a I L) ∧ va_S A H0 H locs
/-- what is fixed while a method runs -/
def zz_X (p : Program) (s : State) (m : MethodId) (meth : Method) (c : Code) (cc : ByteArray) (own : String) (ret : Option FieldType) (nL : Nat) : Prop :=
  p.tables.exec = Jvm.exec ∧ c.code = cc ∧ c.maxLocals = nL ∧ s.vm.findClass own = some m.cls ∧ zz_W s ∧ meth.sig.returnType = ret ∧ meth.locks = false
/-- a contract's start -/
def zz_Pre (D : va_G) (ca : Nat → ClassId) (ds : List zz_D) (av : List Value) (a : Nat → Nat) (I : zz_I) (L : zz_L) (sz : Nat) : Array Value → State → Prop :=
  va_Pc av (fun U => U.heap.size = sz ∧ zz_W U ∧ va_K D vwCl (zz_tys ca) U ∧ va_P D vwCl (zz_cells ca ds a I L) U.heap ∧ va_D (fun _ => True) (zz_cells ca ds a I L))
/-- the world behind a method -/
def zz_At (D : va_G) (ca : Nat → ClassId) (ds : List zz_D) (A : Nat → Prop) (a : Nat → Nat) (u : zz_I × zz_L) (t : State) : Prop :=
  va_K D vwCl (zz_tys ca) t ∧ va_P D vwCl (zz_cells ca ds a u.1 u.2) t.heap ∧ va_D A (zz_cells ca ds a u.1 u.2)
def zz_Qi (D : va_G) (ca : Nat → ClassId) (ds : List zz_D) (A : Nat → Prop) (a : Nat → Nat) (P : Int32 → zz_I → zz_L → Prop) : Array Value → State → Outcome → State → Prop := va_Qi (fun r (u : zz_I × zz_L) => P r u.1 u.2) (zz_At D ca ds A a) A
def zz_Ql (D : va_G) (ca : Nat → ClassId) (ds : List zz_D) (A : Nat → Prop) (a : Nat → Nat) (P : Int64 → zz_I → zz_L → Prop) : Array Value → State → Outcome → State → Prop := va_Ql (fun r (u : zz_I × zz_L) => P r u.1 u.2) (zz_At D ca ds A a) A
def zz_Qv (D : va_G) (ca : Nat → ClassId) (ds : List zz_D) (A : Nat → Prop) (a : Nat → Nat) (P : zz_I → zz_L → Prop) : Array Value → State → Outcome → State → Prop := va_Qv (fun (u : zz_I × zz_L) => P u.1 u.2) (zz_At D ca ds A a) A
/-- which cells a method may change -/
def zz_A (ca : Nat → ClassId) (ds : List zz_D) (a : Nat → Nat) (I : zz_I) (L : zz_L) (sz : Nat) : Nat → Prop := va_A (zz_cells ca ds a I L) sz
/-- the goal at a pc: any heap that holds the bundle, any locals that hold the list -/
def zz_Go (p : Program) (l : Launch) (e : Env) (R : Room) (s : State) (m : MethodId) (args : Array Value) (below : List Frame) (meth : Method) (c : Code) (cells slots : Nat) (Q : State → Prop) (D : va_G) (ca : Nat → ClassId) (ds : List zz_D) (A : Nat → Prop) (nL pc : Nat) (a : Nat → Nat) (st : List Value) (lv : List (Nat × Value)) (I : zz_I) (L : zz_L) : Prop :=
  ∀ (H : Heap) (locs : List Loc) (ls : Array Slot), zz_B D ca ds A s.heap s a I L H locs → lv_has ls nL lv → W p l e R s m args below meth c H locs cells slots Q (F0 m pc ls st)
