def zx_at (lx : Nat → Nat → Nat) (w d x : Nat) : Bool := !(zt_all (lx 2 w) (fun i => !(zx_off lx w i == d && lx 3 (5 * w + i) == x))) || (x == 6 && zx_sp lx w == d)
theorem zx_at_iff {lx : Nat → Nat → Nat} {w d x : Nat} : zx_at lx w d x = true ↔ (∃ i, i < lx 2 w ∧ zx_off lx w i = d ∧ lx 3 (5 * w + i) = x) ∨ (x = 6 ∧ zx_sp lx w = d) := by
  unfold zx_at
  rw [Bool.or_eq_true, Bool.not_eq_true', Bool.and_eq_true, beq_iff_eq, beq_iff_eq]
  constructor
  · rintro (h | h)
    · refine Or.inl (Classical.byContradiction (fun hn => ?_))
      have : zt_all (lx 2 w) (fun i => !(zx_off lx w i == d && lx 3 (5 * w + i) == x)) = true := by
        rw [zt_all_iff]
        intro i hi
        rw [Bool.not_eq_true']
        cases q : (zx_off lx w i == d && lx 3 (5 * w + i) == x)
        · rfl
        · rw [Bool.and_eq_true, beq_iff_eq, beq_iff_eq] at q
          exact absurd ⟨i, hi, q.1, q.2⟩ hn
      rw [this] at h; cases h
    · exact Or.inr h
  · rintro (⟨i, hi, h1, h2⟩ | h)
    · refine Or.inl ?_
      cases q : zt_all (lx 2 w) (fun i => !(zx_off lx w i == d && lx 3 (5 * w + i) == x))
      · rfl
      · rw [zt_all_iff] at q
        have := q i hi
        rw [h1, h2] at this
        simp at this
    · exact Or.inr h
theorem zx_off_lt {lx : Nat → Nat → Nat} (hl : zx_lexOK lx) {w i j : Nat} (hw : w < lx 0 0) (hij : i < j) (hj : j ≤ lx 2 w) : zx_off lx w i < zx_off lx w j := by
  induction j with
  | zero => omega
  | succ j ih =>
    have h1 : zx_off lx w (j + 1) = zx_off lx w j + lx 1 (lx 3 (5 * w + j)) := rfl
    have h2 := (hl.2.2.2 w hw).2.2.2.2 j (by omega)
    have h3 := (hl.2.1 (lx 3 (5 * w + j)) (by omega)).1
    rcases Nat.lt_succ_iff_lt_or_eq.mp hij with q | q
    · have := ih q (by omega); omega
    · subst q; omega
theorem zx_off_inj {lx : Nat → Nat → Nat} (hl : zx_lexOK lx) {w i j : Nat} (hw : w < lx 0 0) (hi : i ≤ lx 2 w) (hj : j ≤ lx 2 w) (h : zx_off lx w i = zx_off lx w j) : i = j := by
  rcases Nat.lt_trichotomy i j with q | q | q
  · have := zx_off_lt hl hw q hj; omega
  · exact q
  · have := zx_off_lt hl hw q hi; omega
theorem zx_at_le {lx : Nat → Nat → Nat} (hl : zx_lexOK lx) {w d x : Nat} (hw : w < lx 0 0) (h : zx_at lx w d x = true) : d ≤ zx_sp lx w := by
  rcases zx_at_iff.mp h with ⟨i, hi, h1, -⟩ | ⟨-, h1⟩
  · have := zx_off_lt hl hw hi (Nat.le_refl _)
    unfold zx_sp; omega
  · omega
theorem zx_at_uniq {lx : Nat → Nat → Nat} (hl : zx_lexOK lx) {w d x y : Nat} (hw : w < lx 0 0) (h : zx_at lx w d x = true) (h2 : zx_at lx w d y = true) : x = y := by
  rcases zx_at_iff.mp h with ⟨i, hi, e1, e2⟩ | ⟨e1, e2⟩ <;> rcases zx_at_iff.mp h2 with ⟨j, hj, f1, f2⟩ | ⟨f1, f2⟩
  · have := zx_off_inj hl hw (by omega) (by omega) (e1.trans f1.symm)
    subst this; rw [← e2, f2]
  · have := zx_off_inj hl (j := lx 2 w) hw (by omega) (by omega) (e1.trans f2.symm)
    omega
  · have := zx_off_inj hl (j := lx 2 w) hw (by omega) (by omega) (f1.trans e2.symm)
    omega
  · omega
theorem zs_signBehind {w d : Nat} {I : zz_I} {L : zz_L} {lx : Nat → Nat → Nat} {P : Int32 → Prop} (hl : zx_lexOK lx) (lC : zx_lexC 14 I lx) (hw : w < lx 0 0) (hd : d < 2 ^ 20) (h : ∀ r : Int32, (∀ x, x < 7 → (r = nI x ↔ zx_at lx w d x = true)) → P r) : zp_X2_signBehind (nI w) (nI d) P I L := by
  have h8 := hl.1
  obtain ⟨a2, a5, -, -, al⟩ := hl.2.2.2 w hw
  have e17 : I 17 w = nI (lx 2 w) := (lC.2.2 w hw).1
  refine zs_X2_hasWord (n := lx 0 0) (by omega) lC.1 (fun c => (zn_out (by omega) c hw rfl).elim) (fun j hj ej => ⟨fun _ => ?_, fun q => absurd q (by decide)⟩)
  refine ⟨fun y3 y4 => ∃ i, i ≤ lx 2 w ∧ y4 = nI i ∧ y3 = nI (zx_off lx w i) ∧ ∀ i2, i2 < i → zx_off lx w i2 ≠ d, fun _ y4 => 5 - y4.toNatClampNeg, ⟨0, by omega, rfl, rfl, fun i2 h2 => absurd h2 (by omega)⟩, ?_⟩
  rintro y3 y4 ⟨i, hi, rfl, rfl, hno⟩
  unfold zp_X2_signBehind_16b
  have hob := zx_off_le hl hw hi
  rw [zn_cl (n := w) (by omega), e17]
  refine ⟨vp_in_nI (by omega) (by decide), ?_⟩
  refine pk_le (lx 2 w) i (fun c => ?_) (fun c => ?_)
  · have : i = lx 2 w := by omega
    subst this
    refine ⟨fun q => h _ (fun x hx => ⟨fun z => ?_, fun z => ?_⟩), fun q => h _ (fun x hx => ⟨fun z => ?_, fun z => ?_⟩)⟩
    · exact absurd (show nI x < 0 by rw [← z]; decide) (nI_pos (by omega))
    · rcases zx_at_iff.mp z with ⟨i, hi, h1, -⟩ | ⟨-, h1⟩
      · exact absurd h1 (hno i hi)
      · exact absurd (by rw [← h1]; rfl) q
    · have hx6 : 6 = x := zn_j (i := 6) (by decide) (by omega) z
      subst hx6
      refine zx_at_iff.mpr (Or.inr ⟨rfl, ?_⟩)
      exact zn_j (i := zx_off lx w (lx 2 w)) (by omega) (by omega) q
    · rcases zx_at_iff.mp z with ⟨i, hi, h1, -⟩ | ⟨h1, -⟩
      · exact absurd h1 (hno i hi)
      · rw [h1]; rfl
  · have hlt := al i c
    have hwd := hl.2.1 _ (show lx 3 (5 * w + i) < 7 by omega)
    refine zs_letterOf hl lC hw c ⟨fun q => ?_, fun q => ?_⟩
    · refine zs_widthOf (fun j hj => lC.2.1 j hj) (by omega) ?_
      rw [nI_add]
      rintro _ rfl _ rfl
      refine ⟨⟨i + 1, by omega, nI_1 i, rfl, fun i2 h2 => ?_⟩, zz_down (n := 5) (by omega) (by omega)⟩
      by_cases e : i2 = i
      · subst e; exact fun z => q (by rw [z])
      · exact hno i2 (by omega)
    · have hoi : zx_off lx w i = d := zn_j (by omega) (by omega) q
      refine h _ (fun x hx => ⟨fun z => ?_, fun z => ?_⟩)
      · have : lx 3 (5 * w + i) = x := zn_j (by omega) (by omega) z
        exact zx_at_iff.mpr (Or.inl ⟨i, c, hoi, this⟩)
      · have : zx_at lx w d (lx 3 (5 * w + i)) = true := zx_at_iff.mpr (Or.inl ⟨i, c, hoi, rfl⟩)
        rw [zx_at_uniq hl hw z this]
theorem zs_passOn {I : zz_I} {L : zz_L} {un nw : Nat} {sp : Nat → Nat} {fo : Nat → Nat → Bool} {om : Nat → Nat} {P : zz_I → zz_L → Prop} (hc : zk_ch I un nw sp fo om) {b : Int64} {u : Nat} (hu : u < 25) {f : Nat → Bool} (h : ∀ M : zz_L, (∀ k j, k ≠ 42 → M k j = L k j) → (∀ v w, v ≠ u → w < 8 → M 42 (v * 8 + w) = L 42 (v * 8 + w)) → (∀ w, w < nw → M 42 (u * 8 + w) = if (om u).testBit w && f w then L 42 (u * 8 + w) + b else L 42 (u * 8 + w)) → P I M) : zp_X0_passOn b (nI u) (nI (zy_mk nw f)) P I L := by
  obtain ⟨c6, c7, h24, h8, hw, hm, hin⟩ := hc
  refine ⟨fun y J M => ∃ i, i ≤ nw ∧ y = nI i ∧ I = J ∧ (∀ k j, k ≠ 42 → M k j = L k j) ∧ (∀ v w, v ≠ u → w < 8 → M 42 (v * 8 + w) = L 42 (v * 8 + w)) ∧ (∀ w, w < nw → M 42 (u * 8 + w) = if (om u).testBit w && f w && decide (w < i) then L 42 (u * 8 + w) + b else L 42 (u * 8 + w)), fun y _ _ => 8 - y.toNatClampNeg, ⟨0, by omega, rfl, rfl, fun _ _ _ => rfl, fun _ _ _ _ => rfl, fun w _ => by simp⟩, ?_⟩
  rintro y J M ⟨i, hi, rfl, rfl, hf, hv, hb⟩
  unfold zp_X0_passOn_3b
  have ou := hm u hu
  refine pk_le nw i (fun c => h M hf hv (fun w hw2 => ?_)) (fun c => ?_) (hx := c7)
  · rw [hb w hw2, decide_eq_true (show w < i by omega), Bool.and_true]
  · have stay : ((om u).testBit i && f i) = false → ∀ v48 : Int32, v48 = nI i + 1 → (∃ i2, i2 ≤ nw ∧ v48 = nI i2 ∧ I = I ∧ (∀ k j, k ≠ 42 → M k j = L k j) ∧ (∀ v w, v ≠ u → w < 8 → M 42 (v * 8 + w) = L 42 (v * 8 + w)) ∧ (∀ w, w < nw → M 42 (u * 8 + w) = if (om u).testBit w && f w && decide (w < i2) then L 42 (u * 8 + w) + b else L 42 (u * 8 + w))) ∧ 8 - v48.toNatClampNeg < 8 - (nI i).toNatClampNeg := by
      rintro q _ rfl
      refine ⟨⟨i + 1, by omega, nI_1 i, rfl, hf, hv, fun w hw2 => ?_⟩, zz_down (n := 8) (by omega) (by omega)⟩
      rw [hb w hw2]
      by_cases e : w = i
      · subst e; rw [q]; rfl
      · rw [show decide (w < i + 1) = decide (w < i) from decide_eq_decide.mpr (by omega)]
    refine zs_isOpen ou.1 ou.2 hu (by omega) (zb_br (fun q => stay (by rw [q]; rfl)) (fun q => ?_))
    have ft : (zy_mk nw f).testBit i = f i := by rw [zy_mk_bit, decide_eq_true c, Bool.true_and]
    refine zy_bit (zy_mk_256 h8) (by omega) (fun r => stay ?_) (fun r => ?_)
    · rw [ft] at r; rw [r, Bool.and_false]
    · rw [ft] at r
      rw [show nI u * (8 : Int32) = nI (u * 8) from pk_mul u 8, nI_add, zn_cl (n := u * 8 + i) (by omega)]
      refine ⟨vp_in_nI (by omega) (by decide), vp_in_nI (by omega) (by decide), ?_⟩
      rintro _ rfl _ rfl
      refine ⟨⟨i + 1, by omega, nI_1 i, rfl, fun k j hk => (zu_k hk).trans (hf k j hk), fun v w h1 h2 => (zu_i (by omega)).trans (hv v w h1 h2), fun w hw2 => ?_⟩, zz_down (n := 8) (by omega) (by omega)⟩
      by_cases e : w = i
      · subst e
        rw [zu_e, hb w hw2, q, r]
        simp
      · rw [zu_i (by omega), hb w hw2, show decide (w < i + 1) = decide (w < i) from decide_eq_decide.mpr (by omega)]
/-- heads as far as the places that have been passed on -/
def zk_P (nw : Nat) (sp : Nat → Nat) (op fo dn : Nat → Nat → Bool) (u w : Nat) : Nat :=
  if u = 0 then 1 else zt_sum nw (fun v => if sp v + 1 ≤ u then (if op (u - (sp v + 1)) v && fo v w && dn (u - (sp v + 1)) v then zk_H nw sp op fo (u - (sp v + 1)) v else 0) else 0)
theorem zk_P_H {nw : Nat} {sp : Nat → Nat} {op fo dn : Nat → Nat → Bool} {u w : Nat} (h : ∀ v, v < nw → sp v + 1 ≤ u → op (u - (sp v + 1)) v = true → dn (u - (sp v + 1)) v = true) : zk_P nw sp op fo dn u w = zk_H nw sp op fo u w := by
  unfold zk_P
  by_cases h0 : u = 0
  · subst h0; rw [if_pos rfl, zk_H_0]
  · rw [if_neg h0, zk_H_on h0]
    refine zt_sum_congr (fun v hv => ?_)
    by_cases q : sp v + 1 ≤ u
    · rw [if_pos q, if_pos q]
      cases r : op (u - (sp v + 1)) v
      · rfl
      · rw [h v hv q r, Bool.and_true]
    · rw [if_neg q, if_neg q]
theorem zk_P_congr {nw : Nat} {sp : Nat → Nat} {op fo dn dn2 : Nat → Nat → Bool} {u w : Nat} (h : ∀ v, v < nw → sp v + 1 ≤ u → op (u - (sp v + 1)) v = true → fo v w = true → dn (u - (sp v + 1)) v = dn2 (u - (sp v + 1)) v) : zk_P nw sp op fo dn u w = zk_P nw sp op fo dn2 u w := by
  unfold zk_P
  by_cases h0 : u = 0
  · subst h0; rfl
  · rw [if_neg h0, if_neg h0]
    refine zt_sum_congr (fun v hv => ?_)
    by_cases q : sp v + 1 ≤ u
    · rw [if_pos q, if_pos q]
      cases r : op (u - (sp v + 1)) v
      · rfl
      · cases s : fo v w
        · rfl
        · rw [h v hv q r s]
    · rw [if_neg q, if_neg q]
theorem zt_sum_bump {n c x : Nat} {f g : Nat → Nat} (hc : c < n) (h : ∀ i, i < n → i ≠ c → g i = f i) (h2 : g c = f c + x) : zt_sum n g = zt_sum n f + x := by
  induction n with
  | zero => omega
  | succ n ih =>
    simp only [zt_sum]
    by_cases q : c = n
    · subst q
      rw [h2, zt_sum_congr (fun i hi => h i (by omega) (by omega))]; omega
    · rw [ih (by omega) (fun i hi => h i (by omega)), h n (by omega) (fun z => q z.symm)]; omega
theorem zk_P_step {nw : Nat} {sp : Nat → Nat} {op fo dn dn2 : Nat → Nat → Bool} {i j w : Nat} (hj : j < nw) (ho : op i j = true) (hf : fo j w = true) (h1 : dn i j = false) (h2 : dn2 i j = true) (h3 : ∀ u v, ¬ (u = i ∧ v = j) → dn2 u v = dn u v) : zk_P nw sp op fo dn2 (i + sp j + 1) w = zk_P nw sp op fo dn (i + sp j + 1) w + zk_H nw sp op fo i j := by
  unfold zk_P
  rw [if_neg (by omega), if_neg (by omega)]
  have e : i + sp j + 1 - (sp j + 1) = i := by omega
  refine zt_sum_bump hj (fun v hv hne => ?_) ?_
  · rw [h3 _ _ (fun q => hne q.2)]
  · simp only [e, ho, hf, h1, h2, show sp j + 1 ≤ i + sp j + 1 by omega]; simp
