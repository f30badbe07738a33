/-! the reading of a weight and a number: the walk -/
section
variable {un nw : Nat} {sp wt : Nat → Nat} {op opc fo g : Nat → Nat → Bool}
theorem zk_step (hin : ∀ u w, w < nw → op u w = true → u + sp w ≤ un) (hg : ∀ a w, a < nw → g a w = fo a w) {x : Nat × Nat × Nat × Nat} (hok : x.2.2.2 < zt_sum nw (zk_Q un nw sp wt op fo g x)) : zk_pk nw (zk_Q un nw sp wt op fo g x) x.2.2.2 < nw ∧ op x.1 (zk_pk nw (zk_Q un nw sp wt op fo g x) x.2.2.2) = true ∧ g x.2.1 (zk_pk nw (zk_Q un nw sp wt op fo g x) x.2.2.2) = true ∧ zt_sum (zk_pk nw (zk_Q un nw sp wt op fo g x) x.2.2.2) (zk_Q un nw sp wt op fo g x) ≤ x.2.2.2 ∧ x.2.2.2 < zt_sum (zk_pk nw (zk_Q un nw sp wt op fo g x) x.2.2.2 + 1) (zk_Q un nw sp wt op fo g x) ∧ 0 < zk_T un nw sp wt op fo x.1 (zk_pk nw (zk_Q un nw sp wt op fo g x) x.2.2.2) x.2.2.1 ∧ (x.1 + sp (zk_pk nw (zk_Q un nw sp wt op fo g x) x.2.2.2) ≠ un → (zk_go un nw sp wt op fo g x).2.2.2 < zt_sum nw (zk_Q un nw sp wt op fo g (zk_go un nw sp wt op fo g x))) := by
  obtain ⟨w, hw, h1, h2⟩ := zk_pk_ex hok
  have e := zk_pk_eq hw h1 h2
  rw [e]
  have h3 : zk_Q un nw sp wt op fo g x w = if op x.1 w && g x.2.1 w then zk_T un nw sp wt op fo x.1 w x.2.2.1 else 0 := rfl
  have h4 : x.2.2.2 < zt_sum w (zk_Q un nw sp wt op fo g x) + zk_Q un nw sp wt op fo g x w := h2
  cases q : (op x.1 w && g x.2.1 w)
  · rw [q] at h3
    have h5 : zk_Q un nw sp wt op fo g x w = 0 := h3
    omega
  · rw [q, if_pos rfl] at h3
    rw [h3] at h4
    rw [Bool.and_eq_true] at q
    refine ⟨hw, q.1, q.2, h1, h2, by omega, fun hne => ?_⟩
    have hpos : 0 < zk_T un nw sp wt op fo x.1 w x.2.2.1 := by omega
    have hu : x.1 < un := Nat.lt_of_not_le (fun c => by rw [zk_T_no c] at hpos; omega)
    have hwt : wt w ≤ x.2.2.1 := Nat.le_of_not_lt (fun c => by rw [zk_T_lt c] at hpos; omega)
    have hgo : zk_go un nw sp wt op fo g x = (x.1 + sp w + 1, w, x.2.2.1 - wt w, x.2.2.2 - zt_sum w (zk_Q un nw sp wt op fo g x)) := by
      unfold zk_go; rw [e]
    rw [hgo]
    show x.2.2.2 - zt_sum w (zk_Q un nw sp wt op fo g x) < zt_sum nw (fun v => if op (x.1 + sp w + 1) v && g w v then zk_T un nw sp wt op fo (x.1 + sp w + 1) v (x.2.2.1 - wt w) else 0)
    rw [zk_T_on hu hne hwt] at h4
    have h6 : zt_sum nw (fun v => if op (x.1 + sp w + 1) v && g w v then zk_T un nw sp wt op fo (x.1 + sp w + 1) v (x.2.2.1 - wt w) else 0) = zt_sum nw (fun v => if op (x.1 + sp w + 1) v && fo w v then zk_T un nw sp wt op fo (x.1 + sp w + 1) v (x.2.2.1 - wt w) else 0) := zt_sum_congr (fun v _ => by rw [hg w v hw])
    rw [h6]; omega
theorem zk_at_1 {t r i : Nat} : (zk_at un nw sp wt op fo g t r (i + 1)).1 = (zk_at un nw sp wt op fo g t r i).1 + sp (zk_wd un nw sp wt op fo g t r i) + 1 := rfl
theorem zk_at_2 {t r i : Nat} : (zk_at un nw sp wt op fo g t r (i + 1)).2.1 = zk_wd un nw sp wt op fo g t r i := rfl
theorem zk_at_3 {t r i : Nat} : (zk_at un nw sp wt op fo g t r (i + 1)).2.2.1 = (zk_at un nw sp wt op fo g t r i).2.2.1 - wt (zk_wd un nw sp wt op fo g t r i) := rfl
theorem zk_at_4 {t r i : Nat} : (zk_at un nw sp wt op fo g t r (i + 1)).2.2.2 = (zk_at un nw sp wt op fo g t r i).2.2.2 - zt_sum (zk_wd un nw sp wt op fo g t r i) (zk_Q un nw sp wt op fo g (zk_at un nw sp wt op fo g t r i)) := rfl
theorem zk_at_le {t r : Nat} : ∀ i, (zk_at un nw sp wt op fo g t r i).2.2.1 ≤ t ∧ (zk_at un nw sp wt op fo g t r i).2.2.2 ≤ r := by
  intro i
  induction i with
  | zero => exact ⟨Nat.le_refl _, Nat.le_refl _⟩
  | succ i ih => rw [zk_at_3, zk_at_4]; omega
theorem zk_at_ok (hin : ∀ u w, w < nw → op u w = true → u + sp w ≤ un) (hg : ∀ a w, a < nw → g a w = fo a w) {t r : Nat} (h0 : r < zk_HV un nw sp wt op fo g 0 8 t) : ∀ i, (zk_at un nw sp wt op fo g t r i).1 < un → (zk_at un nw sp wt op fo g t r i).2.2.2 < zt_sum nw (zk_Q un nw sp wt op fo g (zk_at un nw sp wt op fo g t r i)) := by
  intro i
  induction i with
  | zero => intro _; exact h0
  | succ i ih =>
    intro h
    rw [zk_at_1] at h
    exact (zk_step hin hg (ih (by omega))).2.2.2.2.2.2 (Nat.ne_of_lt (Nat.lt_of_succ_lt h))
theorem zk_wd_ok (hin : ∀ u w, w < nw → op u w = true → u + sp w ≤ un) (hg : ∀ a w, a < nw → g a w = fo a w) {t r : Nat} (h0 : r < zk_HV un nw sp wt op fo g 0 8 t) {i : Nat} (h : (zk_at un nw sp wt op fo g t r i).1 < un) : zk_wd un nw sp wt op fo g t r i < nw ∧ op (zk_at un nw sp wt op fo g t r i).1 (zk_wd un nw sp wt op fo g t r i) = true ∧ g (zk_at un nw sp wt op fo g t r i).2.1 (zk_wd un nw sp wt op fo g t r i) = true ∧ zt_sum (zk_wd un nw sp wt op fo g t r i) (zk_Q un nw sp wt op fo g (zk_at un nw sp wt op fo g t r i)) ≤ (zk_at un nw sp wt op fo g t r i).2.2.2 ∧ (zk_at un nw sp wt op fo g t r i).2.2.2 < zt_sum (zk_wd un nw sp wt op fo g t r i + 1) (zk_Q un nw sp wt op fo g (zk_at un nw sp wt op fo g t r i)) ∧ 0 < zk_T un nw sp wt op fo (zk_at un nw sp wt op fo g t r i).1 (zk_wd un nw sp wt op fo g t r i) (zk_at un nw sp wt op fo g t r i).2.2.1 := by
  have z := zk_step hin hg (zk_at_ok hin hg h0 i h)
  exact ⟨z.1, z.2.1, z.2.2.1, z.2.2.2.1, z.2.2.2.2.1, z.2.2.2.2.2.1⟩
theorem zk_T_wt {u w t : Nat} (h : 0 < zk_T un nw sp wt op fo u w t) : wt w ≤ t := Nat.le_of_not_lt (fun c => by rw [zk_T_lt c] at h; omega)
theorem zk_at_8 (hsp : ∀ w, w < nw → 2 ≤ sp w) (hin : ∀ u w, w < nw → op u w = true → u + sp w ≤ un) (hg : ∀ a w, a < nw → g a w = fo a w) {t r : Nat} (h0 : r < zk_HV un nw sp wt op fo g 0 8 t) : ∀ i, (zk_at un nw sp wt op fo g t r i).1 < un → 3 * i ≤ (zk_at un nw sp wt op fo g t r i).1 := by
  intro i
  induction i with
  | zero => intro _; omega
  | succ i ih =>
    intro h
    rw [zk_at_1] at h ⊢
    have h1 := hsp _ (zk_wd_ok hin hg h0 (i := i) (by omega)).1
    have h2 := ih (by omega)
    omega
theorem zk_at_om (hin : ∀ u w, w < nw → op u w = true → u + sp w ≤ un) (hg : ∀ a w, a < nw → g a w = fo a w) {t r : Nat} (h0 : r < zk_HV un nw sp wt op fo g 0 8 t) {om' : Nat → Nat} (hle : ∀ u w, op u w = true → opc u w = true) (hc : zk_op un nw sp fo opc om') : ∀ i, (zk_at un nw sp wt op fo g t r i).1 < un → (om' (zk_at un nw sp wt op fo g t r i).1).testBit (zk_wd un nw sp wt op fo g t r i) = true := by
  intro i
  induction i with
  | zero =>
    intro h
    obtain ⟨h1, h2, h3, h4, h5, h6⟩ := zk_wd_ok hin hg h0 (i := 0) h
    exact hc.2.1 _ h1 (hle _ _ h2) (Nat.lt_of_lt_of_le (zk_T_N h6) (zk_N_mono hle _ _ _ (Nat.le_refl _)))
  | succ i ih =>
    intro h
    have h' := h
    rw [zk_at_1] at h'
    obtain ⟨h1, h2, h3, h4, h5, h6⟩ := zk_wd_ok hin hg h0 (i := i + 1) h
    have hi := zk_wd_ok hin hg h0 (i := i) (by omega)
    rw [zk_at_2, hg _ _ hi.1] at h3
    rw [zk_at_1] at h2 h6 ⊢
    exact hc.2.2 _ _ _ (ih (by omega)) h1 (hle _ _ h2) h3 (Nat.lt_of_lt_of_le (zk_T_N h6) (zk_N_mono hle _ _ _ (Nat.le_refl _)))
/-- the class's set of the words that may come -/
def zk_sb (un nw : Nat) (sp wt : Nat → Nat) (op fo g : Nat → Nat → Bool) (t r um : Nat) : Nat → Nat
  | 0 => um
  | i + 1 => zy_mk nw (fo (zk_wd un nw sp wt op fo g t r i))
theorem zk_sb_lt (h8 : nw ≤ 8) {t r um : Nat} (hu : um < 256) : ∀ i, zk_sb un nw sp wt op fo g t r um i < 256 := by
  intro i
  cases i with
  | zero => exact hu
  | succ i => exact zy_mk_256 h8
/-- ways on by the class's chart -/
def zk_Qd (un nw : Nat) (sp wt : Nat → Nat) (opc fo : Nat → Nat → Bool) (om' : Nat → Nat) (u s left : Nat) : Nat → Nat := fun w => if (om' u).testBit w && s.testBit w then zk_T un nw sp wt opc fo u w left else 0
theorem zk_Qc {om' : Nat → Nat} (hc : zk_op un nw sp fo opc om') {u a s left rest : Nat} (h1 : ∀ w, w < nw → opc u w = true → g a w = true → 0 < zk_N un nw sp opc fo u w → (om' u).testBit w = true) (h2 : ∀ w, w < nw → (om' u).testBit w = true → s.testBit w = g a w) {w : Nat} (hw : w < nw) : zk_Qd un nw sp wt opc fo om' u s left w = zk_Q un nw sp wt opc fo g (u, a, left, rest) w := by
  show (if (om' u).testBit w && s.testBit w then zk_T un nw sp wt opc fo u w left else 0) = if opc u w && g a w then zk_T un nw sp wt opc fo u w left else 0
  cases q : (om' u).testBit w
  · simp only [Bool.false_and, Bool.false_eq_true, if_false]
    cases q2 : (opc u w && g a w)
    · rfl
    · rw [Bool.and_eq_true] at q2
      rw [if_pos rfl]
      refine (Nat.eq_zero_of_not_pos (fun hp => ?_)).symm
      have := h1 w hw q2.1 q2.2 (zk_T_N hp)
      rw [q] at this; cases this
  · rw [h2 w hw q, (hc.1 u w q).2]
theorem zk_at_h (hin : ∀ u w, w < nw → op u w = true → u + sp w ≤ un) (hg : ∀ a w, a < nw → g a w = fo a w) (hg8 : ∀ w, g 8 w = true) {t r um : Nat} (h0 : r < zk_HV un nw sp wt op fo g 0 8 t) {om' : Nat → Nat} (hle : ∀ u w, op u w = true → opc u w = true) (hc : zk_op un nw sp fo opc om') (hum : ∀ w, (om' 0).testBit w = true → um.testBit w = true) : ∀ i, (zk_at un nw sp wt op fo g t r i).1 < un → (∀ w, w < nw → opc (zk_at un nw sp wt op fo g t r i).1 w = true → g (zk_at un nw sp wt op fo g t r i).2.1 w = true → 0 < zk_N un nw sp opc fo (zk_at un nw sp wt op fo g t r i).1 w → (om' (zk_at un nw sp wt op fo g t r i).1).testBit w = true) ∧ (∀ w, w < nw → (om' (zk_at un nw sp wt op fo g t r i).1).testBit w = true → (zk_sb un nw sp wt op fo g t r um i).testBit w = g (zk_at un nw sp wt op fo g t r i).2.1 w) := by
  intro i h
  cases i with
  | zero =>
    refine ⟨fun w hw q1 _ q3 => hc.2.1 w hw q1 q3, fun w hw q => ?_⟩
    show um.testBit w = g 8 w
    rw [hum w q, hg8]
  | succ i =>
    rw [zk_at_1] at h ⊢
    rw [zk_at_2]
    have hi := zk_wd_ok hin hg h0 (i := i) (by omega)
    have ho := zk_at_om hin hg h0 hle hc i (by omega)
    refine ⟨fun w hw q1 q2 q3 => ?_, fun w hw q => ?_⟩
    · rw [hg _ _ hi.1] at q2
      exact hc.2.2 _ _ _ ho hw q1 q2 q3
    · show (zy_mk nw (fo (zk_wd un nw sp wt op fo g t r i))).testBit w = _
      rw [zy_mk_bit, hg _ _ hi.1]; simp [hw]
/-- where the walk ends -/
def zk_fin (un nw : Nat) (sp wt : Nat → Nat) (op fo g : Nat → Nat → Bool) (t r n : Nat) : Prop := (∀ j, j < n → (zk_at un nw sp wt op fo g t r j).1 < un) ∧ un ≤ (zk_at un nw sp wt op fo g t r n).1
theorem zk_fin_u {t r m n : Nat} (h1 : zk_fin un nw sp wt op fo g t r m) (h2 : zk_fin un nw sp wt op fo g t r n) : m = n := by
  rcases Nat.lt_trichotomy m n with h | h | h
  · have := h2.1 m h; have := h1.2; omega
  · exact h
  · have := h1.1 n h; have := h2.2; omega
theorem zk_T_bd (hnw : nw ≤ 8) (h24 : un ≤ 24) (hsp : ∀ w, w < nw → 2 ≤ sp w) {u w t : Nat} (hw : w < nw) : zk_T un nw sp wt op fo u w t ≤ 8 ^ 8 := Nat.le_trans (zk_T_le _ _ _ _ (Nat.le_refl _)) (Nat.le_trans (zk_N_bd hnw hsp _ _ _ (Nat.le_refl _) hw) (Nat.pow_le_pow_right (by decide) (by omega)))
theorem zk_W_bd (hnw : nw ≤ 8) (h24 : un ≤ 24) (hsp : ∀ w, w < nw → 2 ≤ sp w) {t : Nat} : zk_W un nw sp wt op fo t ≤ 8 ^ 9 := by
  unfold zk_W
  have hb : ∀ w, w < nw → (if op 0 w then zk_T un nw sp wt op fo 0 w t else 0) ≤ 8 ^ 8 := by
    intro w hw
    split
    · exact zk_T_bd hnw h24 hsp hw
    · exact Nat.zero_le _
  exact Nat.le_trans (zt_sum_le hb) (Nat.le_trans (Nat.mul_le_mul_right _ hnw) (by decide))
end
theorem zn_lle {a b : Nat} {A B : Prop} (ha : a < 2 ^ 63) (hb : b < 2 ^ 63) (f : a ≤ b → A) (g : b < a → B) : (lN a ≤ lN b → A) ∧ (¬ lN a ≤ lN b → B) := by
  rw [pk_lLE ha hb]; exact ⟨f, fun z => g (by omega)⟩
theorem zn_llt {a b : Nat} {A B : Prop} (ha : a < 2 ^ 63) (hb : b < 2 ^ 63) (f : a < b → A) (g : b ≤ a → B) : (lN a < lN b → A) ∧ (¬ lN a < lN b → B) := by
  rw [pk_lLT ha hb]; exact ⟨f, fun z => g (by omega)⟩
