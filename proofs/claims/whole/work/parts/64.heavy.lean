/-! readings by weight -/
def zk_T (un nw : Nat) (sp wt : Nat → Nat) (op fo : Nat → Nat → Bool) (u w t : Nat) : Nat :=
  if h : u < un then (if t < wt w then 0 else if u + sp w = un then (if t = wt w then 1 else 0) else zt_sum nw (fun v => if op (u + sp w + 1) v && fo w v then zk_T un nw sp wt op fo (u + sp w + 1) v (t - wt w) else 0)) else 0
termination_by un - u
decreasing_by omega
section
variable {un nw : Nat} {sp wt : Nat → Nat} {op op' fo : Nat → Nat → Bool}
theorem zk_T_no {u w t : Nat} (h : un ≤ u) : zk_T un nw sp wt op fo u w t = 0 := by
  rw [zk_T, dif_neg (by omega)]
theorem zk_T_lt {u w t : Nat} (h : t < wt w) : zk_T un nw sp wt op fo u w t = 0 := by
  rw [zk_T]
  by_cases hu : u < un
  · rw [dif_pos hu, if_pos h]
  · rw [dif_neg hu]
theorem zk_T_end {u w t : Nat} (hu : u < un) (h : u + sp w = un) : zk_T un nw sp wt op fo u w t = if t = wt w then 1 else 0 := by
  by_cases q : t < wt w
  · rw [zk_T_lt q, if_neg (by omega)]
  · rw [zk_T, dif_pos hu, if_neg q, if_pos h]
theorem zk_T_on {u w t : Nat} (hu : u < un) (h : ¬ u + sp w = un) (ht : wt w ≤ t) : zk_T un nw sp wt op fo u w t = zt_sum nw (fun v => if op (u + sp w + 1) v && fo w v then zk_T un nw sp wt op fo (u + sp w + 1) v (t - wt w) else 0) := by
  rw [zk_T, dif_pos hu, if_neg (by omega), if_neg h]
theorem zk_T_le : ∀ n u w t, un - u ≤ n → zk_T un nw sp wt op fo u w t ≤ zk_N un nw sp op fo u w := by
  intro n
  induction n with
  | zero => intro u w t hn; rw [zk_T_no (by omega)]; exact Nat.zero_le _
  | succ n ih =>
    intro u w t hn
    by_cases hu : u < un
    · by_cases he : u + sp w = un
      · rw [zk_T_end hu he, zk_N_end hu he]; split <;> omega
      · by_cases q : t < wt w
        · rw [zk_T_lt q]; exact Nat.zero_le _
        · rw [zk_T_on hu he (by omega), zk_N_on hu he]
          refine zt_sum_mono (fun v hv => ?_)
          cases (op (u + sp w + 1) v && fo w v)
          · exact Nat.le_refl _
          · simpa using ih _ v _ (by omega)
    · rw [zk_T_no (by omega)]; exact Nat.zero_le _
theorem zk_T_N {u w t : Nat} (h : 0 < zk_T un nw sp wt op fo u w t) : 0 < zk_N un nw sp op fo u w := Nat.lt_of_lt_of_le h (zk_T_le (un - u) u w t (Nat.le_refl _))
/-- the greatest weight -/
theorem zk_T_max (hsp : ∀ w, w < nw → 2 ≤ sp w) (hwt : ∀ w, w < nw → wt w ≤ 9) : ∀ n u w t, un - u ≤ n → w < nw → 9 * ((un - u + 1) / 3) < t → zk_T un nw sp wt op fo u w t = 0 := by
  intro n
  induction n with
  | zero => intro u w t hn _ _; exact zk_T_no (by omega)
  | succ n ih =>
    intro u w t hn hw ht
    have h2 := hsp w hw
    have h9 := hwt w hw
    by_cases hu : u < un
    · by_cases he : u + sp w = un
      · rw [zk_T_end hu he, if_neg (by omega)]
      · by_cases q : t < wt w
        · exact zk_T_lt q
        · rw [zk_T_on hu he (by omega)]
          refine zt_sum_zero (fun v hv => ?_)
          by_cases hn2 : un ≤ u + sp w + 1
          · rw [zk_T_no hn2]; simp
          · rw [ih (u + sp w + 1) v _ (by omega) hv (by omega)]; simp
    · exact zk_T_no (by omega)
theorem zt_sum_shift {n k : Nat} {f g : Nat → Nat} (h0 : ∀ i, i < k → f i = 0) (h : ∀ i, i < n → f (k + i) = g i) : zt_sum (k + n) f = zt_sum n g := by
  rw [zt_split, zt_sum_zero h0, Nat.zero_add]
  exact zt_sum_congr h
theorem zk_T_sum (h24 : un ≤ 24) (hsp : ∀ w, w < nw → 2 ≤ sp w) (hwt : ∀ w, w < nw → wt w ≤ 9) : ∀ n u w, un - u ≤ n → w < nw → zt_sum 73 (fun t => zk_T un nw sp wt op fo u w t) = zk_N un nw sp op fo u w := by
  intro n
  induction n with
  | zero => intro u w hn _; rw [zk_N_no (by omega)]; exact zt_sum_zero (fun t _ => zk_T_no (by omega))
  | succ n ih =>
    intro u w hn hw
    have h2 := hsp w hw
    have h9 := hwt w hw
    by_cases hu : u < un
    · by_cases he : u + sp w = un
      · rw [zk_N_end hu he, zt_one (c := wt w)]
        · rw [if_pos (by omega), zk_T_end hu he, if_pos rfl]
        · intro t _ hne
          rw [zk_T_end hu he, if_neg hne]
      · rw [zk_N_on hu he, show (73 : Nat) = wt w + (73 - wt w) by omega, zt_sum_shift (g := fun s => zt_sum nw (fun v => if op (u + sp w + 1) v && fo w v then zk_T un nw sp wt op fo (u + sp w + 1) v s else 0))]
        · rw [zt_sum_swap]
          refine zt_sum_congr (fun v hv => ?_)
          cases (op (u + sp w + 1) v && fo w v)
          · simp only [Bool.false_eq_true, if_false]; exact zt_sum_zero (fun _ _ => rfl)
          · simp only [if_true]
            rw [← ih (u + sp w + 1) v (by omega) hv]
            refine (zt_sum_tail (by omega) (fun t h1 h3 => ?_)).symm
            by_cases hn2 : un ≤ u + sp w + 1
            · exact zk_T_no hn2
            · exact zk_T_max hsp hwt _ _ _ _ (Nat.le_refl _) hv (by omega)
        · intro t ht; exact zk_T_lt ht
        · intro t _
          rw [zk_T_on hu he (by omega), Nat.add_sub_cancel_left]
    · rw [zk_N_no (by omega)]; exact zt_sum_zero (fun t _ => zk_T_no (by omega))
/-- by the word ahead (g) -/
def zk_HV (un nw : Nat) (sp wt : Nat → Nat) (op fo g : Nat → Nat → Bool) (u a t : Nat) : Nat := zt_sum nw (fun w => if op u w && g a w then zk_T un nw sp wt op fo u w t else 0)
/-- the number of readings of a weight -/
def zk_W (un nw : Nat) (sp wt : Nat → Nat) (op fo : Nat → Nat → Bool) (t : Nat) : Nat := zt_sum nw (fun w => if op 0 w then zk_T un nw sp wt op fo 0 w t else 0)
theorem zk_HV_W {g : Nat → Nat → Bool} {t : Nat} (hg : ∀ w, g 8 w = true) : zk_HV un nw sp wt op fo g 0 8 t = zk_W un nw sp wt op fo t := by
  unfold zk_HV zk_W
  refine zt_sum_congr (fun w _ => ?_)
  rw [hg, Bool.and_true]
theorem zk_W_sum (h24 : un ≤ 24) (hsp : ∀ w, w < nw → 2 ≤ sp w) (hwt : ∀ w, w < nw → wt w ≤ 9) : zt_sum 73 (fun t => zk_W un nw sp wt op fo t) = zk_A un nw sp op fo := by
  unfold zk_W zk_A
  rw [zt_sum_swap]
  refine zt_sum_congr (fun w hw => ?_)
  cases op 0 w
  · simp only [Bool.false_eq_true, if_false]; exact zt_sum_zero (fun _ _ => rfl)
  · simp only [if_true]
    exact zk_T_sum h24 hsp hwt un 0 w (by omega) hw
theorem zk_T_HV {g : Nat → Nat → Bool} {u w t : Nat} (hg : ∀ v, g w v = fo w v) (hu : u < un) (h : ¬ u + sp w = un) (ht : wt w ≤ t) : zk_T un nw sp wt op fo u w t = zk_HV un nw sp wt op fo g (u + sp w + 1) w (t - wt w) := by
  rw [zk_T_on hu h ht]
  unfold zk_HV
  refine zt_sum_congr (fun v _ => ?_)
  rw [hg]
/-- how many readings are heavier than t (t ≤ 72) -/
def zk_U (un nw : Nat) (sp wt : Nat → Nat) (op fo : Nat → Nat → Bool) (t : Nat) : Nat := zt_sum (72 - t) (fun i => zk_W un nw sp wt op fo (72 - i))
theorem zk_U_step {t : Nat} (ht : t < 72) : zk_U un nw sp wt op fo t = zk_U un nw sp wt op fo (t + 1) + zk_W un nw sp wt op fo (t + 1) := by
  unfold zk_U
  rw [show 72 - t = 72 - (t + 1) + 1 by omega]
  simp only [zt_sum]
  rw [show 72 - (72 - (t + 1)) = t + 1 by omega]
theorem zk_U_72 : zk_U un nw sp wt op fo 72 = 0 := rfl
theorem zk_U_mono {s t : Nat} (hs : s ≤ t) : zk_U un nw sp wt op fo t ≤ zk_U un nw sp wt op fo s := by
  unfold zk_U
  obtain ⟨d, hd⟩ : ∃ d, 72 - s = 72 - t + d := ⟨(72 - s) - (72 - t), by omega⟩
  rw [hd, zt_split]; omega
theorem zt_rev {n : Nat} {f : Nat → Nat} : zt_sum (n + 1) (fun i => f (n - i)) = zt_sum (n + 1) f := by
  induction n with
  | zero => rfl
  | succ n ih =>
    rw [show n + 1 + 1 = 1 + (n + 1) by omega, zt_split]
    have h1 : zt_sum 1 (fun i => f (n + 1 - i)) = f (n + 1) := by simp [zt_sum]
    have h2 : zt_sum (n + 1) (fun i => f (n + 1 - (1 + i))) = zt_sum (n + 1) (fun i => f (n - i)) := zt_sum_congr (fun i hi => by rw [show n + 1 - (1 + i) = n - i by omega])
    rw [h1, h2, ih, show 1 + (n + 1) = n + 1 + 1 by omega]
    show f (n + 1) + zt_sum (n + 1) f = zt_sum (n + 1) f + f (n + 1)
    omega
theorem zk_U_all (h24 : un ≤ 24) (hsp : ∀ w, w < nw → 2 ≤ sp w) (hwt : ∀ w, w < nw → wt w ≤ 9) : zk_U un nw sp wt op fo 0 + zk_W un nw sp wt op fo 0 = zk_A un nw sp op fo := by
  rw [← zk_W_sum (wt := wt) h24 hsp hwt]
  show zt_sum 72 (fun i => zk_W un nw sp wt op fo (72 - i)) + zk_W un nw sp wt op fo 0 = _
  have := zt_rev (n := 72) (f := fun t => zk_W un nw sp wt op fo t)
  rw [← this]; rfl
/-- the weight of a rank -/
def zk_isW (un nw : Nat) (sp wt : Nat → Nat) (op fo : Nat → Nat → Bool) (rank t : Nat) : Prop := t ≤ 72 ∧ zk_U un nw sp wt op fo t ≤ rank ∧ rank < zk_U un nw sp wt op fo t + zk_W un nw sp wt op fo t
theorem zk_isW_u {rank s t : Nat} (h : zk_isW un nw sp wt op fo rank s) (h2 : zk_isW un nw sp wt op fo rank t) : s = t := by
  have key : ∀ s t, zk_isW un nw sp wt op fo rank s → zk_isW un nw sp wt op fo rank t → ¬ s < t := by
    intro s t h h2 hlt
    obtain ⟨a, b, c⟩ := h
    obtain ⟨a2, b2, c2⟩ := h2
    obtain ⟨t', rfl⟩ : ∃ t', t = t' + 1 := ⟨t - 1, by omega⟩
    have h3 := zk_U_step (un := un) (nw := nw) (sp := sp) (wt := wt) (op := op) (fo := fo) (t := t') (by omega)
    have h4 := zk_U_mono (un := un) (nw := nw) (sp := sp) (wt := wt) (op := op) (fo := fo) (s := s) (t := t') (by omega)
    omega
  have h1 := key s t h h2
  have h3 := key t s h2 h
  omega
theorem zk_W_0 (hwt : ∀ w, w < nw → 1 ≤ wt w) : zk_W un nw sp wt op fo 0 = 0 := by
  unfold zk_W
  refine zt_sum_zero (fun w hw => ?_)
  have := hwt w hw
  rw [zk_T_lt (by omega)]; simp
/-- the word that a rest falls on -/
def zk_pk (nw : Nat) (Q : Nat → Nat) (rest : Nat) : Nat := zt_sum nw (fun w => if zt_sum (w + 1) Q ≤ rest then 1 else 0)
theorem zt_mono_n {a b : Nat} {f : Nat → Nat} (h : a ≤ b) : zt_sum a f ≤ zt_sum b f := by
  obtain ⟨d, rfl⟩ : ∃ d, b = a + d := ⟨b - a, by omega⟩
  rw [zt_split]; omega
theorem zk_pk_eq {Q : Nat → Nat} {rest w : Nat} (hw : w < nw) (h1 : zt_sum w Q ≤ rest) (h2 : rest < zt_sum (w + 1) Q) : zk_pk nw Q rest = w := by
  unfold zk_pk
  have hone : ∀ n, zt_sum n (fun _ => 1) = n := by
    intro n
    induction n with
    | zero => rfl
    | succ n ih => simp only [zt_sum]; rw [ih]
  rw [zt_sum_tail (j := w) (by omega)]
  · refine (zt_sum_congr (g := fun _ => 1) (fun i hi => ?_)).trans (hone w)
    have := zt_mono_n (f := Q) (show i + 1 ≤ w by omega)
    rw [if_pos (by omega)]
  · intro i h3 h4
    have := zt_mono_n (f := Q) (show w + 1 ≤ i + 1 by omega)
    rw [if_neg (by omega)]
theorem zk_pk_ex {Q : Nat → Nat} {rest : Nat} : ∀ {n : Nat}, rest < zt_sum n Q → ∃ w, w < n ∧ zt_sum w Q ≤ rest ∧ rest < zt_sum (w + 1) Q := by
  intro n
  induction n with
  | zero => intro h; exact absurd h (by simp [zt_sum])
  | succ n ih =>
    intro h
    by_cases q : rest < zt_sum n Q
    · obtain ⟨w, h1, h2⟩ := ih q
      exact ⟨w, by omega, h2⟩
    · exact ⟨n, by omega, by omega, h⟩
/-- the ways on from a unit behind a word with a weight left -/
def zk_Q (un nw : Nat) (sp wt : Nat → Nat) (op fo g : Nat → Nat → Bool) (x : Nat × Nat × Nat × Nat) : Nat → Nat := fun w => if op x.1 w && g x.2.1 w then zk_T un nw sp wt op fo x.1 w x.2.2.1 else 0
def zk_go (un nw : Nat) (sp wt : Nat → Nat) (op fo g : Nat → Nat → Bool) (x : Nat × Nat × Nat × Nat) : Nat × Nat × Nat × Nat :=
  (x.1 + sp (zk_pk nw (zk_Q un nw sp wt op fo g x) x.2.2.2) + 1, zk_pk nw (zk_Q un nw sp wt op fo g x) x.2.2.2, x.2.2.1 - wt (zk_pk nw (zk_Q un nw sp wt op fo g x) x.2.2.2), x.2.2.2 - zt_sum (zk_pk nw (zk_Q un nw sp wt op fo g x) x.2.2.2) (zk_Q un nw sp wt op fo g x))
def zk_at (un nw : Nat) (sp wt : Nat → Nat) (op fo g : Nat → Nat → Bool) (t r : Nat) : Nat → Nat × Nat × Nat × Nat
  | 0 => (0, 8, t, r)
  | i + 1 => zk_go un nw sp wt op fo g (zk_at un nw sp wt op fo g t r i)
def zk_wd (un nw : Nat) (sp wt : Nat → Nat) (op fo g : Nat → Nat → Bool) (t r i : Nat) : Nat := (zk_at un nw sp wt op fo g t r (i + 1)).2.1
end
