/-! sums over sets of words -/
def zd_E (v : Nat → Nat) : Nat → (Nat → Bool) → (Nat → Nat) → Nat → Nat → Nat
  | 0, _, b, s, c => b c * v s
  | n + 1, D, b, s, c => zd_E v n D b s c + (if D n then zd_E v n D b (s ||| 2 ^ n) (c + 1) else 0)
def zd_it : Nat → (Nat → Nat) → Nat → Nat
  | 0, b => b
  | k + 1, b => zd_it k (fun c => b c + b (c + 1))
def zd_n (n : Nat) (D : Nat → Bool) : Nat := zt_sum n (fun w => if D w then 1 else 0)
section
variable {v : Nat → Nat} {D D' : Nat → Bool}
theorem zd_E_lin {n : Nat} {b g : Nat → Nat} : ∀ {s c : Nat}, zd_E v n D (fun c => b c + g c) s c = zd_E v n D b s c + zd_E v n D g s c := by
  induction n with
  | zero => intro s c; simp only [zd_E]; rw [Nat.add_mul]
  | succ n ih =>
    intro s c
    simp only [zd_E]
    rw [ih, ih]
    cases D n
    · simp
    · simp only [if_true]; omega
theorem zd_E_mul {n k : Nat} {b : Nat → Nat} : ∀ {s c : Nat}, zd_E v n D (fun c => k * b c) s c = k * zd_E v n D b s c := by
  induction n with
  | zero => intro s c; simp only [zd_E]; rw [Nat.mul_assoc]
  | succ n ih =>
    intro s c
    simp only [zd_E]
    rw [ih, ih]
    cases D n
    · simp
    · simp only [if_true]; rw [Nat.mul_add]
theorem zd_E_congr {n : Nat} {b g : Nat → Nat} : ∀ {s c : Nat}, (∀ e, c ≤ e → e ≤ c + zd_n n D → b e = g e) → zd_E v n D b s c = zd_E v n D g s c := by
  induction n with
  | zero => intro s c h; simp only [zd_E]; rw [h c (by omega) (by omega)]
  | succ n ih =>
    intro s c h
    have hn : zd_n (n + 1) D = zd_n n D + (if D n then 1 else 0) := rfl
    simp only [zd_E]
    rw [ih (fun e h1 h2 => h e h1 (by omega))]
    cases q : D n
    · rfl
    · rw [q, if_pos rfl] at hn
      simp only [if_true]
      rw [ih (fun e h1 h2 => h e (by omega) (by omega))]
theorem zd_E_shift {n j : Nat} (hv : ∀ s, v (s ||| 2 ^ j) = v s) {b : Nat → Nat} : ∀ {s c : Nat}, zd_E v n D b (s ||| 2 ^ j) (c + 1) = zd_E v n D (fun c => b (c + 1)) s c := by
  induction n with
  | zero => intro s c; simp only [zd_E]; rw [hv]
  | succ n ih =>
    intro s c
    simp only [zd_E]
    rw [ih, show s ||| 2 ^ j ||| 2 ^ n = s ||| 2 ^ n ||| 2 ^ j by rw [Nat.or_assoc, Nat.or_comm (2 ^ j), ← Nat.or_assoc], ih]
theorem zd_main {n : Nat} (hsub : ∀ j, D' j = true → D j = true) (hv : ∀ j, D j = true → D' j = false → ∀ s, v (s ||| 2 ^ j) = v s) : ∀ {b : Nat → Nat} {s c : Nat}, zd_E v n D b s c = zd_E v n D' (zd_it (zd_n n (fun w => D w && !D' w)) b) s c := by
  induction n with
  | zero => intro b s c; rfl
  | succ n ih =>
    intro b s c
    have hn : zd_n (n + 1) (fun w => D w && !D' w) = zd_n n (fun w => D w && !D' w) + (if D n && !D' n then 1 else 0) := rfl
    rw [hn]
    simp only [zd_E]
    cases q : D n
    · have q2 : D' n = false := by
        cases r : D' n
        · rfl
        · rw [hsub n r] at q; cases q
      rw [q2]
      simp only [Bool.false_and, Bool.false_eq_true, if_false, Nat.add_zero]
      exact ih
    · cases q2 : D' n
      · simp only [Bool.not_false, Bool.and_true, if_true, Bool.false_eq_true, if_false, Nat.add_zero]
        rw [zd_E_shift (hv n q q2), ← zd_E_lin, ih]; rfl
      · simp only [Bool.not_true, Bool.and_false, if_true, Bool.false_eq_true, if_false, Nat.add_zero]
        rw [ih, ih]
end
theorem zd_it_congr {k : Nat} : ∀ {b g : Nat → Nat} {c : Nat}, (∀ e, c ≤ e → e ≤ c + k → b e = g e) → zd_it k b c = zd_it k g c := by
  induction k with
  | zero => intro b g c h; exact h c (by omega) (by omega)
  | succ k ih =>
    intro b g c h
    simp only [zd_it]
    refine ih (fun e h1 h2 => ?_)
    rw [h e h1 (by omega), h (e + 1) (by omega) (by omega)]
theorem zd_it_mul {k m : Nat} : ∀ {b : Nat → Nat} {c : Nat}, zd_it k (fun c => m * b c) c = m * zd_it k b c := by
  induction k with
  | zero => intro b c; rfl
  | succ k ih =>
    intro b c
    simp only [zd_it]
    rw [← ih]
    refine zd_it_congr (fun e _ _ => ?_)
    rw [Nat.mul_add]
def zd_f : Nat → Nat
  | 0 => 1
  | n + 1 => (n + 1) * zd_f n
def zd_bf (N c : Nat) : Nat := zd_f c * zd_f (N - 1 - c)
theorem zd_bf_step {N c : Nat} (h : c + 2 ≤ N) : zd_bf N c + zd_bf N (c + 1) = N * zd_bf (N - 1) c := by
  unfold zd_bf
  obtain ⟨m, hm⟩ : ∃ m, N = c + 2 + m := ⟨N - (c + 2), by omega⟩
  subst hm
  rw [show c + 2 + m - 1 - c = m + 1 by omega, show c + 2 + m - 1 - (c + 1) = m by omega, show c + 2 + m - 1 - 1 - c = m by omega]
  have e1 : zd_f (m + 1) = (m + 1) * zd_f m := rfl
  have e2 : zd_f (c + 1) = (c + 1) * zd_f c := rfl
  rw [e1, e2, show zd_f c * ((m + 1) * zd_f m) = (m + 1) * (zd_f c * zd_f m) by rw [Nat.mul_left_comm], Nat.mul_assoc, ← Nat.add_mul]
  congr 1; omega
theorem zd_bf_it {k : Nat} : ∀ {N c : Nat}, c + k + 1 ≤ N → zd_it k (zd_bf N) c * zd_f (N - k) = zd_f N * zd_bf (N - k) c := by
  induction k with
  | zero => intro N c h; exact Nat.mul_comm _ _
  | succ k ih =>
    intro N c h
    simp only [zd_it]
    rw [zd_it_congr (g := fun c => N * zd_bf (N - 1) c) (fun e h1 h2 => zd_bf_step (by omega)), zd_it_mul, Nat.mul_assoc, show N - (k + 1) = N - 1 - k by omega, ih (by omega), ← Nat.mul_assoc]
    congr 1
    obtain ⟨m, hm⟩ : ∃ m, N = m + 1 := ⟨N - 1, by omega⟩
    subst hm; rfl
def zd_bp (x N c : Nat) : Nat := (10 - x) ^ c * x ^ (N - c)
theorem zd_bp_step {x N c : Nat} (hx : x ≤ 10) (h : c + 1 ≤ N) : zd_bp x N c + zd_bp x N (c + 1) = 10 * zd_bp x (N - 1) c := by
  unfold zd_bp
  obtain ⟨m, hm⟩ : ∃ m, N = c + 1 + m := ⟨N - (c + 1), by omega⟩
  subst hm
  rw [show c + 1 + m - c = m + 1 by omega, show c + 1 + m - (c + 1) = m by omega, show c + 1 + m - 1 - c = m by omega, Nat.pow_succ, Nat.pow_succ, show (10 - x) ^ c * (x ^ m * x) = x * ((10 - x) ^ c * x ^ m) by rw [← Nat.mul_assoc, Nat.mul_comm], show (10 - x) ^ c * (10 - x) * x ^ m = (10 - x) * ((10 - x) ^ c * x ^ m) by rw [Nat.mul_comm ((10 - x) ^ c), Nat.mul_assoc], ← Nat.add_mul]
  congr 1; omega
theorem zd_bp_it {x k : Nat} (hx : x ≤ 10) : ∀ {N c : Nat}, c + k ≤ N → zd_it k (zd_bp x N) c * 10 ^ (N - k) = 10 ^ N * zd_bp x (N - k) c := by
  induction k with
  | zero => intro N c h; exact Nat.mul_comm _ _
  | succ k ih =>
    intro N c h
    simp only [zd_it]
    rw [zd_it_congr (g := fun c => 10 * zd_bp x (N - 1) c) (fun e h1 h2 => zd_bp_step hx (by omega)), zd_it_mul, Nat.mul_assoc, show N - (k + 1) = N - 1 - k by omega, ih (by omega), ← Nat.mul_assoc]
    congr 1
    obtain ⟨m, hm⟩ : ∃ m, N = m + 1 := ⟨N - 1, by omega⟩
    subst hm; rw [Nat.add_sub_cancel, Nat.pow_succ, Nat.mul_comm]
/-- the sum over masks -/
def zd_sub (n : Nat) (D : Nat → Bool) (t : Nat) : Bool := zt_all n (fun k => !t.testBit k || D k)
def zd_on (n t : Nat) : Nat := zt_sum n (fun k => if t.testBit k then 1 else 0)
theorem zd_low {n t k : Nat} (ht : t < 2 ^ n) (hk : k < n) : (2 ^ n + t).testBit k = t.testBit k := by
  rw [Nat.testBit_two_pow_add_gt hk]
theorem zt_all_congr {n : Nat} {f g : Nat → Bool} (h : ∀ i, i < n → f i = g i) : zt_all n f = zt_all n g := by
  induction n with
  | zero => rfl
  | succ n ih => simp only [zt_all]; rw [ih (fun i hi => h i (by omega)), h n (by omega)]
theorem zd_hi {n t : Nat} (ht : t < 2 ^ n) : (2 ^ n + t).testBit n = true := by
  rw [Nat.testBit_two_pow_add_eq, Nat.testBit_lt_two_pow ht]; rfl
theorem zd_or {n t : Nat} (ht : t < 2 ^ n) : 2 ^ n + t = 2 ^ n ||| t := by
  apply Nat.eq_of_testBit_eq
  intro k
  rw [Nat.testBit_or, Nat.testBit_two_pow]
  rcases Nat.lt_trichotomy k n with q | q | q
  · rw [zd_low ht q, decide_eq_false (by omega), Bool.false_or]
  · subst q; rw [zd_hi ht]; simp
  · rw [decide_eq_false (by omega), Bool.false_or]
    have h1 : 2 ^ n + t < 2 ^ (n + 1) := by rw [Nat.pow_succ]; omega
    have h2 : 2 ^ (n + 1) ≤ 2 ^ k := Nat.pow_le_pow_right (by decide) (by omega)
    have h3 : 2 ^ n ≤ 2 ^ k := Nat.pow_le_pow_right (by decide) (by omega)
    rw [Nat.testBit_lt_two_pow (Nat.lt_of_lt_of_le h1 h2), Nat.testBit_lt_two_pow (Nat.lt_of_lt_of_le ht h3)]
theorem zd_sum_E {v : Nat → Nat} {D : Nat → Bool} {b : Nat → Nat} : ∀ {n s c : Nat}, zt_sum (2 ^ n) (fun t => if zd_sub n D t then b (c + zd_on n t) * v (s ||| t) else 0) = zd_E v n D b s c := by
  intro n
  induction n with
  | zero =>
    intro s c
    show 0 + (if true then b (c + 0) * v (s ||| 0) else 0) = b c * v s
    rw [Nat.or_zero]; simp
  | succ n ih =>
    intro s c
    rw [Nat.pow_succ, Nat.mul_two, zt_split]
    simp only [zd_E]
    congr 1
    · rw [← ih]
      refine zt_sum_congr (fun t ht => ?_)
      have hb : t.testBit n = false := Nat.testBit_lt_two_pow ht
      have h1 : zd_sub (n + 1) D t = zd_sub n D t := by
        show (zt_all n (fun k => !t.testBit k || D k) && (!t.testBit n || D n)) = _
        rw [hb]; simp [zd_sub]
      have h2 : zd_on (n + 1) t = zd_on n t := by
        show zt_sum n (fun k => if t.testBit k then 1 else 0) + (if t.testBit n then 1 else 0) = _
        rw [hb]; rfl
      rw [h1, h2]
    · cases q : D n
      · rw [zt_sum_zero]
        · rfl
        · intro t ht
          have : zd_sub (n + 1) D (2 ^ n + t) = false := by
            show (zt_all n (fun k => !(2 ^ n + t).testBit k || D k) && (!(2 ^ n + t).testBit n || D n)) = false
            rw [zd_hi ht, q]; simp
          rw [this]; rfl
      · simp only [if_true]
        rw [← ih]
        refine zt_sum_congr (fun t ht => ?_)
        have h1 : zd_sub (n + 1) D (2 ^ n + t) = zd_sub n D t := by
          show (zt_all n (fun k => !(2 ^ n + t).testBit k || D k) && (!(2 ^ n + t).testBit n || D n)) = _
          rw [q, Bool.or_true, Bool.and_true]
          exact zt_all_congr (fun k hk => by rw [zd_low ht hk])
        have h2 : zd_on (n + 1) (2 ^ n + t) = zd_on n t + 1 := by
          show zt_sum n (fun k => if (2 ^ n + t).testBit k then 1 else 0) + (if (2 ^ n + t).testBit n then 1 else 0) = _
          rw [zd_hi ht, if_pos rfl]
          congr 1
          exact zt_sum_congr (fun k hk => by rw [zd_low ht hk])
        rw [h1, h2, zd_or ht, ← Nat.or_assoc, show c + (zd_on n t + 1) = c + 1 + zd_on n t by omega]
/-- two fractions of one value have the same lowest terms -/
theorem zd_low_terms {a b c d : Nat} (hb : 0 < b) (hd : 0 < d) (h : a * d = c * b) : a / Nat.gcd a b = c / Nat.gcd c d ∧ b / Nat.gcd a b = d / Nat.gcd c d := by
  have hg : 0 < Nat.gcd a b := Nat.gcd_pos_of_pos_right a hb
  have hh : 0 < Nat.gcd c d := Nat.gcd_pos_of_pos_right c hd
  have e1 : Nat.gcd (a * d) (b * d) = Nat.gcd a b * d := Nat.gcd_mul_right a d b
  have e2 : Nat.gcd (c * b) (d * b) = Nat.gcd c d * b := Nat.gcd_mul_right c b d
  have e3 : Nat.gcd a b * d = Nat.gcd c d * b := by rw [← e1, ← e2, h, Nat.mul_comm b d]
  refine ⟨?_, ?_⟩
  · rw [← Nat.mul_div_mul_right a (Nat.gcd a b) hd, ← Nat.mul_div_mul_right c (Nat.gcd c d) hb, e3, h]
  · rw [← Nat.mul_div_mul_right b (Nat.gcd a b) hd, ← Nat.mul_div_mul_right d (Nat.gcd c d) hb, e3, Nat.mul_comm b d]
