/-! the text: what it says -/
abbrev zr_S : Type := Nat × Bool × (Nat → Nat → Nat) × (Nat → Nat) × (Nat → Bool)
theorem zr_tt {b : Bool} (h : ¬ b = false) : b = true := by
  cases b
  · exact absurd rfl h
  · rfl
def zr_is (tx : Nat → Nat) (n b lo hi p : Nat) : Bool := decide (p < n) && (decide (b + lo ≤ tx p) && decide (tx p ≤ b + hi))
theorem zr_is_t {tx : Nat → Nat} {n b lo hi p : Nat} (h : zr_is tx n b lo hi p = true) : p < n ∧ b + lo ≤ tx p ∧ tx p ≤ b + hi := by
  unfold zr_is at h
  rw [Bool.and_eq_true, Bool.and_eq_true] at h
  exact ⟨of_decide_eq_true h.1, of_decide_eq_true h.2.1, of_decide_eq_true h.2.2⟩
theorem zr_is_f {tx : Nat → Nat} {n b lo hi p : Nat} (h : zr_is tx n b lo hi p = false) (hp : p < n) : tx p < b + lo ∨ b + hi < tx p := by
  refine Classical.byContradiction (fun c => ?_)
  have : zr_is tx n b lo hi p = true := by
    unfold zr_is
    rw [decide_eq_true hp, decide_eq_true (show b + lo ≤ tx p by omega), decide_eq_true (show tx p ≤ b + hi by omega)]; rfl
  rw [h] at this; cases this
theorem zr_is_of {tx : Nat → Nat} {n b lo hi p : Nat} (hp : p < n) (h1 : b + lo ≤ tx p) (h2 : tx p ≤ b + hi) : zr_is tx n b lo hi p = true := by
  unfold zr_is
  rw [decide_eq_true hp, decide_eq_true h1, decide_eq_true h2]; rfl
theorem zr_is_no {tx : Nat → Nat} {n b lo hi p : Nat} (h : ¬ (p < n ∧ b + lo ≤ tx p ∧ tx p ≤ b + hi)) : zr_is tx n b lo hi p = false := by
  cases q : zr_is tx n b lo hi p
  · rfl
  · exact absurd (zr_is_t q) h
def zr_cn (f : Nat → Bool) : Nat → Nat → Nat
  | 0, _ => 0
  | k + 1, p => if f p then zr_cn f k (p + 1) + 1 else 0
theorem zr_cn_t {f : Nat → Bool} {K i p : Nat} (hi : i < K) (h : f (p + i) = true) : zr_cn f (K - i) (p + i) = zr_cn f (K - (i + 1)) (p + (i + 1)) + 1 := by
  rw [show K - i = K - (i + 1) + 1 by omega]
  simp only [zr_cn]
  rw [if_pos h, Nat.add_assoc]
theorem zr_cn_f {f : Nat → Bool} {K i p : Nat} (hi : i < K) (h : f (p + i) = false) : zr_cn f (K - i) (p + i) = 0 := by
  rw [show K - i = K - (i + 1) + 1 by omega]
  simp only [zr_cn]
  rw [h]; rfl
theorem zr_cn_all {f : Nat → Bool} : ∀ {K p : Nat}, zr_cn f K p ≤ K ∧ ∀ i, i < zr_cn f K p → f (p + i) = true := by
  intro K
  induction K with
  | zero => intro p; exact ⟨Nat.le_refl _, fun i hi => absurd hi (by simp [zr_cn])⟩
  | succ K ih =>
    intro p
    simp only [zr_cn]
    cases q : f p
    · exact ⟨by simp, fun i hi => absurd hi (by simp)⟩
    · rw [if_pos rfl]
      obtain ⟨h1, h2⟩ := ih (p := p + 1)
      refine ⟨by omega, fun i hi => ?_⟩
      cases i with
      | zero => exact q
      | succ i =>
        have := h2 i (by omega)
        rw [show p + (i + 1) = p + 1 + i by omega]; exact this
def zr_lw (tx : Nat → Nat) (lx : Nat → Nat → Nat) (p c : Nat) : Nat → Nat → Nat := fun a j =>
  if a = 0 then (if j = 0 then lx 0 0 + 1 else lx 0 j) else if a = 2 then (if j = lx 0 0 then c else lx 2 j) else if a = 3 then (if 5 * lx 0 0 ≤ j ∧ j < 5 * lx 0 0 + c then tx (p + (j - 5 * lx 0 0)) - 97 else lx 3 j) else if a = 4 then (if j = lx 0 0 then tx (p + c) - 48 else lx 4 j) else if a = 5 then (if j = lx 0 0 then tx (p + c + 1) - 48 else lx 5 j) else lx a j
section
variable {tx : Nat → Nat} {lx : Nat → Nat → Nat} {p c : Nat}
theorem zr_lw_0 : zr_lw tx lx p c 0 0 = lx 0 0 + 1 := by unfold zr_lw; rw [if_pos rfl, if_pos rfl]
theorem zr_lw_1 {j : Nat} : zr_lw tx lx p c 1 j = lx 1 j := by
  unfold zr_lw; rw [if_neg (by decide), if_neg (by decide), if_neg (by decide), if_neg (by decide), if_neg (by decide)]
theorem zr_lw_2 {j : Nat} : zr_lw tx lx p c 2 j = if j = lx 0 0 then c else lx 2 j := by unfold zr_lw; rw [if_neg (by decide), if_pos rfl]
theorem zr_lw_3 {j : Nat} : zr_lw tx lx p c 3 j = if 5 * lx 0 0 ≤ j ∧ j < 5 * lx 0 0 + c then tx (p + (j - 5 * lx 0 0)) - 97 else lx 3 j := by unfold zr_lw; rw [if_neg (by decide), if_neg (by decide), if_pos rfl]
theorem zr_lw_4 {j : Nat} : zr_lw tx lx p c 4 j = if j = lx 0 0 then tx (p + c) - 48 else lx 4 j := by unfold zr_lw; rw [if_neg (by decide), if_neg (by decide), if_neg (by decide), if_pos rfl]
theorem zr_lw_5 {j : Nat} : zr_lw tx lx p c 5 j = if j = lx 0 0 then tx (p + c + 1) - 48 else lx 5 j := by unfold zr_lw; rw [if_neg (by decide), if_neg (by decide), if_neg (by decide), if_neg (by decide), if_pos rfl]
end
def zr_bad (s : zr_S) (p : Nat) : zr_S := (p, true, s.2.2)
def zr_word1 (tx : Nat → Nat) (n : Nat) (s : zr_S) (c : Nat) : zr_S :=
  if c < 2 then zr_bad s (s.1 + 1 + c) else if zr_is tx n 48 0 2 (s.1 + 1 + c) = false then zr_bad s (s.1 + 1 + c) else if zr_is tx n 48 0 2 (s.1 + 1 + c + 1) = false then zr_bad s (s.1 + 1 + c + 1) else if zr_is tx n 48 1 9 (s.1 + 1 + c + 2) = false then zr_bad s (s.1 + 1 + c + 2) else (s.1 + 1 + c + 3, false, zr_lw tx s.2.2.1 (s.1 + 1) c, zx_set s.2.2.2.1 (11 + s.2.2.1 0 0) (tx (s.1 + 1 + c + 2) - 48), s.2.2.2.2)
def zr_word (tx : Nat → Nat) (n : Nat) (s : zr_S) : zr_S := if s.2.2.1 0 0 = 8 then zr_bad s s.1 else zr_word1 tx n s (zr_cn (zr_is tx n 97 0 5) 5 (s.1 + 1))
def zr_tk (gr : Nat → Bool) (p : Nat) : Bool := gr (3 * p) && gr (3 * p + 1) && gr (3 * p + 2)
def zr_rule (tx : Nat → Nat) (n : Nat) (s : zr_S) : zr_S :=
  if (zr_tk s.2.2.2.2 0 && zr_tk s.2.2.2.2 1 && zr_tk s.2.2.2.2 2) = true then zr_bad s s.1 else if zr_is tx n 48 0 2 (s.1 + 1) = false then zr_bad s (s.1 + 1) else if zr_tk s.2.2.2.2 (tx (s.1 + 1) - 48) = true then zr_bad s (s.1 + 1) else if zr_is tx n 48 0 2 (s.1 + 2) = false then zr_bad s (s.1 + 2) else if s.2.2.2.2 (3 * (tx (s.1 + 1) - 48) + (tx (s.1 + 2) - 48)) = true then zr_bad s (s.1 + 2) else if zr_is tx n 48 0 2 (s.1 + 3) = false then zr_bad s (s.1 + 3) else (s.1 + 4, false, s.2.2.1, zx_set s.2.2.2.1 (2 + (3 * (tx (s.1 + 1) - 48) + (tx (s.1 + 2) - 48))) (tx (s.1 + 3) - 48), fun j => s.2.2.2.2 j || decide (j = 3 * (tx (s.1 + 1) - 48) + (tx (s.1 + 2) - 48)))
def zr_pl (pg : Nat → Nat) (x m : Nat) : Nat → Nat := fun j => if j = 0 then pg 0 + m else if 19 + pg 0 ≤ j ∧ j < 19 + pg 0 + m then (if x = 7 ∨ j = 19 + pg 0 then x else 8) else pg j
def zr_lay (s : zr_S) (x m : Nat) : zr_S := if 24 < s.2.2.2.1 0 + m then zr_bad s s.1 else (s.1 + 1, false, s.2.2.1, zr_pl s.2.2.2.1 x m, s.2.2.2.2)
def zr_sg (tx : Nat → Nat) (n : Nat) (s : zr_S) : zr_S := if tx s.1 = 46 then zr_lay s 6 1 else if zr_is tx n 97 0 5 s.1 = true then zr_lay s (tx s.1 - 97) (s.2.2.1 1 (tx s.1 - 97)) else if zr_is tx n 48 1 9 s.1 = true then zr_lay s 7 (tx s.1 - 48) else zr_bad s s.1
def zr_go (f : zr_S → zr_S) (n : Nat) : Nat → zr_S → zr_S
  | 0, s => s
  | k + 1, s => if s.2.1 = true ∨ n ≤ s.1 then s else zr_go f n k (f s)
def zr_line (tx : Nat → Nat) (n : Nat) (s : zr_S) : zr_S := if n ≤ s.1 + 1 then zr_bad s (s.1 + 1) else zr_go (zr_sg tx n) n 110 (s.1 + 1, s.2)
def zr_part (tx : Nat → Nat) (n : Nat) (s : zr_S) : zr_S := if tx s.1 = 100 then zr_word tx n s else if tx s.1 = 108 then zr_line tx n s else if tx s.1 = 114 then zr_rule tx n s else zr_bad s s.1
def zr_lx0 (tx : Nat → Nat) : Nat → Nat → Nat := fun a j => if a = 1 then (if j < 6 then tx (1 + j) - 48 else 1) else 0
def zr_pg0 : Nat → Nat := fun j => if 2 ≤ j ∧ j < 11 then 1 else 0
def zr_s0 (tx : Nat → Nat) (n : Nat) : zr_S := if n = 0 ∨ tx 0 ≠ 83 then (0, true, zr_lx0 tx, zr_pg0, fun _ => false) else if zr_cn (zr_is tx n 48 1 3) 6 1 < 6 then (1 + zr_cn (zr_is tx n 48 1 3) 6 1, true, zr_lx0 tx, zr_pg0, fun _ => false) else (7, false, zr_lx0 tx, zr_pg0, fun _ => false)
def zr_end (tx : Nat → Nat) (n : Nat) : zr_S := zr_go (zr_part tx n) n 110 (zr_s0 tx n)
def zr_ok (n : Nat) (s : zr_S) : Prop := s.1 ≤ n ∧ (s.2.1 = false → zx_lexOK s.2.2.1 ∧ zx_pgOK s.2.2.1 s.2.2.2.1)
/-- a step keeps what is well formed, and goes on -/
def zr_gd (n : Nat) (s t : zr_S) : Prop := zr_ok n t ∧ (t.2.1 = false → s.1 < t.1)
theorem zr_bad_gd {n p : Nat} {s : zr_S} (h : p ≤ n) : zr_gd n s (zr_bad s p) := ⟨⟨h, fun q => by cases q⟩, fun q => by cases q⟩
theorem zr_word_gd {tx : Nat → Nat} {n : Nat} {s : zr_S} (hs : s.1 < n) (hok : zr_ok n s) (hb : s.2.1 = false) : zr_gd n s (zr_word tx n s) := by
  obtain ⟨hp, hO⟩ := hok
  obtain ⟨hl, hpg⟩ := hO hb
  unfold zr_word
  by_cases h8 : s.2.2.1 0 0 = 8
  · rw [if_pos h8]; exact zr_bad_gd (by omega)
  rw [if_neg h8]
  obtain ⟨hc5, hcl⟩ := zr_cn_all (f := zr_is tx n 97 0 5) (K := 5) (p := s.1 + 1)
  obtain ⟨c, ec⟩ : ∃ c, c = zr_cn (zr_is tx n 97 0 5) 5 (s.1 + 1) := ⟨_, rfl⟩
  rw [← ec] at hc5 hcl ⊢
  have hcn : s.1 + 1 + c ≤ n := by
    cases c with
    | zero => omega
    | succ c =>
      have := zr_is_t (hcl c (by omega))
      omega
  unfold zr_word1
  by_cases h2 : c < 2
  · rw [if_pos h2]; exact zr_bad_gd hcn
  rw [if_neg h2]
  by_cases h3 : zr_is tx n 48 0 2 (s.1 + 1 + c) = false
  · rw [if_pos h3]; exact zr_bad_gd hcn
  rw [if_neg h3]
  have t3 := zr_is_t (zr_tt h3)
  by_cases h4 : zr_is tx n 48 0 2 (s.1 + 1 + c + 1) = false
  · rw [if_pos h4]; exact zr_bad_gd (by omega)
  rw [if_neg h4]
  have t4 := zr_is_t (zr_tt h4)
  by_cases h5 : zr_is tx n 48 1 9 (s.1 + 1 + c + 2) = false
  · rw [if_pos h5]; exact zr_bad_gd (by omega)
  rw [if_neg h5]
  have t5 := zr_is_t (zr_tt h5)
  obtain ⟨l1, l2, l3, l4⟩ := hl
  obtain ⟨g1, g2, g3, g4, g5, g6⟩ := hpg
  refine ⟨⟨by show s.1 + 1 + c + 3 ≤ n; omega, fun _ => ⟨⟨?_, fun j hj => ?_, ?_, fun w hw => ?_⟩, ?_, ?_, fun j hj => ?_, fun w hw => ?_, fun u hu => ?_, fun u hu hx => ?_⟩⟩, fun _ => by show s.1 < s.1 + 1 + c + 3; omega⟩
  · show zr_lw tx s.2.2.1 (s.1 + 1) c 0 0 ≤ 8
    rw [zr_lw_0]; omega
  · show 1 ≤ zr_lw tx s.2.2.1 (s.1 + 1) c 1 j ∧ zr_lw tx s.2.2.1 (s.1 + 1) c 1 j ≤ 3
    rw [zr_lw_1]; exact l2 j hj
  · show zr_lw tx s.2.2.1 (s.1 + 1) c 1 6 = 1
    rw [zr_lw_1]; exact l3
  · change w < zr_lw tx s.2.2.1 (s.1 + 1) c 0 0 at hw
    rw [zr_lw_0] at hw
    show 2 ≤ zr_lw tx s.2.2.1 (s.1 + 1) c 2 w ∧ zr_lw tx s.2.2.1 (s.1 + 1) c 2 w ≤ 5 ∧ zr_lw tx s.2.2.1 (s.1 + 1) c 4 w < 3 ∧ zr_lw tx s.2.2.1 (s.1 + 1) c 5 w < 3 ∧ ∀ j, j < zr_lw tx s.2.2.1 (s.1 + 1) c 2 w → zr_lw tx s.2.2.1 (s.1 + 1) c 3 (5 * w + j) < 6
    rw [zr_lw_2, zr_lw_4, zr_lw_5]
    by_cases e : w = s.2.2.1 0 0
    · rw [if_pos e, if_pos e, if_pos e]
      refine ⟨by omega, hc5, by omega, by omega, fun j hj => ?_⟩
      rw [zr_lw_3, if_pos (by omega), show 5 * w + j - 5 * s.2.2.1 0 0 = j by omega]
      have := zr_is_t (hcl j hj)
      omega
    · rw [if_neg e, if_neg e, if_neg e]
      obtain ⟨b1, b2, b3, b4, b5⟩ := l4 w (by omega)
      refine ⟨b1, b2, b3, b4, fun j hj => ?_⟩
      rw [zr_lw_3, if_neg (by omega)]
      exact b5 j hj
  · show zx_set s.2.2.2.1 (11 + s.2.2.1 0 0) _ 0 ≤ 24
    rw [zx_set_ne (by omega)]; exact g1
  · show zx_set s.2.2.2.1 (11 + s.2.2.1 0 0) _ 1 < 256
    rw [zx_set_ne (by omega)]; exact g2
  · show zx_set s.2.2.2.1 (11 + s.2.2.1 0 0) _ (2 + j) ≤ 2
    rw [zx_set_ne (by omega)]; exact g3 j hj
  · change w < zr_lw tx s.2.2.1 (s.1 + 1) c 0 0 at hw
    rw [zr_lw_0] at hw
    show 1 ≤ zx_set s.2.2.2.1 (11 + s.2.2.1 0 0) (tx (s.1 + 1 + c + 2) - 48) (11 + w) ∧ zx_set s.2.2.2.1 (11 + s.2.2.1 0 0) (tx (s.1 + 1 + c + 2) - 48) (11 + w) ≤ 9
    by_cases e : w = s.2.2.1 0 0
    · rw [e, zx_set_at]; omega
    · rw [zx_set_ne (by omega)]; exact g4 w (by omega)
  · change u < zx_set s.2.2.2.1 (11 + s.2.2.1 0 0) _ 0 at hu
    show zx_set s.2.2.2.1 (11 + s.2.2.1 0 0) _ (19 + u) ≤ 8
    rw [zx_set_ne (by omega)] at hu ⊢; exact g5 u hu
  · change u < zx_set s.2.2.2.1 (11 + s.2.2.1 0 0) _ 0 at hu
    change zx_set s.2.2.2.1 (11 + s.2.2.1 0 0) _ (19 + u) < 7 at hx
    show u + zr_lw tx s.2.2.1 (s.1 + 1) c 1 (zx_set s.2.2.2.1 (11 + s.2.2.1 0 0) _ (19 + u)) ≤ zx_set s.2.2.2.1 (11 + s.2.2.1 0 0) _ 0 ∧ ∀ i, 1 ≤ i → i < zr_lw tx s.2.2.1 (s.1 + 1) c 1 (zx_set s.2.2.2.1 (11 + s.2.2.1 0 0) _ (19 + u)) → zx_set s.2.2.2.1 (11 + s.2.2.1 0 0) _ (19 + (u + i)) = 8
    rw [zx_set_ne (by omega)] at hu hx
    rw [zr_lw_1, zx_set_ne (by omega), zx_set_ne (by omega)]
    obtain ⟨b1, b2⟩ := g6 u hu hx
    refine ⟨b1, fun i h1 h2 => ?_⟩
    rw [zx_set_ne (by omega)]; exact b2 i h1 h2
theorem zr_rule_gd {tx : Nat → Nat} {n : Nat} {s : zr_S} (hs : s.1 < n) (hok : zr_ok n s) (hb : s.2.1 = false) : zr_gd n s (zr_rule tx n s) := by
  obtain ⟨hp, hO⟩ := hok
  obtain ⟨hl, hpg⟩ := hO hb
  unfold zr_rule
  by_cases h1 : (zr_tk s.2.2.2.2 0 && zr_tk s.2.2.2.2 1 && zr_tk s.2.2.2.2 2) = true
  · rw [if_pos h1]; exact zr_bad_gd (by omega)
  rw [if_neg h1]
  by_cases h2 : zr_is tx n 48 0 2 (s.1 + 1) = false
  · rw [if_pos h2]; exact zr_bad_gd (by omega)
  rw [if_neg h2]
  have t2 := zr_is_t (zr_tt h2)
  by_cases h3 : zr_tk s.2.2.2.2 (tx (s.1 + 1) - 48) = true
  · rw [if_pos h3]; exact zr_bad_gd (by omega)
  rw [if_neg h3]
  by_cases h4 : zr_is tx n 48 0 2 (s.1 + 2) = false
  · rw [if_pos h4]; exact zr_bad_gd (by omega)
  rw [if_neg h4]
  have t4 := zr_is_t (zr_tt h4)
  by_cases h5 : s.2.2.2.2 (3 * (tx (s.1 + 1) - 48) + (tx (s.1 + 2) - 48)) = true
  · rw [if_pos h5]; exact zr_bad_gd (by omega)
  rw [if_neg h5]
  by_cases h6 : zr_is tx n 48 0 2 (s.1 + 3) = false
  · rw [if_pos h6]; exact zr_bad_gd (by omega)
  rw [if_neg h6]
  have t6 := zr_is_t (zr_tt h6)
  refine ⟨⟨by show s.1 + 4 ≤ n; omega, fun _ => ⟨hl, ?_⟩⟩, fun _ => by show s.1 < s.1 + 4; omega⟩
  exact (zx_set_OK hpg (Or.inr (Or.inl ⟨by omega, by omega, by omega⟩))).1
theorem zr_lay_gd {n x m : Nat} {s : zr_S} (hs : s.1 < n) (hok : zr_ok n s) (hb : s.2.1 = false) (hx : (x = 7 ∧ 1 ≤ m) ∨ (x < 7 ∧ m = s.2.2.1 1 x)) : zr_gd n s (zr_lay s x m) := by
  obtain ⟨hp, hO⟩ := hok
  obtain ⟨hl, hpg⟩ := hO hb
  unfold zr_lay
  by_cases h1 : 24 < s.2.2.2.1 0 + m
  · rw [if_pos h1]; exact zr_bad_gd (by omega)
  rw [if_neg h1]
  obtain ⟨g1, g2, g3, g4, g5, g6⟩ := hpg
  have h8 := hl.1
  obtain ⟨pg, epg⟩ : ∃ pg, pg = s.2.2.2.1 := ⟨_, rfl⟩
  obtain ⟨lx, elx⟩ : ∃ lx, lx = s.2.2.1 := ⟨_, rfl⟩
  rw [← epg] at h1 g1 g2 g3 g4 g5 g6
  rw [← elx] at hx hl g4 g6 h8
  have z0 : zr_pl pg x m 0 = pg 0 + m := by unfold zr_pl; rw [if_pos rfl]
  have zlo : ∀ j, 1 ≤ j → j < 19 + pg 0 → zr_pl pg x m j = pg j := fun j q1 q2 => by unfold zr_pl; rw [if_neg (by omega), if_neg (by omega)]
  have zhi : ∀ j, 19 + pg 0 ≤ j → j < 19 + pg 0 + m → zr_pl pg x m j = if x = 7 ∨ j = 19 + pg 0 then x else 8 := fun j q1 q2 => by unfold zr_pl; rw [if_neg (by omega), if_pos ⟨q1, q2⟩]
  refine ⟨⟨by show s.1 + 1 ≤ n; omega, fun _ => ?_⟩, fun _ => by show s.1 < s.1 + 1; omega⟩
  show zx_lexOK s.2.2.1 ∧ zx_pgOK s.2.2.1 (zr_pl s.2.2.2.1 x m)
  rw [← epg, ← elx]
  refine ⟨hl, by rw [z0]; omega, by rw [zlo 1 (by omega) (by omega)]; exact g2, fun j hj => ?_, fun w hw => ?_, fun u hu => ?_, fun u hu hxu => ?_⟩
  · rw [zlo (2 + j) (by omega) (by omega)]; exact g3 j hj
  · rw [zlo (11 + w) (by omega) (by omega)]; exact g4 w hw
  · rw [z0] at hu
    by_cases q : u < pg 0
    · rw [zlo (19 + u) (by omega) (by omega)]; exact g5 u q
    · rw [zhi (19 + u) (by omega) (by omega)]
      split <;> omega
  · rw [z0] at hu
    by_cases q : u < pg 0
    · rw [zlo (19 + u) (by omega) (by omega)] at hxu ⊢
      obtain ⟨b1, b2⟩ := g6 u q hxu
      refine ⟨by rw [z0]; omega, fun i q1 q2 => ?_⟩
      rw [zlo (19 + (u + i)) (by omega) (by omega)]; exact b2 i q1 q2
    · rw [zhi (19 + u) (by omega) (by omega)] at hxu ⊢
      by_cases q1 : x = 7 ∨ 19 + u = 19 + pg 0
      · rw [if_pos q1] at hxu ⊢
        have hu2 : u = pg 0 := by omega
        subst hu2
        rcases hx with hx | ⟨hx1, hx2⟩
        · omega
        · refine ⟨by rw [z0]; omega, fun i q2 q3 => ?_⟩
          rw [zhi (19 + (pg 0 + i)) (by omega) (by omega), if_neg (by omega)]
      · rw [if_neg q1] at hxu; omega
theorem zr_sg_gd {tx : Nat → Nat} {n : Nat} {s : zr_S} (hs : s.1 < n) (hok : zr_ok n s) (hb : s.2.1 = false) : zr_gd n s (zr_sg tx n s) := by
  have hl := (hok.2 hb).1
  unfold zr_sg
  by_cases h1 : tx s.1 = 46
  · rw [if_pos h1]; exact zr_lay_gd hs hok hb (Or.inr ⟨by omega, hl.2.2.1.symm⟩)
  rw [if_neg h1]
  by_cases h2 : zr_is tx n 97 0 5 s.1 = true
  · rw [if_pos h2]
    have := zr_is_t h2
    exact zr_lay_gd hs hok hb (Or.inr ⟨by omega, rfl⟩)
  rw [if_neg h2]
  by_cases h3 : zr_is tx n 48 1 9 s.1 = true
  · rw [if_pos h3]
    have := zr_is_t h3
    exact zr_lay_gd hs hok hb (Or.inl ⟨rfl, by omega⟩)
  rw [if_neg h3]; exact zr_bad_gd (by omega)
theorem zr_go_gd {f : zr_S → zr_S} {n : Nat} (hf : ∀ s : zr_S, s.1 < n → zr_ok n s → s.2.1 = false → zr_gd n s (f s)) : ∀ k (s : zr_S), zr_ok n s → zr_ok n (zr_go f n k s) ∧ ((zr_go f n k s).2.1 = false → s.1 ≤ (zr_go f n k s).1) := by
  intro k
  induction k with
  | zero => intro s h; exact ⟨h, fun _ => Nat.le_refl _⟩
  | succ k ih =>
    intro s h
    simp only [zr_go]
    by_cases c : s.2.1 = true ∨ n ≤ s.1
    · rw [if_pos c]; exact ⟨h, fun _ => Nat.le_refl _⟩
    · rw [if_neg c]
      have hb : s.2.1 = false := by
        cases q : s.2.1
        · rfl
        · exact absurd (Or.inl q) c
      have g := hf s (by omega) h hb
      obtain ⟨i1, i2⟩ := ih (f s) g.1
      refine ⟨i1, fun q => ?_⟩
      have h2 := i2 q
      by_cases q2 : (f s).2.1 = false
      · have := g.2 q2; omega
      · have q3 : (f s).2.1 = true := zr_tt q2
        have : zr_go f n k (f s) = f s := by
          cases k with
          | zero => rfl
          | succ k => simp only [zr_go]; rw [if_pos (Or.inl q3)]
        rw [this] at q; exact absurd q q2
theorem zr_part_gd {tx : Nat → Nat} {n : Nat} {s : zr_S} (hs : s.1 < n) (hok : zr_ok n s) (hb : s.2.1 = false) : zr_gd n s (zr_part tx n s) := by
  unfold zr_part
  by_cases h1 : tx s.1 = 100
  · rw [if_pos h1]; exact zr_word_gd hs hok hb
  rw [if_neg h1]
  by_cases h2 : tx s.1 = 108
  · rw [if_pos h2]
    unfold zr_line
    by_cases h3 : n ≤ s.1 + 1
    · rw [if_pos h3]; exact zr_bad_gd (by omega)
    · rw [if_neg h3]
      obtain ⟨a, b⟩ := zr_go_gd (fun s h1 h2 h3 => zr_sg_gd (tx := tx) h1 h2 h3) 110 (s.1 + 1, s.2) ⟨by show s.1 + 1 ≤ n; omega, hok.2⟩
      refine ⟨a, fun q => ?_⟩
      have := b q
      change s.1 + 1 ≤ _ at this
      omega
  rw [if_neg h2]
  by_cases h3 : tx s.1 = 114
  · rw [if_pos h3]; exact zr_rule_gd hs hok hb
  rw [if_neg h3]; exact zr_bad_gd (by omega)
theorem zr_s0_ok {tx : Nat → Nat} {n : Nat} : zr_ok n (zr_s0 tx n) := by
  unfold zr_s0
  by_cases h1 : n = 0 ∨ tx 0 ≠ 83
  · rw [if_pos h1]; exact ⟨Nat.zero_le _, fun q => by cases q⟩
  rw [if_neg h1]
  obtain ⟨hc6, hcl⟩ := zr_cn_all (f := zr_is tx n 48 1 3) (K := 6) (p := 1)
  obtain ⟨c, ec⟩ : ∃ c, c = zr_cn (zr_is tx n 48 1 3) 6 1 := ⟨_, rfl⟩
  rw [← ec] at hc6 hcl ⊢
  have hcn : 1 + c ≤ n := by
    cases c with
    | zero => omega
    | succ c =>
      have := zr_is_t (hcl c (by omega))
      omega
  by_cases h2 : c < 6
  · rw [if_pos h2]; exact ⟨hcn, fun q => by cases q⟩
  rw [if_neg h2]
  have e6 : c = 6 := by omega
  subst e6
  refine ⟨by show 7 ≤ n; omega, fun _ => ⟨⟨Nat.zero_le _, fun j hj => ?_, rfl, fun w hw => absurd hw (Nat.not_lt_zero _)⟩, Nat.zero_le _, by show zr_pg0 1 < 256; decide, fun j hj => ?_, fun w hw => absurd hw (Nat.not_lt_zero _), fun u hu => absurd hu (Nat.not_lt_zero _), fun u hu => absurd hu (Nat.not_lt_zero _)⟩⟩
  · show 1 ≤ (if j < 6 then tx (1 + j) - 48 else 1) ∧ (if j < 6 then tx (1 + j) - 48 else 1) ≤ 3
    by_cases q : j < 6
    · rw [if_pos q]
      have := zr_is_t (hcl j q)
      omega
    · rw [if_neg q]; omega
  · show (if 2 ≤ 2 + j ∧ 2 + j < 11 then 1 else 0) ≤ 2
    split <;> omega
theorem zr_end_ok {tx : Nat → Nat} {n : Nat} : zr_ok n (zr_end tx n) := (zr_go_gd (fun s h1 h2 h3 => zr_part_gd (tx := tx) h1 h2 h3) 110 _ zr_s0_ok).1
