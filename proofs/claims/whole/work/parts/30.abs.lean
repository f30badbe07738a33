/-! the pure part: what the cells say, in natural numbers -/
def zt_sum : Nat → (Nat → Nat) → Nat
  | 0, _ => 0
  | n + 1, f => zt_sum n f + f n
def zt_all : Nat → (Nat → Bool) → Bool
  | 0, _ => true
  | n + 1, f => zt_all n f && f n
theorem zt_all_iff {n : Nat} {f : Nat → Bool} : zt_all n f = true ↔ ∀ i, i < n → f i = true := by
  induction n with
  | zero => simp [zt_all]
  | succ n ih =>
    simp only [zt_all, Bool.and_eq_true, ih]
    constructor
    · intro h i hi
      rcases Nat.lt_succ_iff_lt_or_eq.mp hi with h1 | h1
      · exact h.1 i h1
      · rw [h1]; exact h.2
    · intro h
      exact ⟨fun i hi => h i (by omega), h n (by omega)⟩
theorem zt_sum_congr {n : Nat} {f g : Nat → Nat} (h : ∀ i, i < n → f i = g i) : zt_sum n f = zt_sum n g := by
  induction n with
  | zero => rfl
  | succ n ih => simp only [zt_sum]; rw [ih (fun i hi => h i (by omega)), h n (by omega)]
theorem zt_sum_le {n c : Nat} {f : Nat → Nat} (h : ∀ i, i < n → f i ≤ c) : zt_sum n f ≤ n * c := by
  induction n with
  | zero => simp [zt_sum]
  | succ n ih =>
    have h1 := ih (fun i hi => h i (by omega))
    have h2 := h n (by omega)
    simp only [zt_sum]
    rw [Nat.succ_mul]; omega
theorem zt_sum_ge {n c : Nat} {f : Nat → Nat} (h : ∀ i, i < n → c ≤ f i) : n * c ≤ zt_sum n f := by
  induction n with
  | zero => simp [zt_sum]
  | succ n ih =>
    have h1 := ih (fun i hi => h i (by omega))
    have h2 := h n (by omega)
    simp only [zt_sum]
    rw [Nat.succ_mul]; omega
/-- lexicon: lx 0 0 words; lx 1 x width; lx 2 w letters' number; lx 3 (5w+j) letter; lx 4 w kind; lx 5 w ending. page: as the reference lays it -/
def zx_off (lx : Nat → Nat → Nat) (w j : Nat) : Nat := zt_sum j (fun i => lx 1 (lx 3 (5 * w + i)))
def zx_sp (lx : Nat → Nat → Nat) (w : Nat) : Nat := zx_off lx w (lx 2 w)
def zx_lexOK (lx : Nat → Nat → Nat) : Prop := lx 0 0 ≤ 8 ∧ (∀ j, j < 7 → 1 ≤ lx 1 j ∧ lx 1 j ≤ 3) ∧ lx 1 6 = 1 ∧ ∀ w, w < lx 0 0 → 2 ≤ lx 2 w ∧ lx 2 w ≤ 5 ∧ lx 4 w < 3 ∧ lx 5 w < 3 ∧ ∀ j, j < lx 2 w → lx 3 (5 * w + j) < 6
def zx_lexC (b : Nat) (I : zz_I) (lx : Nat → Nat → Nat) : Prop := I b 6 = nI (lx 0 0) ∧ (∀ j, j < 7 → I (b + 1) j = nI (lx 1 j)) ∧ ∀ w, w < lx 0 0 → I (b + 3) w = nI (lx 2 w) ∧ I (b + 4) w = nI (lx 4 w) ∧ I (b + 5) w = nI (lx 5 w) ∧ I (b + 6) w = nI (zx_sp lx w) ∧ ∀ j, j < lx 2 w → I (b + 2) (5 * w + j) = nI (lx 3 (5 * w + j))
def zx_lexM (f kw : Nat) (I : zz_I) (lx : Nat → Nat → Nat) : Prop := I 0 f = nI (lx 0 0) ∧ (∀ j, j < 7 → I kw j = nI (lx 1 j)) ∧ ∀ w, w < lx 0 0 → I (kw + 1) w = nI (lx 2 w) ∧ I (kw + 3) w = nI (lx 4 w) ∧ I (kw + 4) w = nI (lx 5 w) ∧ ∀ j, j < lx 2 w → I (kw + 2) (5 * w + j) = nI (lx 3 (5 * w + j))
def zx_pgOK (lx : Nat → Nat → Nat) (pg : Nat → Nat) : Prop := pg 0 ≤ 24 ∧ pg 1 < 256 ∧ (∀ j, j < 9 → pg (2 + j) ≤ 2) ∧ (∀ w, w < lx 0 0 → 1 ≤ pg (11 + w) ∧ pg (11 + w) ≤ 9) ∧ (∀ u, u < pg 0 → pg (19 + u) ≤ 8) ∧ ∀ u, u < pg 0 → pg (19 + u) < 7 → u + lx 1 (pg (19 + u)) ≤ pg 0 ∧ ∀ i, 1 ≤ i → i < lx 1 (pg (19 + u)) → pg (19 + (u + i)) = 8
def zx_pgC (t : Nat) (I : zz_I) (lx : Nat → Nat → Nat) (pg : Nat → Nat) : Prop := I t 3 = nI (pg 0) ∧ I t 4 = nI (pg 1) ∧ (∀ j, j < 9 → I (t + 2) j = nI (pg (2 + j))) ∧ (∀ w, w < lx 0 0 → I (t + 3) w = nI (pg (11 + w))) ∧ ∀ u, u < pg 0 → I (t + 1) u = nI (pg (19 + u))
def zx_pgM (k o : Nat) (I : zz_I) (lx : Nat → Nat → Nat) (pg : Nat → Nat) : Prop := I k o = nI (pg 0) ∧ I k (o + 1) = nI (pg 1) ∧ (∀ j, j < 9 → I k (o + (2 + j)) = nI (pg (2 + j))) ∧ (∀ w, w < lx 0 0 → I k (o + (11 + w)) = nI (pg (11 + w))) ∧ ∀ u, u < pg 0 → I k (o + (19 + u)) = nI (pg (19 + u))
/-- changes of a page -/
def zx_gap (pg : Nat → Nat) (u n : Nat) : Nat → Nat := fun j => if 19 + u ≤ j ∧ j < 19 + u + n then 7 else pg j
def zx_put (pg : Nat → Nat) (u x n : Nat) : Nat → Nat := fun j => if 19 + u ≤ j ∧ j < 19 + u + n then (if j = 19 + u then x else 8) else pg j
def zx_set (pg : Nat → Nat) (k v : Nat) : Nat → Nat := fun j => if j = k then v else pg j
def zx_inv (lx : Nat → Nat → Nat) (d p v : Nat) (pg : Nat → Nat) : Nat → Nat :=
  if d = 0 then zx_put pg p v (lx 1 v) else if d = 1 then zx_gap pg p (lx 1 v) else if d = 2 then zx_set pg 1 (pg 1 ^^^ (2 ^ p)) else if d = 3 then zx_set pg (2 + p) v else zx_set pg (11 + p) v
/-- an act that can be undone -/
def zx_actOK (lx : Nat → Nat → Nat) (un d p v : Nat) : Prop := (d = 0 ∧ v < 7 ∧ p + lx 1 v ≤ un) ∨ (d = 1 ∧ v < 7 ∧ p + lx 1 v ≤ un) ∨ (d = 2 ∧ p < lx 0 0 ∧ v = 0) ∨ (d = 3 ∧ p < 9 ∧ v ≤ 2) ∨ (d = 4 ∧ p < lx 0 0 ∧ 1 ≤ v ∧ v ≤ 9)
/-- the acts: d of them, the ring's next place nx, the pages before them -/
def zx_hist (IC IM : zz_I) (lx : Nat → Nat → Nat) (pg : Nat → Nat) (d nx : Nat) (pgs : Nat → Nat → Nat) : Prop :=
  d ≤ 14 ∧ nx < 14 ∧ IC 29 3 = nI d ∧ IC 29 4 = nI nx ∧ IM 0 21 = nI d ∧ pgs d = pg ∧ ∀ i, i < d → zx_pgM 16 (43 * i) IM lx (pgs i) ∧ zx_pgOK lx (pgs i) ∧ pgs i 0 = pg 0 ∧
    ∃ e p v : Nat, IC 30 ((nx + 14 - d + i) % 14) = nI e ∧ IC 31 ((nx + 14 - d + i) % 14) = nI p ∧ IC 32 ((nx + 14 - d + i) % 14) = nI v ∧ zx_actOK lx (pg 0) e p v ∧ pgs i = zx_inv lx e p v (pgs (i + 1))
def zx_slot (IC IM : zz_I) (lx : Nat → Nat → Nat) (fC jM t o : Nat) : Prop := (IC 0 fC = 0 ∧ IM 18 jM = 0) ∨ (IC 0 fC = 1 ∧ IM 18 jM = 1 ∧ ∃ pg : Nat → Nat, zx_pgOK lx pg ∧ zx_pgC t IC lx pg ∧ zx_pgM 17 o IM lx pg)
def zx_text (IC IM : zz_I) (n : Nat) (tx : Nat → Nat) : Prop := n ≤ 110 ∧ IC 1 1 = nI n ∧ IM 0 2 = nI n ∧ ∀ j, j < n → tx j ≤ 255 ∧ IC 2 j = nI (tx j) ∧ IM 1 j = nI (tx j)
def zx_seen (IC IM : zz_I) (n : Nat) (sw su si : Nat → Nat) : Prop := n ≤ 6 ∧ IC 33 3 = nI n ∧ IM 0 24 = nI n ∧ ∀ j, j < n → sw j < 8 ∧ su j < 24 ∧ si j < 2 ∧ IC 34 j = nI (sw j) ∧ IM 19 j = nI (sw j) ∧ IC 35 j = nI (su j) ∧ IM 20 j = nI (su j) ∧ IC 36 j = nI (si j) ∧ IM 21 j = nI (si j)
/-- the main picture: lexicon and page of both -/
def zx_main (IC IM : zz_I) (lx : Nat → Nat → Nat) (pg : Nat → Nat) : Prop := zx_lexOK lx ∧ zx_pgOK lx pg ∧ zx_lexC 14 IC lx ∧ zx_lexM 5 2 IM lx ∧ zx_pgC 21 IC lx pg ∧ zx_pgM 14 0 IM lx pg
/-- what else both hold -/
def zx_misc (IC : zz_I) (LC : zz_L) (IM : zz_I) (LM : zz_L) : Prop := LC 0 12 = LM 0 28 ∧ IC 4 6 = 1 ∧ (IC 45 0 = 0 ∨ IC 45 0 = 14016) ∧ (∀ j, j < 8 → ∃ c : Nat, c < 3 ∧ IM 5 j = nI c) ∧ (∀ j, j < 8 → ∃ c : Nat, c < 3 ∧ IM 10 j = nI c)
def zx_R (IC : zz_I) (LC : zz_L) (IM : zz_I) (LM : zz_L) : Prop :=
  ∃ (lx : Nat → Nat → Nat) (pg : Nat → Nat), zx_main IC IM lx pg ∧ (∃ (d nx : Nat) (pgs : Nat → Nat → Nat), zx_hist IC IM lx pg d nx pgs) ∧ zx_slot IC IM lx 10 0 48 0 ∧ zx_slot IC IM lx 11 1 52 43 ∧ (∃ (n : Nat) (tx : Nat → Nat), zx_text IC IM n tx) ∧ (∃ (n : Nat) (sw su si : Nat → Nat), zx_seen IC IM n sw su si) ∧ zx_misc IC LC IM LM
/-! numbers -/
def zb_i (b : Bool) : Int32 := if b then 1 else 0
theorem zb_br {b : Bool} {A B : Prop} (f : b = false → A) (g : b = true → B) : (zb_i b = 0 → A) ∧ (¬ zb_i b = 0 → B) := by
  cases b
  · exact ⟨fun _ => f rfl, fun h => absurd rfl h⟩
  · exact ⟨fun h => absurd h (by decide), fun _ => g rfl⟩
theorem zb_rb {b : Bool} {A B : Prop} (f : b = true → A) (g : b = false → B) : (¬ zb_i b = 0 → A) ∧ (zb_i b = 0 → B) := ⟨(zb_br (A := B) (B := A) g f).2, (zb_br (A := B) (B := A) g f).1⟩
theorem zb_bool (b : Bool) : zz_bool (zb_i b) := by
  cases b
  · exact Or.inl rfl
  · exact Or.inr rfl
theorem zn_cl {n : Nat} (h : n < 2 ^ 31) : (nI n).toNatClampNeg = n := nI_clamp h
/-- an Int32 is outside [0, n), or is some j below n -/
theorem zn_ix (x : Int32) {n : Nat} (hn : n < 2 ^ 31) : (x < 0 ∨ nI n ≤ x) ∨ ∃ j : Nat, j < n ∧ x = nI j := by
  rcases pk_ix x hn with h | h | h
  · exact Or.inl (Or.inl h)
  · exact Or.inl (Or.inr h)
  · exact Or.inr h
theorem zn_neg {j : Nat} (h : j < 2 ^ 31) : ¬ nI j < 0 := nI_pos h
theorem zn_i64_lt (x y : Int32) : x.toInt64 < y.toInt64 ↔ x < y := by
  rw [Int64.lt_iff_toInt_lt, Int32.lt_iff_toInt_lt, Int32.toInt_toInt64, Int32.toInt_toInt64]
theorem zs_X8_in {x a b : Int32} {P : Int32 → Prop} {I : zz_I} {L : zz_L} (f : (x < a ∨ b < x) → P 0) (g : ¬ x < a → ¬ b < x → P 1) : zp_X8_in x.toInt64 a.toInt64 b.toInt64 P I L := by
  refine ⟨fun c => f (Or.inl ((zn_i64_lt x a).mp c)), fun c => ⟨fun c2 => f (Or.inr ((zn_i64_lt b x).mp c2)), fun c2 => g (fun q => c ((zn_i64_lt x a).mpr q)) (fun q => c2 ((zn_i64_lt b x).mpr q))⟩⟩
theorem zs_X8_noWord {x : Int32} {n : Nat} {P : Int32 → Prop} {I : zz_I} {L : zz_L} (hn : n < 2 ^ 30) (e : I 0 5 = nI n) (f : (x < 0 ∨ nI n ≤ x) → P 1) (g : ∀ j, j < n → x = nI j → P 0) : zp_X8_noWord x P I L := by
  unfold zp_X8_noWord
  rw [e]
  have hz : (0 : Int64) = (0 : Int32).toInt64 := by decide
  rw [hz]
  have key : (nI n - 1 < x) ↔ nI n ≤ x := by
    rw [Int32.lt_iff_toInt_lt, Int32.le_iff_toInt_le]
    have h1 := pk_sub_toInt (a := n) (b := 1) hn (by decide)
    have h2 : (nI n).toInt = (n : Int) := nI_toInt (by omega)
    have h3 : nI n - (1 : Int32) = nI n - nI 1 := rfl
    rw [h3, h1, h2]
    omega
  refine zs_X8_in (fun c => ?_) (fun c1 c2 => ?_)
  · refine ⟨fun h => absurd rfl h, fun _ => f ?_⟩
    rcases c with c | c
    · exact Or.inl c
    · exact Or.inr (key.mp c)
  · refine ⟨fun _ => ?_, fun h => absurd h (by decide)⟩
    rcases zn_ix x (n := n) (by omega) with (h | h) | ⟨j, hj, h⟩
    · exact absurd h c1
    · exact absurd (key.mpr h) c2
    · exact g j hj h
theorem zs_X8_noUnit {x : Int32} {n : Nat} {P : Int32 → Prop} {I : zz_I} {L : zz_L} (hn : n < 2 ^ 30) (e : I 14 0 = nI n) (f : (x < 0 ∨ nI n ≤ x) → P 1) (g : ∀ j, j < n → x = nI j → P 0) : zp_X8_noUnit x P I L := by
  unfold zp_X8_noUnit
  refine ⟨pk_in 0 43 (by decide), ?_⟩
  have e2 : I 14 (0 : Int32).toNatClampNeg = nI n := e
  rw [e2]
  have hz : (0 : Int64) = (0 : Int32).toInt64 := by decide
  rw [hz]
  have key : (nI n - 1 < x) ↔ nI n ≤ x := by
    rw [Int32.lt_iff_toInt_lt, Int32.le_iff_toInt_le]
    have h1 := pk_sub_toInt (a := n) (b := 1) hn (by decide)
    have h2 : (nI n).toInt = (n : Int) := nI_toInt (by omega)
    have h3 : nI n - (1 : Int32) = nI n - nI 1 := rfl
    rw [h3, h1, h2]
    omega
  refine zs_X8_in (fun c => ?_) (fun c1 c2 => ?_)
  · refine ⟨fun h => absurd rfl h, fun _ => f ?_⟩
    rcases c with c | c
    · exact Or.inl c
    · exact Or.inr (key.mp c)
  · refine ⟨fun _ => ?_, fun h => absurd h (by decide)⟩
    rcases zn_ix x (n := n) (by omega) with (h | h) | ⟨j, hj, h⟩
    · exact absurd h c1
    · exact absurd (key.mpr h) c2
    · exact g j hj h
theorem zs_X6_hasUnit {k : Nat} {x : Int32} {n : Nat} {P : Int32 → Prop} {I : zz_I} {L : zz_L} (hn : n < 2 ^ 30) (e : I k 3 = nI n) (f : (x < 0 ∨ nI n ≤ x) → P 0) (g : ∀ j, j < n → x = nI j → P 1) : zp_X6_hasUnit k x P I L := by
  unfold zp_X6_hasUnit
  rw [e]
  refine ⟨fun c => f (Or.inl c), fun c => ⟨fun c2 => f (Or.inr c2), fun c2 => ?_⟩⟩
  rcases zn_ix x (n := n) (by omega) with (h | h) | ⟨j, hj, h⟩
  · exact absurd h c
  · exact absurd h c2
  · exact g j hj h
theorem zs_X2_hasWord {x : Int32} {n : Nat} {P : Int32 → Prop} {I : zz_I} {L : zz_L} (hn : n < 2 ^ 30) (e : I 14 6 = nI n) (f : (x < 0 ∨ nI n ≤ x) → P 0) (g : ∀ j, j < n → x = nI j → P 1) : zp_X2_hasWord x P I L := by
  unfold zp_X2_hasWord
  rw [e]
  refine ⟨fun c => f (Or.inl c), fun c => ⟨fun c2 => f (Or.inr c2), fun c2 => ?_⟩⟩
  rcases zn_ix x (n := n) (by omega) with (h | h) | ⟨j, hj, h⟩
  · exact absurd h c
  · exact absurd h c2
  · exact g j hj h
/-- the one test decides the other's -/
theorem zn_out {x : Int32} {n j : Nat} (hn : n < 2 ^ 31) (h : x < 0 ∨ nI n ≤ x) (hj : j < n) (e : x = nI j) : False := by
  rw [e] at h
  rcases h with h | h
  · exact nI_pos (by omega) h
  · have := (nI_leI hn (by omega)).mp h
    omega
theorem zn_j {i j : Nat} (hi : i < 2 ^ 31) (hj : j < 2 ^ 31) (h : nI i = nI j) : i = j := (nI_eq hi hj).mp h
