/-! the text, read by the developers' program: marks, digits, widths -/
def zr_T (I : zz_I) (tx : Nat → Nat) (n : Nat) : Prop := n ≤ 110 ∧ I 1 1 = nI n ∧ ∀ j, j < n → tx j ≤ 255 ∧ I 2 j = nI (tx j)
/-- what reading leaves alone -/
def zr_fr (I0 J : zz_I) : Prop := ∀ k j, (k = 0 ∨ k = 2 ∨ 13 < k ∨ (k = 1 ∧ j = 1) ∨ (k = 4 ∧ j = 6)) → J k j = I0 k j
theorem zr_fr_T {I0 J : zz_I} {tx : Nat → Nat} {n : Nat} (h : zr_fr I0 J) (hT : zr_T I0 tx n) : zr_T J tx n := by
  obtain ⟨a, b, c⟩ := hT
  exact ⟨a, (h 1 1 (by omega)).trans b, fun j hj => ⟨(c j hj).1, (h 2 j (by omega)).trans (c j hj).2⟩⟩
theorem zr_fr_up {I0 J : zz_I} {k i : Nat} {v : Int32} (h : zr_fr I0 J) (hk : ¬ (k = 0 ∨ k = 2 ∨ 13 < k ∨ (k = 1 ∧ i = 1) ∨ (k = 4 ∧ i = 6))) : zr_fr I0 (zz_up J k i v) := by
  intro k2 j h2
  have hne : ¬ (k2 = k ∧ j = i) := by
    rintro ⟨rfl, rfl⟩
    exact hk h2
  rw [zu_k2 hne]; exact h k2 j h2
def zr_ch (tx : Nat → Nat) (n p : Nat) : Int32 := if p < n then nI (tx p) else -9
theorem zs_peek {I : zz_I} {L : zz_L} {P : Int32 → Prop} {tx : Nat → Nat} {n p : Nat} (hT : zr_T I tx n) (e4 : I 1 4 = nI p) (hp : p ≤ n) (h : P (zr_ch tx n p)) : zp_X4_peek P I L := by
  obtain ⟨a, b, c⟩ := hT
  unfold zp_X4_peek
  rw [e4, b]
  unfold zr_ch at h
  refine ⟨fun z => absurd z (nI_pos (by omega)), fun _ => pk_le n p (fun c1 => ?_) (fun c1 => pk_le 110 p (fun c2 => absurd c2 (by omega)) (fun c2 => ?_))⟩
  · rw [if_neg (by omega)] at h; exact h
  · rw [if_pos c1] at h
    rw [zn_cl (by omega), (c p c1).2]
    exact ⟨vp_in_nI (by omega) (by decide), h⟩
/-- a difference of small numbers against a small number -/
theorem zr_lt {t b a : Nat} (ht : t < 2 ^ 20) (hb : b < 2 ^ 20) (ha : a < 2 ^ 20) : nI t - nI b < nI a ↔ t < b + a := by
  rw [Int32.lt_iff_toInt_lt, pk_sub_toInt (by omega) (by omega), nI_toInt (by omega)]; omega
theorem zr_le {t b a : Nat} (ht : t < 2 ^ 20) (hb : b < 2 ^ 20) (ha : a < 2 ^ 20) : nI t - nI b ≤ nI a ↔ t ≤ b + a := by
  rw [Int32.le_iff_toInt_le, pk_sub_toInt (by omega) (by omega), nI_toInt (by omega)]; omega
theorem zs_isLet {I : zz_I} {L : zz_L} {P : Int32 → Prop} {tx : Nat → Nat} {n p : Nat} (htx : p < n → tx p ≤ 255) (h : P (zb_i (zr_is tx n 97 0 5 p))) : zp_X4_isLetter (zr_ch tx n p) P I L := by
  unfold zr_ch
  by_cases c : p < n
  · have h255 := htx c
    rw [if_pos c]
    refine pk_lt (tx p) 97 (fun c1 => ?_) (fun c1 => pk_le 103 (tx p) (fun c2 => ?_) (fun c2 => ?_))
    · rw [zr_is_no (by omega)] at h; exact h
    · rw [zr_is_no (by omega)] at h; exact h
    · rw [zr_is_of c (by omega) (by omega)] at h; exact h
  · rw [if_neg c]
    rw [zr_is_no (fun z => c z.1)] at h
    exact ⟨fun _ => h, fun z => absurd (by decide) z⟩
theorem zs_take {I : zz_I} {L : zz_L} {P : Int32 → zz_I → zz_L → Prop} {tx : Nat → Nat} {n p : Nat} (lo hi : Nat) (hT : zr_T I tx n) (e4 : I 1 4 = nI p) (hp : p ≤ n) (e5 : I 1 5 = 0) (hlo : lo ≤ 9) (hhi : hi ≤ 9) (f : zr_is tx n 48 lo hi p = false → P (nI lo) (zz_up I 1 5 (1 : Int32)) L) (g : zr_is tx n 48 lo hi p = true → p < n → P (nI (tx p - 48)) (zz_up I 1 4 (nI (p + 1))) L) : zp_X4_takeDigit (nI lo) (nI hi) P I L := by
  have hT2 := hT
  obtain ⟨a, b, c⟩ := hT2
  refine zs_peek hT e4 hp ?_
  rintro _ rfl
  refine ⟨fun z => absurd e5 z, fun _ => ?_⟩
  unfold zr_ch
  by_cases q : p < n
  · have h255 := (c p q).1
    rw [if_pos q]
    have e48 : (48 : Int32) = nI 48 := rfl
    rw [e48]
    refine ⟨fun z => ?_, fun z => ⟨fun z2 => ?_, fun z2 => ?_⟩⟩
    · rintro _ rfl
      refine f (zr_is_no (fun y => ?_))
      have := (zr_lt (by omega) (by omega) (by omega)).mp z
      omega
    · have z3 : ¬ tx p < 48 + lo := fun y => z ((zr_lt (by omega) (by omega) (by omega)).mpr y)
      have z4 := (zr_le (by omega) (by omega) (by omega)).mp z2
      rw [e4, pk_sub (by omega), show nI p + (1 : Int32) = nI (p + 1) from nI_1 p]
      rintro _ rfl
      exact g (zr_is_of q (by omega) (by omega)) q
    · rintro _ rfl
      refine f (zr_is_no (fun y => z2 ((zr_le (by omega) (by omega) (by omega)).mpr (by omega))))
  · rw [if_neg q]
    have hneg : (-9 : Int32) - 48 < nI lo := by
      rw [Int32.lt_iff_toInt_lt, nI_toInt (by omega)]
      have : ((-9 : Int32) - 48).toInt = -57 := by decide
      rw [this]; omega
    refine ⟨fun _ => ?_, fun z => absurd hneg z⟩
    rintro _ rfl
    exact f (zr_is_no (fun y => q y.1))
/-- the text has been found wrong at p -/
def zr_CB (I0 J : zz_I) (p : Nat) : Prop := zr_fr I0 J ∧ J 1 4 = nI p ∧ J 1 5 = (1 : Int32)
theorem zr_CB_up {I0 J : zz_I} {p k i : Nat} {v : Int32} (h : zr_CB I0 J p) (hk : ¬ (k = 0 ∨ k = 2 ∨ 13 < k ∨ (k = 1 ∧ i = 1) ∨ (k = 4 ∧ i = 6))) (h2 : ¬ (k = 1 ∧ (i = 4 ∨ i = 5))) : zr_CB I0 (zz_up J k i v) p := by
  obtain ⟨a, b, c⟩ := h
  exact ⟨zr_fr_up a hk, (zu_k2 (by omega)).trans b, (zu_k2 (by omega)).trans c⟩
theorem zr_CB_of {I0 J : zz_I} {p : Nat} (h : zr_fr I0 J) (e4 : J 1 4 = nI p) : zr_CB I0 (zz_up J 1 5 (1 : Int32)) p := ⟨zr_fr_up h (by omega), (zu_k2 (by omega)).trans e4, zu_e⟩
theorem zs_takeB {I0 J : zz_I} {L : zz_L} {P : Int32 → zz_I → zz_L → Prop} {tx : Nat → Nat} {n p : Nat} {x1 x2 : Int32} (hT : zr_T I0 tx n) (hB : zr_CB I0 J p) (hp : p ≤ n) (h : ∀ K : zz_I, zr_CB I0 K p → P x1 K L) : zp_X4_takeDigit x1 x2 P J L := by
  have hB2 := hB
  obtain ⟨a, b, c⟩ := hB2
  refine zs_peek (zr_fr_T a hT) b hp ?_
  rintro _ rfl
  refine ⟨fun _ => ?_, fun z => ?_⟩
  · rintro _ rfl
    exact h _ (zr_CB_of a b)
  · rw [c] at z; exact absurd z (by decide)
/-- the program's state and what was read -/
def zr_CS (I0 J : zz_I) (s : zr_S) : Prop := zr_fr I0 J ∧ J 1 4 = nI s.1 ∧ J 1 5 = zb_i s.2.1 ∧ (s.2.1 = false → zx_lexC 3 J s.2.2.1 ∧ zx_pgC 10 J s.2.2.1 s.2.2.2.1 ∧ J 1 6 = nI (zy_mk 9 s.2.2.2.2))
theorem zr_CS_bad {I0 J : zz_I} {s : zr_S} {p : Nat} (h : zr_CB I0 J p) : zr_CS I0 J (zr_bad s p) := ⟨h.1, h.2.1, h.2.2, fun q => by cases q⟩
theorem zs_parseWidths {I0 I : zz_I} {L : zz_L} {P : zz_I → zz_L → Prop} {tx : Nat → Nat} {n : Nat} (hT : zr_T I0 tx n) (h46 : I0 4 6 = 1) (fr : zr_fr I0 I) (e4 : I 1 4 = 0) (e5 : I 1 5 = 0) (e6 : I 1 6 = 0) (e3 : I 3 6 = 0) (eu : I 10 3 = 0) (eb : I 10 4 = 0) (er : ∀ j, j < 9 → I 12 j = 1) (h : ∀ J : zz_I, zr_CS I0 J (zr_s0 tx n) → P J L) : zp_X4_parseWidths P I L := by
  obtain ⟨hn, t1, t2⟩ := id hT
  obtain ⟨hc6, hcl⟩ := zr_cn_all (f := zr_is tx n 48 1 3) (K := 6) (p := 1)
  have badloop : ∀ (J : zz_I) (p : Nat), zr_CB I0 J p → p ≤ n → zr_s0 tx n = (p, true, zr_lx0 tx, zr_pg0, fun _ => false) → ∀ i, i ≤ 6 → zp_X4_parseWidths_29 P (nI i) J L := by
    intro J p hB hp es i hi
    refine ⟨fun y K N => ∃ i : Nat, i ≤ 6 ∧ y = nI i ∧ L = N ∧ zr_CB I0 K p, fun y _ _ => 6 - y.toNatClampNeg, ⟨i, hi, rfl, rfl, hB⟩, ?_⟩
    rintro y K N ⟨i, hi, rfl, rfl, hB⟩
    unfold zp_X4_parseWidths_29b
    refine pk_le 6 i (fun c => ?_) (fun c => ?_)
    · refine h K ?_
      rw [es]
      exact ⟨hB.1, hB.2.1, hB.2.2, fun q => by cases q⟩
    · refine zs_takeB hT hB hp (fun K2 hB2 => ⟨vp_in_nI (by omega) (by decide), ?_⟩)
      rw [zn_cl (n := i) (by omega)]
      rintro _ rfl _ rfl
      exact ⟨⟨i + 1, by omega, nI_1 i, rfl, zr_CB_up hB2 (by omega) (by omega)⟩, zz_down (i := i) (n := 6) (by omega) (by omega)⟩
  refine zs_peek (p := 0) (zr_fr_T fr hT) e4 (Nat.zero_le _) ?_
  unfold zr_ch
  refine ⟨fun z => ?_, fun z => ?_⟩
  · rintro _ rfl
    refine badloop _ 0 (zr_CB_of fr e4) (Nat.zero_le _) ?_ 0 (by omega)
    unfold zr_s0
    rw [if_pos]
    by_cases q : 0 < n
    · rw [if_pos q] at z
      exact Or.inr (fun y => z (by rw [y]; rfl))
    · exact Or.inl (by omega)
  · have q : 0 < n := by
      refine Nat.lt_of_not_le (fun y => ?_)
      rw [if_neg (by omega)] at z
      exact absurd z (by decide)
    rw [if_pos q] at z
    have h0 := (t2 0 q).1
    have z83 : tx 0 = 83 := zn_j (j := 83) (by omega) (by decide) z
    have es : zr_s0 tx n = if zr_cn (zr_is tx n 48 1 3) 6 1 < 6 then (1 + zr_cn (zr_is tx n 48 1 3) 6 1, true, zr_lx0 tx, zr_pg0, fun _ => false) else (7, false, zr_lx0 tx, zr_pg0, fun _ => false) := by
      unfold zr_s0
      rw [if_neg (by omega)]
    rw [e4]
    rintro _ rfl
    refine ⟨fun y K N => ∃ i : Nat, i ≤ 6 ∧ y = nI i ∧ L = N ∧ zr_fr I0 K ∧ ((∃ p : Nat, p ≤ n ∧ zr_CB I0 K p ∧ zr_s0 tx n = (p, true, zr_lx0 tx, zr_pg0, fun _ => false)) ∨ (K 1 4 = nI (1 + i) ∧ 1 + i ≤ n ∧ K 1 5 = 0 ∧ (∀ k j, k ≠ 4 → ¬ (k = 1 ∧ j = 4) → K k j = I k j) ∧ (∀ j, j < i → K 4 j = nI (tx (1 + j) - 48)) ∧ zr_cn (zr_is tx n 48 1 3) 6 1 = i + zr_cn (zr_is tx n 48 1 3) (6 - i) (1 + i))), fun y _ _ => 6 - y.toNatClampNeg, ⟨0, by omega, rfl, rfl, zr_fr_up fr (by omega), Or.inr ⟨zu_e, by omega, (zu_k2 (by omega)).trans e5, fun k j h1 h2 => zu_k2 h2, fun j hj => absurd hj (by omega), (Nat.zero_add _).symm⟩⟩, ?_⟩
    rintro y K N ⟨i, hi, rfl, rfl, kf, hK⟩
    unfold zp_X4_parseWidths_29b
    rcases hK with ⟨p, hp, hB, es2⟩ | ⟨k4, k1n, k5, kk, kw, kc⟩
    · refine pk_le 6 i (fun c => ?_) (fun c => ?_)
      · refine h K ?_
        rw [es2]
        exact ⟨hB.1, hB.2.1, hB.2.2, fun q => by cases q⟩
      · refine zs_takeB hT hB hp (fun K2 hB2 => ⟨vp_in_nI (by omega) (by decide), ?_⟩)
        rw [zn_cl (n := i) (by omega)]
        rintro _ rfl _ rfl
        have hB3 := zr_CB_up (v := (1 : Int32)) (k := 4) (i := i) hB2 (by omega) (by omega)
        exact ⟨⟨i + 1, by omega, nI_1 i, rfl, hB3.1, Or.inl ⟨p, hp, hB3, es2⟩⟩, zz_down (i := i) (n := 6) (by omega) (by omega)⟩
    · refine pk_le 6 i (fun c => ?_) (fun c => ?_)
      · have : i = 6 := by omega
        subst this
        have hc : zr_cn (zr_is tx n 48 1 3) 6 1 = 6 := kc
        refine h K ?_
        rw [es, if_neg (by omega)]
        refine ⟨kf, k4, k5, fun _ => ⟨⟨?_, fun j hj => ?_, fun w hw => absurd hw (Nat.not_lt_zero _)⟩, ⟨?_, ?_, fun j hj => ?_, fun w hw => absurd hw (Nat.not_lt_zero _), fun u hu => absurd hu (Nat.not_lt_zero _)⟩, ?_⟩⟩
        · exact (kk 3 6 (by omega) (by omega)).trans e3
        · show K 4 j = nI (if j < 6 then tx (1 + j) - 48 else 1)
          by_cases q6 : j < 6
          · rw [if_pos q6]; exact kw j q6
          · have : j = 6 := by omega
            subst this
            rw [if_neg q6]
            exact (kf 4 6 (by omega)).trans h46
        · exact (kk 10 3 (by omega) (by omega)).trans eu
        · exact (kk 10 4 (by omega) (by omega)).trans eb
        · show K 12 j = nI (if 2 ≤ 2 + j ∧ 2 + j < 11 then 1 else 0)
          rw [if_pos (by omega), kk 12 j (by omega) (by omega)]; exact er j hj
        · show K 1 6 = nI (zy_mk 9 (fun _ => false))
          rw [show zy_mk 9 (fun _ => false) = 0 by decide]
          exact (kk 1 6 (by omega) (by omega)).trans e6
      · refine zs_take 1 3 (zr_fr_T kf hT) k4 k1n k5 (by omega) (by omega) (fun z2 => ⟨vp_in_nI (by omega) (by decide), ?_⟩) (fun z2 z3 => ⟨vp_in_nI (by omega) (by decide), ?_⟩)
        · rw [zn_cl (n := i) (by omega)]
          rintro _ rfl _ rfl
          rw [zr_cn_f (by omega) z2] at kc
          have hB := zr_CB_of kf k4
          have hB3 := zr_CB_up (v := nI 1) (k := 4) (i := i) hB (by omega) (by omega)
          refine ⟨⟨i + 1, by omega, nI_1 i, rfl, hB3.1, Or.inl ⟨1 + i, k1n, hB3, ?_⟩⟩, zz_down (i := i) (n := 6) (by omega) (by omega)⟩
          rw [es, if_pos (by omega), kc]; rfl
        · rw [zn_cl (n := i) (by omega)]
          rintro _ rfl _ rfl
          rw [zr_cn_t (by omega) z2] at kc
          refine ⟨⟨i + 1, by omega, nI_1 i, rfl, zr_fr_up (zr_fr_up kf (by omega)) (by omega), Or.inr ⟨?_, by omega, ?_, fun k j h1 h2 => ?_, fun j hj => ?_, by omega⟩⟩, zz_down (i := i) (n := 6) (by omega) (by omega)⟩
          · rw [zu_k (by omega), zu_e]; rfl
          · rw [zu_k (by omega), zu_k2 (by omega)]; exact k5
          · rw [zu_k h1, zu_k2 h2]; exact kk k j h1 h2
          · by_cases e : j = i
            · subst e; rw [zu_e]
            · rw [zu_i e, zu_k (by omega)]; exact kw j (by omega)
