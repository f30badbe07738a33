/-! the text, read by the reference: marks, words -/
def zr_TM (I : zz_I) (tx : Nat → Nat) (n : Nat) : Prop := n ≤ 110 ∧ I 0 2 = nI n ∧ ∀ j, j < n → tx j ≤ 255 ∧ I 1 j = nI (tx j)
def zr_mf (I0 K : zz_I) : Prop := ∀ k j, ¬ (7 ≤ k ∧ k ≤ 13) → ¬ (k = 0 ∧ (j = 3 ∨ j = 11)) → K k j = I0 k j
def zr_kd (K : zz_I) : Prop := ∀ j, j < 8 → ∃ c : Nat, c < 3 ∧ K 10 j = nI c
theorem zr_mf_T {I0 K : zz_I} {tx : Nat → Nat} {n : Nat} (h : zr_mf I0 K) (hT : zr_TM I0 tx n) : zr_TM K tx n := by
  obtain ⟨a, b, c⟩ := hT
  exact ⟨a, (h 0 2 (by omega) (by omega)).trans b, fun j hj => ⟨(c j hj).1, (h 1 j (by omega) (by omega)).trans (c j hj).2⟩⟩
theorem zr_mf_up {I0 K : zz_I} {k i : Nat} {v : Int32} (h : zr_mf I0 K) (hk : (7 ≤ k ∧ k ≤ 13) ∨ (k = 0 ∧ (i = 3 ∨ i = 11))) : zr_mf I0 (zz_up K k i v) := by
  intro k2 j h1 h2
  rw [zu_k2 (by omega)]; exact h k2 j h1 h2
theorem zr_kd_up {K : zz_I} {k i : Nat} {v : Int32} (h : zr_kd K) (hk : k ≠ 10) : zr_kd (zz_up K k i v) := by
  intro j hj
  rw [zu_k (Ne.symm hk)]; exact h j hj
theorem zs_isNext {I : zz_I} {L : zz_L} {P : Int32 → Prop} {tx : Nat → Nat} {n p : Nat} (b lo hi : Nat) (hT : zr_TM I tx n) (e3 : I 0 3 = nI p) (hp : p ≤ n) (hb : b ≤ 200) (hlo : lo ≤ 9) (hhi : hi ≤ 9) (h : P (zb_i (zr_is tx n b lo hi p))) : zp_X8_isNext (nI b) (nI lo) (nI hi) P I L := by
  obtain ⟨a, a2, c⟩ := hT
  unfold zp_X8_isNext
  rw [e3, a2]
  refine pk_le n p (fun c1 => ?_) (fun c1 => ⟨vp_in_nI (by omega) (by decide), ?_⟩)
  · rw [zr_is_no (by omega)] at h; exact h
  · obtain ⟨h255, e1⟩ := c p c1
    rw [zn_cl (by omega), e1]
    refine zs_X8_in (fun z => ⟨fun _ => ?_, fun q => absurd rfl q⟩) (fun z1 z2 => ⟨fun q => absurd q (by decide), fun _ => ?_⟩)
    · rw [zr_is_no] at h
      · exact h
      · rcases z with z | z
        · have := (zr_lt (by omega) (by omega) (by omega)).mp z
          omega
        · have : ¬ nI (tx p) - nI b ≤ nI hi := Int32.not_le.mpr z
          rw [zr_le (by omega) (by omega) (by omega)] at this
          omega
    · rw [zr_lt (by omega) (by omega) (by omega)] at z1
      have z3 := Int32.not_lt.mp z2
      rw [zr_le (by omega) (by omega) (by omega)] at z3
      rw [zr_is_of c1 (by omega) (by omega)] at h
      exact h
/-- the reference's state and what was read -/
def zr_MS (I0 K : zz_I) (s : zr_S) : Prop := zr_mf I0 K ∧ zr_kd K ∧ K 0 3 = nI s.1 ∧ (s.2.1 = false → zx_lexM 11 7 K s.2.2.1 ∧ zx_pgM 13 0 K s.2.2.1 s.2.2.2.1 ∧ ∀ j, j < 9 → K 12 j = zb_i (s.2.2.2.2 j))
theorem zr_MS_bad {I0 K : zz_I} {s : zr_S} {p : Nat} (h1 : zr_mf I0 K) (h2 : zr_kd K) (h3 : K 0 3 = nI p) : zr_MS I0 K (zr_bad s p) := ⟨h1, h2, h3, fun q => by cases q⟩
theorem zs_rw118 {I0 J K0 : zz_I} {L : zz_L} {P : Int32 → zz_I → zz_L → Prop} {tx : Nat → Nat} {n c : Nat} {s : zr_S} (hT : zr_TM I0 tx n) (hM : zr_MS I0 J s) (hb : s.2.1 = false) (hok : zr_ok n s) (hW : s.2.2.1 0 0 < 8) (kf0 : zr_mf I0 K0) (kd0 : zr_kd K0) (k03 : K0 0 3 = nI (s.1 + 1 + c)) (hcn : s.1 + 1 + c ≤ n) (hc2 : ¬ c < 2) (hc5 : c ≤ 5) (k8 : K0 8 (s.2.2.1 0 0) = nI c) (kk : ∀ k j, ¬ (k = 9) → ¬ (k = 8 ∧ j = s.2.2.1 0 0) → ¬ (k = 0 ∧ j = 3) → K0 k j = J k j) (klo : ∀ j, j < 5 * s.2.2.1 0 0 → K0 9 j = J 9 j) (kl : ∀ j, j < c → K0 9 (5 * s.2.2.1 0 0 + j) = nI (tx (s.1 + 1 + j) - 97)) (h : ∀ K : zz_I, zr_MS I0 K (zr_word1 tx n s c) → P (zb_i (!(zr_word1 tx n s c).2.1)) K L) : zp_X8_readWord_118 P (nI (s.2.2.1 0 0)) (0 : Int32) K0 L := by
  obtain ⟨mf, mk, m3, mO⟩ := hM
  obtain ⟨lM, pM, m12⟩ := mO hb
  have hl := (hok.2 hb).1
  obtain ⟨hn, t1, t2⟩ := id hT
  obtain ⟨W, eW⟩ : ∃ W, W = s.2.2.1 0 0 := ⟨_, rfl⟩
  rw [← eW] at hW k8 kk klo kl ⊢
  obtain ⟨q, eq⟩ : ∃ q, q = s.1 + 1 + c := ⟨_, rfl⟩
  rw [← eq] at k03 hcn
  have e11 : (11 : Int32) + nI W = nI (11 + W) := nI_add 11 W
  refine ⟨fun y K N => ∃ i : Nat, i ≤ 3 ∧ y = nI i ∧ L = N ∧ zr_mf I0 K ∧ zr_kd K ∧ K 0 3 = nI (q + i) ∧ q + i ≤ n ∧ (∀ k j, ¬ ((k = 10 ∨ k = 11) ∧ j = W) → ¬ (k = 13 ∧ j = 11 + W) → ¬ (k = 0 ∧ j = 3) → K k j = K0 k j) ∧ (1 ≤ i → zr_is tx n 48 0 2 q = true ∧ K 10 W = nI (tx q - 48)) ∧ (2 ≤ i → zr_is tx n 48 0 2 (q + 1) = true ∧ K 11 W = nI (tx (q + 1) - 48)) ∧ (3 ≤ i → zr_is tx n 48 1 9 (q + 2) = true ∧ K 13 (11 + W) = nI (tx (q + 2) - 48)), fun y _ _ => 3 - y.toNatClampNeg, ⟨0, by omega, rfl, rfl, kf0, kd0, k03, hcn, fun _ _ _ _ _ => rfl, fun z => absurd z (by omega), fun z => absurd z (by omega), fun z => absurd z (by omega)⟩, ?_⟩
  rintro y K N ⟨i, hi, rfl, rfl, kf, kd, k3, kn, kfr, d0, d1, d2⟩
  unfold zp_X8_readWord_118b
  have hbad : ∀ p, K 0 3 = nI p → zr_word1 tx n s c = zr_bad s p → P (0 : Int32) K L := by
    intro p e3 ew
    have := h K (by rw [ew]; exact zr_MS_bad kf kd e3)
    rw [ew] at this
    exact this
  have up : ∀ (k j v : Nat), ((k = 10 ∨ k = 11) ∧ j = W) ∨ (k = 13 ∧ j = 11 + W) → (k = 10 → v < 3) → i < 3 → q + (i + 1) ≤ n → ((k = 10 ∧ i = 0 ∧ zr_is tx n 48 0 2 q = true ∧ v = tx q - 48) ∨ (k = 11 ∧ i = 1 ∧ zr_is tx n 48 0 2 (q + 1) = true ∧ v = tx (q + 1) - 48) ∨ (k = 13 ∧ i = 2 ∧ zr_is tx n 48 1 9 (q + 2) = true ∧ v = tx (q + 2) - 48)) → zp_X8_readWord_207 (fun z2 I7 L7 => (∃ i : Nat, i ≤ 3 ∧ z2 = nI i ∧ L = L7 ∧ zr_mf I0 I7 ∧ zr_kd I7 ∧ I7 0 3 = nI (q + i) ∧ q + i ≤ n ∧ (∀ k j, ¬ ((k = 10 ∨ k = 11) ∧ j = W) → ¬ (k = 13 ∧ j = 11 + W) → ¬ (k = 0 ∧ j = 3) → I7 k j = K0 k j) ∧ (1 ≤ i → zr_is tx n 48 0 2 q = true ∧ I7 10 W = nI (tx q - 48)) ∧ (2 ≤ i → zr_is tx n 48 0 2 (q + 1) = true ∧ I7 11 W = nI (tx (q + 1) - 48)) ∧ (3 ≤ i → zr_is tx n 48 1 9 (q + 2) = true ∧ I7 13 (11 + W) = nI (tx (q + 2) - 48))) ∧ 3 - z2.toNatClampNeg < 3 - (nI i).toNatClampNeg) P (nI W) (nI i) (zz_up K k j (nI v)) L := by
    intro k j v hk hv hi3 hqn hd
    unfold zp_X8_readWord_207
    rw [zu_k (show (0 : Nat) ≠ k by omega), k3, show nI (q + i) + (1 : Int32) = nI (q + (i + 1)) from nI_1 _]
    rintro _ rfl _ rfl
    have hval : zz_up (zz_up K k j (nI v)) 0 3 (nI (q + (i + 1))) k j = nI v := by rw [zu_k (by omega), zu_e]
    have hoth : ∀ k2 j2, ¬ (k2 = k ∧ j2 = j) → ¬ (k2 = 0 ∧ j2 = 3) → zz_up (zz_up K k j (nI v)) 0 3 (nI (q + (i + 1))) k2 j2 = K k2 j2 := fun k2 j2 h1 h2 => by rw [zu_k2 h2, zu_k2 h1]
    refine ⟨⟨i + 1, by omega, nI_1 i, rfl, zr_mf_up (zr_mf_up kf (by omega)) (by omega), fun j2 hj2 => ?_, zu_e, hqn, fun k2 j2 h1 h2 h3 => ?_, fun z => ?_, fun z => ?_, fun z => ?_⟩, zz_down (i := i) (n := 3) (by omega) (by omega)⟩
    · by_cases e : 10 = k ∧ j2 = j
      · obtain ⟨rfl, rfl⟩ := e
        exact ⟨v, hv rfl, hval⟩
      · rw [hoth 10 j2 e (by omega)]; exact kd j2 hj2
    · rw [hoth k2 j2 (by omega) h3]; exact kfr k2 j2 h1 h2 h3
    · rcases hd with ⟨e1, e2, e3, e4⟩ | ⟨e1, e2, e3, e4⟩ | ⟨e1, e2, e3, e4⟩
      · subst e1
        have : j = W := by omega
        subst this
        exact ⟨e3, by rw [hval, e4]⟩
      · rw [hoth 10 W (by omega) (by omega)]; exact d0 (by omega)
      · rw [hoth 10 W (by omega) (by omega)]; exact d0 (by omega)
    · rcases hd with ⟨e1, e2, e3, e4⟩ | ⟨e1, e2, e3, e4⟩ | ⟨e1, e2, e3, e4⟩
      · omega
      · subst e1
        have : j = W := by omega
        subst this
        exact ⟨e3, by rw [hval, e4]⟩
      · rw [hoth 11 W (by omega) (by omega)]; exact d1 (by omega)
    · rcases hd with ⟨e1, e2, e3, e4⟩ | ⟨e1, e2, e3, e4⟩ | ⟨e1, e2, e3, e4⟩
      · omega
      · omega
      · subst e1
        have : j = 11 + W := by omega
        subst this
        exact ⟨e3, by rw [hval, e4]⟩
  refine pk_le 3 i (fun c3 => ?_) (fun c3 => ?_)
  · have hi3 : i = 3 := by omega
    subst hi3
    obtain ⟨z0, v0⟩ := d0 (by omega)
    obtain ⟨z1, v1⟩ := d1 (by omega)
    obtain ⟨z2, v2⟩ := d2 (by omega)
    have k011 : K 0 11 = nI W := by
      rw [kfr 0 11 (by omega) (by omega) (by omega), kk 0 11 (by omega) (by omega) (by omega), eW]; exact lM.1
    rw [k011, show nI W + (1 : Int32) = nI (W + 1) from nI_1 W]
    rintro _ rfl
    have ew : zr_word1 tx n s c = (s.1 + 1 + c + 3, false, zr_lw tx s.2.2.1 (s.1 + 1) c, zx_set s.2.2.2.1 (11 + s.2.2.1 0 0) (tx (s.1 + 1 + c + 2) - 48), s.2.2.2.2) := by
      rw [eq] at z0 z1 z2
      unfold zr_word1
      rw [if_neg hc2, if_neg (by rw [z0]; decide), if_neg (by rw [z1]; decide), if_neg (by rw [z2]; decide)]
    have hh := h (zz_up K 0 11 (nI (W + 1)))
    rw [ew] at hh
    refine hh ?_
    have all : ∀ k j, ¬ (k = 9) → ¬ (k = 0 ∧ (j = 3 ∨ j = 11)) → ¬ ((k = 8 ∨ k = 10 ∨ k = 11) ∧ j = W) → ¬ (k = 13 ∧ j = 11 + W) → zz_up K 0 11 (nI (W + 1)) k j = J k j := fun k j q1 q2 q3 q4 => by
      rw [zu_k2 (by omega), kfr k j (by omega) (by omega) (by omega), kk k j (by omega) (by omega) (by omega)]
    have all9 : ∀ j, zz_up K 0 11 (nI (W + 1)) 9 j = K0 9 j := fun j => by
      rw [zu_k (by omega), kfr 9 j (by omega) (by omega) (by omega)]
    obtain ⟨l1, l2, l3⟩ := lM
    obtain ⟨g1, g2, g3, g4, g5⟩ := pM
    rw [eq] at v0 v1 v2 k3
    refine ⟨zr_mf_up kf (by omega), zr_kd_up kd (by omega), ?_, fun _ => ⟨⟨?_, fun j hj => ?_, fun w hw => ?_⟩, ⟨?_, ?_, fun j hj => ?_, fun w hw => ?_, fun u hu => ?_⟩, fun j hj => ?_⟩⟩
    · rw [zu_i (by omega)]; exact k3
    · show zz_up K 0 11 (nI (W + 1)) 0 11 = nI (zr_lw tx s.2.2.1 (s.1 + 1) c 0 0)
      rw [zu_e, zr_lw_0, ← eW]
    · show zz_up K 0 11 (nI (W + 1)) 7 j = nI (zr_lw tx s.2.2.1 (s.1 + 1) c 1 j)
      rw [zr_lw_1, all 7 j (by omega) (by omega) (by omega) (by omega)]; exact l2 j hj
    · change w < zr_lw tx s.2.2.1 (s.1 + 1) c 0 0 at hw
      rw [zr_lw_0, ← eW] at hw
      show zz_up K 0 11 (nI (W + 1)) 8 w = nI (zr_lw tx s.2.2.1 (s.1 + 1) c 2 w) ∧ zz_up K 0 11 (nI (W + 1)) 10 w = nI (zr_lw tx s.2.2.1 (s.1 + 1) c 4 w) ∧ zz_up K 0 11 (nI (W + 1)) 11 w = nI (zr_lw tx s.2.2.1 (s.1 + 1) c 5 w) ∧ ∀ j, j < zr_lw tx s.2.2.1 (s.1 + 1) c 2 w → zz_up K 0 11 (nI (W + 1)) 9 (5 * w + j) = nI (zr_lw tx s.2.2.1 (s.1 + 1) c 3 (5 * w + j))
      rw [zr_lw_2, zr_lw_4, zr_lw_5, ← eW]
      by_cases e : w = W
      · subst e
        rw [if_pos rfl, if_pos rfl, if_pos rfl]
        refine ⟨?_, ?_, ?_, fun j hj => ?_⟩
        · rw [zu_k (by omega), kfr 8 w (by omega) (by omega) (by omega)]; exact k8
        · rw [zu_k (by omega)]; exact v0
        · rw [zu_k (by omega)]; exact v1
        · rw [zr_lw_3, ← eW, if_pos (by omega), Nat.add_sub_cancel_left, all9]
          exact kl j hj
      · rw [if_neg e, if_neg e, if_neg e]
        obtain ⟨b1, b2, b3, b5⟩ := l3 w (by omega)
        have hb5 := (hl.2.2.2 w (by omega)).2.1
        refine ⟨?_, ?_, ?_, fun j hj => ?_⟩
        · rw [all 8 w (by omega) (by omega) (by omega) (by omega)]; exact b1
        · rw [all 10 w (by omega) (by omega) (by omega) (by omega)]; exact b2
        · rw [all 11 w (by omega) (by omega) (by omega) (by omega)]; exact b3
        · rw [zr_lw_3, ← eW, if_neg (by omega), all9, klo _ (by omega)]
          exact b5 j hj
    · show zz_up K 0 11 (nI (W + 1)) 13 0 = nI (zx_set s.2.2.2.1 (11 + s.2.2.1 0 0) _ 0)
      rw [zx_set_ne (by omega), all 13 0 (by omega) (by omega) (by omega) (by omega)]; exact g1
    · show zz_up K 0 11 (nI (W + 1)) 13 1 = nI (zx_set s.2.2.2.1 (11 + s.2.2.1 0 0) _ 1)
      rw [zx_set_ne (by omega), all 13 1 (by omega) (by omega) (by omega) (by omega)]; exact g2
    · show zz_up K 0 11 (nI (W + 1)) 13 (0 + (2 + j)) = nI (zx_set s.2.2.2.1 (11 + s.2.2.1 0 0) _ (2 + j))
      rw [zx_set_ne (by omega), all 13 (0 + (2 + j)) (by omega) (by omega) (by omega) (by omega)]; exact g3 j hj
    · change w < zr_lw tx s.2.2.1 (s.1 + 1) c 0 0 at hw
      rw [zr_lw_0, ← eW] at hw
      show zz_up K 0 11 (nI (W + 1)) 13 (0 + (11 + w)) = nI (zx_set s.2.2.2.1 (11 + s.2.2.1 0 0) (tx (s.1 + 1 + c + 2) - 48) (11 + w))
      rw [← eW]
      by_cases e : w = W
      · subst e; rw [zx_set_at, Nat.zero_add, zu_k (by omega)]; exact v2
      · rw [zx_set_ne (by omega), all 13 (0 + (11 + w)) (by omega) (by omega) (by omega) (by omega)]; exact g4 w (by omega)
    · change u < zx_set s.2.2.2.1 (11 + s.2.2.1 0 0) _ 0 at hu
      show zz_up K 0 11 (nI (W + 1)) 13 (0 + (19 + u)) = nI (zx_set s.2.2.2.1 (11 + s.2.2.1 0 0) _ (19 + u))
      rw [zx_set_ne (by omega)] at hu ⊢
      rw [all 13 (0 + (19 + u)) (by omega) (by omega) (by omega) (by omega)]; exact g5 u hu
    · rw [all 12 j (by omega) (by omega) (by omega) (by omega)]; exact m12 j hj
  · have hT2 := zr_mf_T kf hT
    have vW : vp_in (nI W) 8 := vp_in_nI hW (by decide)
    have pos : q + i < n → vp_in (nI (q + i)) 110 ∧ K 1 (nI (q + i)).toNatClampNeg = nI (tx (q + i)) := fun z => by
      rw [zn_cl (by omega)]
      exact ⟨vp_in_nI (by omega) (by decide), (hT2.2.2 _ z).2⟩
    have hi3 : i = 0 ∨ i = 1 ∨ i = 2 := by omega
    rcases hi3 with rfl | rfl | rfl
    · refine ⟨fun _ => ⟨fun _ => ?_, fun z => absurd z (by decide)⟩, fun z => absurd z (by decide)⟩
      refine zs_isNext 48 0 2 hT2 k3 kn (by omega) (by omega) (by omega) (zb_rb (fun z => ?_) (fun z => ?_))
      · have tz := zr_is_t z
        obtain ⟨p1, p2⟩ := pos tz.1
        rw [k3]
        refine ⟨p1, ?_⟩
        rw [p2, show nI (tx (q + 0)) - (48 : Int32) = nI (tx (q + 0) - 48) from pk_sub (b := 48) (by omega), zn_cl (n := W) (by omega)]
        rintro _ rfl
        refine ⟨fun y => absurd rfl y, fun _ => ⟨vW, ?_⟩⟩
        rintro _ rfl
        exact up 10 W _ (by omega) (fun _ => by omega) (by omega) (by omega) (Or.inl ⟨rfl, rfl, z, rfl⟩)
      · refine hbad (s.1 + 1 + c) (by rw [k3, eq, Nat.add_zero]) ?_
        rw [Nat.add_zero, eq] at z
        unfold zr_word1
        rw [if_neg hc2, if_pos z]
    · obtain ⟨z0, v0⟩ := d0 (by omega)
      refine ⟨fun _ => ⟨fun _ => ?_, fun z => absurd z (by decide)⟩, fun z => absurd z (by decide)⟩
      refine zs_isNext 48 0 2 hT2 k3 kn (by omega) (by omega) (by omega) (zb_rb (fun z => ?_) (fun z => ?_))
      · have tz := zr_is_t z
        obtain ⟨p1, p2⟩ := pos tz.1
        rw [k3]
        refine ⟨p1, ?_⟩
        rw [p2, show nI (tx (q + 1)) - (48 : Int32) = nI (tx (q + 1) - 48) from pk_sub (b := 48) (by omega), zn_cl (n := W) (by omega)]
        rintro _ rfl
        refine ⟨fun _ => ⟨fun y => absurd rfl y, fun _ => ⟨vW, ?_⟩⟩, fun y => absurd y (by decide)⟩
        rintro _ rfl
        exact up 11 W _ (by omega) (fun y => absurd y (by decide)) (by omega) (by omega) (Or.inr (Or.inl ⟨rfl, rfl, z, rfl⟩))
      · refine hbad (s.1 + 1 + c + 1) (by rw [k3, eq]) ?_
        rw [eq] at z z0
        unfold zr_word1
        rw [if_neg hc2, if_neg (by rw [z0]; decide), if_pos z]
    · obtain ⟨z0, v0⟩ := d0 (by omega)
      obtain ⟨z1, v1⟩ := d1 (by omega)
      refine ⟨fun y => absurd rfl y, fun _ => ⟨fun y => absurd rfl y, fun _ => ?_⟩⟩
      refine zs_isNext 48 1 9 hT2 k3 kn (by omega) (by omega) (by omega) (zb_rb (fun z => ?_) (fun z => ?_))
      · have tz := zr_is_t z
        obtain ⟨p1, p2⟩ := pos tz.1
        rw [k3]
        refine ⟨p1, ?_⟩
        rw [p2, show nI (tx (q + 2)) - (48 : Int32) = nI (tx (q + 2) - 48) from pk_sub (b := 48) (by omega), e11, zn_cl (n := 11 + W) (by omega)]
        rintro _ rfl
        refine ⟨fun _ => ⟨fun _ => ⟨vp_in_nI (by omega) (by decide), ?_⟩, fun y => absurd y (by decide)⟩, fun y => absurd y (by decide)⟩
        rintro _ rfl
        exact up 13 (11 + W) _ (by omega) (fun y => absurd y (by decide)) (by omega) (by omega) (Or.inr (Or.inr ⟨rfl, rfl, z, rfl⟩))
      · refine hbad (s.1 + 1 + c + 2) (by rw [k3, eq]) ?_
        rw [eq] at z z0 z1
        unfold zr_word1
        rw [if_neg hc2, if_neg (by rw [z0]; decide), if_neg (by rw [z1]; decide), if_pos z]
theorem zs_readWord {I0 J : zz_I} {L : zz_L} {P : Int32 → zz_I → zz_L → Prop} {tx : Nat → Nat} {n : Nat} {s : zr_S} (hT : zr_TM I0 tx n) (hM : zr_MS I0 J s) (hb : s.2.1 = false) (hok : zr_ok n s) (hs : s.1 < n) (h : ∀ K : zz_I, zr_MS I0 K (zr_word tx n s) → P (zb_i (!(zr_word tx n s).2.1)) K L) : zp_X8_readWord P J L := by
  obtain ⟨hn, t1, t2⟩ := id hT
  obtain ⟨mf, mk, m3, mO⟩ := id hM
  obtain ⟨lM, pM, m12⟩ := mO hb
  have hl := (hok.2 hb).1
  have h8 := hl.1
  have e11 : J 0 11 = nI (s.2.2.1 0 0) := lM.1
  obtain ⟨W, eW⟩ : ∃ W, W = s.2.2.1 0 0 := ⟨_, rfl⟩
  rw [← eW] at e11 h8
  unfold zp_X8_readWord
  rw [e11, m3]
  refine ⟨fun z => ?_, fun z => ?_⟩
  · have hW : W < 8 := by
      have : W ≠ 8 := fun q => z (by rw [q]; rfl)
      omega
    have ew : zr_word tx n s = zr_word1 tx n s (zr_cn (zr_is tx n 97 0 5) 5 (s.1 + 1)) := by
      unfold zr_word; rw [if_neg (by omega)]
    rw [show nI s.1 + (1 : Int32) = nI (s.1 + 1) from nI_1 _]
    rintro _ rfl
    rw [zu_i (show (11 : Nat) ≠ 3 by omega), e11]
    rintro _ rfl
    have vW : vp_in (nI W) 8 := vp_in_nI hW (by decide)
    refine ⟨vW, ?_⟩
    rw [zn_cl (n := W) (by omega)]
    rintro _ rfl
    refine ⟨fun K N => ∃ i : Nat, i ≤ 5 ∧ L = N ∧ zr_mf I0 K ∧ zr_kd K ∧ K 0 3 = nI (s.1 + 1 + i) ∧ s.1 + 1 + i ≤ n ∧ K 8 W = nI i ∧ (∀ k j, ¬ (k = 9) → ¬ (k = 8 ∧ j = W) → ¬ (k = 0 ∧ j = 3) → K k j = J k j) ∧ (∀ j, j < 5 * W → K 9 j = J 9 j) ∧ (∀ j, j < i → K 9 (5 * W + j) = nI (tx (s.1 + 1 + j) - 97)) ∧ zr_cn (zr_is tx n 97 0 5) 5 (s.1 + 1) = i + zr_cn (zr_is tx n 97 0 5) (5 - i) (s.1 + 1 + i), fun K _ => 5 - (K 8 W).toNatClampNeg, ⟨0, by omega, rfl, zr_mf_up (zr_mf_up mf (by omega)) (by omega), zr_kd_up (zr_kd_up mk (by omega)) (by omega), ?_, by omega, zu_e, fun k j h1 h2 h3 => ?_, fun j _ => ?_, fun j hj => absurd hj (by omega), (Nat.zero_add _).symm⟩, ?_⟩
    · rw [zu_k (by omega), zu_e]
    · rw [zu_k2 h2, zu_k2 h3]
    · rw [zu_k (by omega), zu_k (by omega)]
    rintro K N ⟨i, hi, rfl, kf, kd, k3, kn, k8, kk, klo, kl, kc⟩
    unfold zp_X8_readWord_33b
    rw [zn_cl (n := W) (by omega), k8]
    refine ⟨vW, ?_⟩
    have out : zr_cn (zr_is tx n 97 0 5) 5 (s.1 + 1) = i → zp_X8_readWord_104 P (nI W) K L := by
      intro ec
      rw [ec] at ew
      unfold zp_X8_readWord_104
      rw [zn_cl (n := W) (by omega), k8]
      refine ⟨vW, pk_le 2 i (fun q => ?_) (fun q => ?_)⟩
      · rw [eW] at k8 kk klo kl hW ⊢
        exact zs_rw118 hT hM hb hok hW kf kd k3 kn (by omega) hi k8 kk klo kl (fun M hM2 => by have := h M (by rw [ew]; exact hM2); rw [ew] at this; exact this)
      · have ew2 : zr_word tx n s = zr_bad s (s.1 + 1 + i) := by
          rw [ew]; unfold zr_word1; rw [if_pos q]
        have := h K (by rw [ew2]; exact zr_MS_bad kf kd k3)
        rw [ew2] at this
        exact this
    refine pk_le 5 i (fun q => out ?_) (fun q => ?_)
    · have : i = 5 := by omega
      subst this; exact kc
    · refine zs_isNext 97 0 5 (zr_mf_T kf hT) k3 kn (by omega) (by omega) (by omega) (zb_br (fun q2 => out ?_) (fun q2 => ?_))
      · rw [zr_cn_f q q2] at kc; exact kc
      · have q3 := zr_is_t q2
        have kt := ((zr_mf_T kf hT).2.2 _ q3.1).2
        rw [k3, zx_5', zn_cl (n := s.1 + 1 + i) (by omega), zn_cl (n := 5 * W + i) (by omega), kt, show nI (tx (s.1 + 1 + i)) - (97 : Int32) = nI (tx (s.1 + 1 + i) - 97) from pk_sub (b := 97) (by omega)]
        refine ⟨vW, vp_in_nI (by omega) (by decide), vp_in_nI (by omega) (by decide), ?_⟩
        rintro _ rfl
        refine ⟨vW, vW, ?_⟩
        rw [zu_k (show (8 : Nat) ≠ 9 by omega), k8, show nI i + (1 : Int32) = nI (i + 1) from nI_1 i]
        rintro _ rfl
        rw [zu_k (show (0 : Nat) ≠ 8 by omega), zu_k (show (0 : Nat) ≠ 9 by omega), k3, show nI (s.1 + 1 + i) + (1 : Int32) = nI (s.1 + 1 + i + 1) from nI_1 _]
        rintro _ rfl
        rw [zr_cn_t q q2] at kc
        refine ⟨⟨i + 1, by omega, rfl, zr_mf_up (zr_mf_up (zr_mf_up kf (by omega)) (by omega)) (by omega), zr_kd_up (zr_kd_up (zr_kd_up kd (by omega)) (by omega)) (by omega), zu_e, by omega, ?_, fun k j h1 h2 h3 => ?_, fun j hj => ?_, fun j hj => ?_, by omega⟩, ?_⟩
        · rw [zu_k (by omega), zu_e]
        · rw [zu_k2 h3, zu_k2 h2, zu_k h1]; exact kk k j h1 h2 h3
        · rw [zu_k (by omega), zu_k (by omega), zu_i (by omega)]; exact klo j hj
        · rw [zu_k (by omega), zu_k (by omega)]
          by_cases e : j = i
          · subst e; rw [zu_e]
          · rw [zu_i (by omega)]; exact kl j (by omega)
        · show 5 - (zz_up (zz_up (zz_up K 9 (5 * W + i) (nI (tx (s.1 + 1 + i) - 97))) 8 W (nI (i + 1))) 0 3 (nI (s.1 + 1 + i + 1)) 8 W).toNatClampNeg < 5 - (K 8 W).toNatClampNeg
          rw [zu_k (by omega), zu_e, k8, zn_cl (by omega), zn_cl (by omega)]; omega
  · have e8 : W = 8 := zn_j (j := 8) (by omega) (by decide) z
    have ew : zr_word tx n s = zr_bad s s.1 := by unfold zr_word; rw [if_pos (by omega)]
    have := h J (by rw [ew]; exact zr_MS_bad mf mk m3)
    rw [ew] at this
    exact this
