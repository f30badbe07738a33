/-! a rule, read by the reference -/
def zr_ct (gr : Nat → Bool) (p : Nat) : Nat := (if gr (3 * p) then 1 else 0) + (if gr (3 * p + 1) then 1 else 0) + (if gr (3 * p + 2) then 1 else 0)
theorem zr_ct_le {gr : Nat → Bool} {p : Nat} : zr_ct gr p ≤ 3 := by
  unfold zr_ct
  cases gr (3 * p) <;> cases gr (3 * p + 1) <;> cases gr (3 * p + 2) <;> decide
theorem zr_ct_3 {gr : Nat → Bool} {p : Nat} : zr_ct gr p = 3 ↔ zr_tk gr p = true := by
  unfold zr_ct zr_tk
  cases gr (3 * p) <;> cases gr (3 * p + 1) <;> cases gr (3 * p + 2) <;> decide
theorem zs_toldOf {I : zz_I} {L : zz_L} {P : Int32 → Prop} {gr : Nat → Bool} (p : Nat) (hp : p < 3) (e : ∀ j, j < 9 → I 12 j = zb_i (gr j)) (h : P (nI (zr_ct gr p))) : zp_X8_toldOf (nI p) P I L := by
  have c0 : (nI 3 * nI p) = nI (3 * p) := pk_mul 3 p
  have c1 : nI (3 * p) + (1 : Int32) = nI (3 * p + 1) := nI_1 _
  have c2 : nI (3 * p) + (2 : Int32) = nI (3 * p + 2) := nI_add _ 2
  have e3 : (3 : Int32) = nI 3 := rfl
  have last : ∀ a b : Nat, (∀ d : Nat, d = (if gr (3 * p + 2) then 1 else 0) → P (nI (a + b + d))) → zp_X8_toldOf_34 P (nI p) (nI b) (nI a) I L := by
    intro a b hd
    unfold zp_X8_toldOf_34
    rw [e3, c0, c2, zn_cl (n := 3 * p + 2) (by omega), e (3 * p + 2) (by omega), nI_add]
    refine ⟨vp_in_nI (by omega) (by decide), zb_br (fun q => ?_) (fun q => ?_)⟩
    · have := hd 0 (by rw [q]; rfl)
      rw [← nI_add] at this; exact this
    · have := hd 1 (by rw [q]; rfl)
      rw [← nI_add] at this; exact this
  have mid : ∀ a : Nat, (∀ b d : Nat, b = (if gr (3 * p + 1) then 1 else 0) → d = (if gr (3 * p + 2) then 1 else 0) → P (nI (a + b + d))) → zp_X8_toldOf_16 P (nI p) (nI a) I L := by
    intro a hd
    unfold zp_X8_toldOf_16
    rw [e3, c0, c1, zn_cl (n := 3 * p + 1) (by omega), e (3 * p + 1) (by omega)]
    refine ⟨vp_in_nI (by omega) (by decide), zb_br (fun q => ?_) (fun q => ?_)⟩
    · exact last a 0 (fun d hd2 => hd 0 d (by rw [q]; rfl) hd2)
    · exact last a 1 (fun d hd2 => hd 1 d (by rw [q]; rfl) hd2)
  unfold zp_X8_toldOf
  rw [e3, c0, zn_cl (n := 3 * p) (by omega), e (3 * p) (by omega)]
  unfold zr_ct at h
  refine ⟨vp_in_nI (by omega) (by decide), zb_br (fun q => ?_) (fun q => ?_)⟩
  · refine mid 0 (fun b d hb hd => ?_)
    rw [q] at h; subst hb hd; exact h
  · refine mid 1 (fun b d hb hd => ?_)
    rw [q] at h; subst hb hd; exact h
theorem zs_readRule {I0 J : zz_I} {L : zz_L} {P : Int32 → zz_I → zz_L → Prop} {tx : Nat → Nat} {n : Nat} {s : zr_S} (hT : zr_TM I0 tx n) (hM : zr_MS I0 J s) (hb : s.2.1 = false) (hok : zr_ok n s) (hs : s.1 < n) (h : ∀ K : zz_I, zr_MS I0 K (zr_rule tx n s) → P (zb_i (!(zr_rule tx n s).2.1)) K L) : zp_X8_readOneRule P J L := by
  obtain ⟨hn, t1, t2⟩ := id hT
  obtain ⟨mf, mk, m3, mO⟩ := id hM
  obtain ⟨lM, pM, m12⟩ := mO hb
  obtain ⟨hl, hpg⟩ := hok.2 hb
  have h8 := hl.1
  obtain ⟨gr, egr⟩ : ∃ gr, gr = s.2.2.2.2 := ⟨_, rfl⟩
  rw [← egr] at m12
  have hbad : ∀ (K : zz_I) (p : Nat), zr_mf I0 K → zr_kd K → K 0 3 = nI p → zr_rule tx n s = zr_bad s p → P (0 : Int32) K L := by
    intro K p kf kd k3 e
    have := h K (by rw [e]; exact zr_MS_bad kf kd k3)
    rw [e] at this
    exact this
  have h0 := zr_ct_le (gr := gr) (p := 0)
  have h1 := zr_ct_le (gr := gr) (p := 1)
  have h2 := zr_ct_le (gr := gr) (p := 2)
  refine zs_toldOf 0 (by omega) m12 (zs_toldOf 1 (by omega) m12 (zs_toldOf 2 (by omega) m12 ?_))
  rw [nI_add, nI_add]
  have h9 : nI (zr_ct gr 0 + zr_ct gr 1 + zr_ct gr 2) = (9 : Int32) ↔ (zr_tk gr 0 && zr_tk gr 1 && zr_tk gr 2) = true := by
    rw [Bool.and_eq_true, Bool.and_eq_true, ← zr_ct_3, ← zr_ct_3, ← zr_ct_3]
    constructor
    · intro z
      have : zr_ct gr 0 + zr_ct gr 1 + zr_ct gr 2 = 9 := zn_j (j := 9) (by omega) (by decide) z
      omega
    · intro z
      rw [show zr_ct gr 0 + zr_ct gr 1 + zr_ct gr 2 = 9 by omega]; rfl
  refine ⟨fun z => ?_, fun z => ?_⟩
  rotate_left
  · refine hbad J s.1 mf mk m3 ?_
    unfold zr_rule
    rw [← egr, if_pos (h9.mp z)]
  have g1 : ¬ (zr_tk gr 0 && zr_tk gr 1 && zr_tk gr 2) = true := fun y => z (h9.mpr y)
  rw [m3, show nI s.1 + (1 : Int32) = nI (s.1 + 1) from nI_1 _]
  rintro _ rfl
  obtain ⟨K0, eK0⟩ : ∃ K0, K0 = zz_up J 0 3 (nI (s.1 + 1)) := ⟨_, rfl⟩
  rw [← eK0]
  have f0 : zr_mf I0 K0 := by rw [eK0]; exact zr_mf_up mf (by omega)
  have d0 : zr_kd K0 := by rw [eK0]; exact zr_kd_up mk (by omega)
  have k0 : ∀ k j, ¬ (k = 0 ∧ j = 3) → K0 k j = J k j := fun k j q => by rw [eK0, zu_k2 q]
  have k03 : K0 0 3 = nI (s.1 + 1) := by rw [eK0, zu_e]
  clear eK0
  refine zs_isNext 48 0 2 (zr_mf_T f0 hT) k03 (by omega) (by omega) (by omega) (by omega) (zb_br (fun q1 => ?_) (fun q1 => ?_))
  · refine hbad K0 (s.1 + 1) f0 d0 k03 ?_
    unfold zr_rule
    rw [← egr, if_neg g1, if_pos q1]
  have tq1 := zr_is_t q1
  have kt1 := ((zr_mf_T f0 hT).2.2 _ tq1.1).2
  rw [k03, zn_cl (n := s.1 + 1) (by omega), kt1, show nI (tx (s.1 + 1)) - (48 : Int32) = nI (tx (s.1 + 1) - 48) from pk_sub (b := 48) (by omega)]
  obtain ⟨A, eA⟩ : ∃ A, A = tx (s.1 + 1) - 48 := ⟨_, rfl⟩
  rw [← eA]
  have hA : A < 3 := by omega
  have hcA := zr_ct_le (gr := gr) (p := A)
  refine ⟨vp_in_nI (by omega) (by decide), zs_toldOf A hA (fun j hj => (k0 12 j (by omega)).trans (m12 j hj)) ⟨fun z2 => ?_, fun z2 => ?_⟩⟩
  rotate_left
  · refine hbad K0 (s.1 + 1) f0 d0 k03 ?_
    have : zr_ct gr A = 3 := zn_j (j := 3) (by omega) (by decide) z2
    unfold zr_rule
    rw [← egr, if_neg g1, if_neg (by rw [q1]; decide), ← eA, if_pos (zr_ct_3.mp this)]
  have g2 : ¬ zr_tk gr A = true := fun y => z2 (by rw [zr_ct_3.mpr y]; rfl)
  refine ⟨vp_in_nI (by omega) (by decide), ?_⟩
  rintro _ rfl
  rw [show nI (s.1 + 1) + (1 : Int32) = nI (s.1 + 2) from nI_1 _]
  rintro _ rfl
  obtain ⟨K1, eK1⟩ : ∃ K1, K1 = zz_up K0 0 3 (nI (s.1 + 2)) := ⟨_, rfl⟩
  rw [← eK1]
  have f1 : zr_mf I0 K1 := by rw [eK1]; exact zr_mf_up f0 (by omega)
  have d1 : zr_kd K1 := by rw [eK1]; exact zr_kd_up d0 (by omega)
  have k1 : ∀ k j, ¬ (k = 0 ∧ j = 3) → K1 k j = J k j := fun k j q => by rw [eK1, zu_k2 q, k0 k j q]
  have k13 : K1 0 3 = nI (s.1 + 2) := by rw [eK1, zu_e]
  clear eK1
  refine zs_isNext 48 0 2 (zr_mf_T f1 hT) k13 (by omega) (by omega) (by omega) (by omega) (zb_br (fun q2 => ?_) (fun q2 => ?_))
  · refine hbad K1 (s.1 + 2) f1 d1 k13 ?_
    unfold zr_rule
    rw [← egr, if_neg g1, if_neg (by rw [q1]; decide), ← eA, if_neg g2, if_pos q2]
  have tq2 := zr_is_t q2
  have kt2 := ((zr_mf_T f1 hT).2.2 _ tq2.1).2
  obtain ⟨B, eB⟩ : ∃ B, B = tx (s.1 + 2) - 48 := ⟨_, rfl⟩
  have hB : B < 3 := by omega
  have eIx : (((3 : Int32) * nI A) + nI (tx (s.1 + 2))) - (48 : Int32) = nI (3 * A + B) := by
    rw [show (3 : Int32) * nI A = nI (3 * A) from pk_mul 3 A, nI_add, show nI (3 * A + tx (s.1 + 2)) - (48 : Int32) = nI (3 * A + tx (s.1 + 2) - 48) from pk_sub (b := 48) (by omega), eB, Nat.add_sub_assoc (by omega)]
  rw [k13, zn_cl (n := s.1 + 2) (by omega), kt2, eIx, zn_cl (n := 3 * A + B) (by omega), k1 12 (3 * A + B) (by omega), m12 (3 * A + B) (by omega), show nI (tx (s.1 + 2)) - (48 : Int32) = nI (tx (s.1 + 2) - 48) from pk_sub (b := 48) (by omega), ← eB]
  refine ⟨vp_in_nI (by omega) (by decide), vp_in_nI (by omega) (by decide), zb_br (fun g3 => ?_) (fun g3 => ?_)⟩
  rotate_left
  · refine hbad K1 (s.1 + 2) f1 d1 k13 ?_
    unfold zr_rule
    rw [← egr, if_neg g1, if_neg (by rw [q1]; decide), ← eA, ← eB, if_neg g2, if_neg (by rw [q2]; decide), if_pos g3]
  refine ⟨vp_in_nI (by omega) (by decide), ?_⟩
  rintro _ rfl
  rw [show nI (s.1 + 2) + (1 : Int32) = nI (s.1 + 3) from nI_1 _]
  rintro _ rfl
  obtain ⟨K2, eK2⟩ : ∃ K2, K2 = zz_up K1 0 3 (nI (s.1 + 3)) := ⟨_, rfl⟩
  rw [← eK2]
  have f2 : zr_mf I0 K2 := by rw [eK2]; exact zr_mf_up f1 (by omega)
  have d2 : zr_kd K2 := by rw [eK2]; exact zr_kd_up d1 (by omega)
  have k2 : ∀ k j, ¬ (k = 0 ∧ j = 3) → K2 k j = J k j := fun k j q => by rw [eK2, zu_k2 q, k1 k j q]
  have k23 : K2 0 3 = nI (s.1 + 3) := by rw [eK2, zu_e]
  clear eK2
  refine zs_isNext 48 0 2 (zr_mf_T f2 hT) k23 (by omega) (by omega) (by omega) (by omega) (zb_rb (fun q3 => ?_) (fun q3 => ?_))
  rotate_left
  · refine hbad K2 (s.1 + 3) f2 d2 k23 ?_
    unfold zr_rule
    rw [← egr, if_neg g1, if_neg (by rw [q1]; decide), ← eA, ← eB, if_neg g2, if_neg (by rw [q2]; decide), if_neg (by rw [g3]; decide), if_pos q3]
  have tq3 := zr_is_t q3
  have kt3 := ((zr_mf_T f2 hT).2.2 _ tq3.1).2
  rw [show ((3 : Int32) * nI A) + nI B = nI (3 * A + B) by rw [show (3 : Int32) * nI A = nI (3 * A) from pk_mul 3 A, nI_add], zx_ix3', zn_cl (n := 3 * A + B) (by omega), zn_cl (n := 2 + (3 * A + B)) (by omega), show vp_nar .boolean (1 : Int32) = (1 : Int32) from zx_nar (k := 1) (by decide)]
  refine ⟨vp_in_nI (by omega) (by decide), ?_⟩
  rintro _ rfl
  rw [zu_k (show (0 : Nat) ≠ 12 by omega), k23, zn_cl (n := s.1 + 3) (by omega), zu_k (show (1 : Nat) ≠ 12 by omega), kt3, show nI (tx (s.1 + 3)) - (48 : Int32) = nI (tx (s.1 + 3) - 48) from pk_sub (b := 48) (by omega)]
  refine ⟨vp_in_nI (by omega) (by decide), vp_in_nI (by omega) (by decide), ?_⟩
  rintro _ rfl
  rw [zu_k (show (0 : Nat) ≠ 13 by omega), zu_k (show (0 : Nat) ≠ 12 by omega), k23, show nI (s.1 + 3) + (1 : Int32) = nI (s.1 + 4) from nI_1 _]
  rintro _ rfl
  have er : zr_rule tx n s = (s.1 + 4, false, s.2.2.1, zx_set s.2.2.2.1 (2 + (3 * A + B)) (tx (s.1 + 3) - 48), fun j => gr j || decide (j = 3 * A + B)) := by
    unfold zr_rule
    rw [← egr, if_neg g1, if_neg (by rw [q1]; decide), ← eA, ← eB, if_neg g2, if_neg (by rw [q2]; decide), if_neg (by rw [g3]; decide), if_neg (by rw [q3]; decide)]
  obtain ⟨K3, eK3⟩ : ∃ K3, K3 = zz_up (zz_up (zz_up K2 12 (3 * A + B) (1 : Int32)) 13 (2 + (3 * A + B)) (nI (tx (s.1 + 3) - 48))) 0 3 (nI (s.1 + 4)) := ⟨_, rfl⟩
  rw [← eK3]
  have f3 : zr_mf I0 K3 := by rw [eK3]; exact zr_mf_up (zr_mf_up (zr_mf_up f2 (by omega)) (by omega)) (by omega)
  have d3 : zr_kd K3 := by rw [eK3]; exact zr_kd_up (zr_kd_up (zr_kd_up d2 (by omega)) (by omega)) (by omega)
  have k3 : ∀ k j, ¬ (k = 0 ∧ j = 3) → ¬ (k = 12 ∧ j = 3 * A + B) → ¬ (k = 13 ∧ j = 2 + (3 * A + B)) → K3 k j = J k j := fun k j q1 q2 q3 => by rw [eK3, zu_k2 q1, zu_k2 q3, zu_k2 q2, k2 k j q1]
  have k33 : K3 0 3 = nI (s.1 + 4) := by rw [eK3, zu_e]
  have k312 : K3 12 (3 * A + B) = (1 : Int32) := by rw [eK3, zu_k (by omega), zu_k (by omega), zu_e]
  have k313 : K3 13 (2 + (3 * A + B)) = nI (tx (s.1 + 3) - 48) := by rw [eK3, zu_k (by omega), zu_e]
  clear eK3
  have hh := h K3
  rw [er] at hh
  refine hh ?_
  obtain ⟨l1, l2, l3⟩ := lM
  obtain ⟨p1, p2, p3, p4, p5⟩ := pM
  refine ⟨f3, d3, k33, fun _ => ⟨⟨?_, fun j hj => ?_, fun w hw => ?_⟩, ⟨?_, ?_, fun j hj => ?_, fun w hw => ?_, fun u hu => ?_⟩, fun j hj => ?_⟩⟩
  · rw [k3 0 11 (by omega) (by omega) (by omega)]; exact l1
  · rw [k3 7 j (by omega) (by omega) (by omega)]; exact l2 j hj
  · obtain ⟨b1, b2, b3, b5⟩ := l3 w hw
    refine ⟨?_, ?_, ?_, fun j hj => ?_⟩
    · rw [k3 (7 + 1) w (by omega) (by omega) (by omega)]; exact b1
    · rw [k3 (7 + 3) w (by omega) (by omega) (by omega)]; exact b2
    · rw [k3 (7 + 4) w (by omega) (by omega) (by omega)]; exact b3
    · rw [k3 (7 + 2) _ (by omega) (by omega) (by omega)]; exact b5 j hj
  · show K3 13 0 = nI (zx_set s.2.2.2.1 (2 + (3 * A + B)) _ 0)
    rw [zx_set_ne (by omega), k3 13 0 (by omega) (by omega) (by omega)]; exact p1
  · show K3 13 1 = nI (zx_set s.2.2.2.1 (2 + (3 * A + B)) _ 1)
    rw [zx_set_ne (by omega), k3 13 1 (by omega) (by omega) (by omega)]; exact p2
  · show K3 13 (0 + (2 + j)) = nI (zx_set s.2.2.2.1 (2 + (3 * A + B)) (tx (s.1 + 3) - 48) (2 + j))
    by_cases e : j = 3 * A + B
    · rw [e, zx_set_at, Nat.zero_add]; exact k313
    · rw [zx_set_ne (by omega), k3 13 (0 + (2 + j)) (by omega) (by omega) (by omega)]; exact p3 j hj
  · change w < s.2.2.1 0 0 at hw
    show K3 13 (0 + (11 + w)) = nI (zx_set s.2.2.2.1 (2 + (3 * A + B)) _ (11 + w))
    rw [zx_set_ne (by omega), k3 13 (0 + (11 + w)) (by omega) (by omega) (by omega)]; exact p4 w hw
  · change u < zx_set s.2.2.2.1 (2 + (3 * A + B)) _ 0 at hu
    show K3 13 (0 + (19 + u)) = nI (zx_set s.2.2.2.1 (2 + (3 * A + B)) _ (19 + u))
    rw [zx_set_ne (by omega)] at hu ⊢
    rw [k3 13 (0 + (19 + u)) (by omega) (by omega) (by omega)]; exact p5 u hu
  · show K3 12 j = zb_i (gr j || decide (j = 3 * A + B))
    by_cases e : j = 3 * A + B
    · rw [e, decide_eq_true rfl, Bool.or_true]; exact k312
    · rw [decide_eq_false e, Bool.or_false, k3 12 j (by omega) (by omega) (by omega)]; exact m12 j hj
