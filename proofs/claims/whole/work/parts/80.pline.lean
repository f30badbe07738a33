/-! the line and the whole text, read by the developers' program -/
theorem zs_putG {t u m un : Nat} {I : zz_I} {L : zz_L} {P : zz_I → zz_L → Prop} (e3 : I t 3 = nI un) (hun : un ≤ 24) (hm : u + m ≤ un) (h : ∀ J : zz_I, (∀ k j, ¬ (k = t + 1 ∧ u ≤ j ∧ j < u + m) → J k j = I k j) → (∀ j, u ≤ j → j < u + m → J (t + 1) j = (7 : Int32)) → P J L) : zp_X6_putGap t (nI u) (nI m) P I L := by
  refine ⟨fun y J N => ∃ i : Nat, i ≤ m ∧ y = nI i ∧ L = N ∧ (∀ k j, ¬ (k = t + 1 ∧ u ≤ j ∧ j < u + m) → J k j = I k j) ∧ (∀ j, u ≤ j → j < u + i → J (t + 1) j = (7 : Int32)), fun y _ _ => 24 - y.toNatClampNeg, ⟨0, by omega, rfl, rfl, fun _ _ _ => rfl, fun j h1 h2 => absurd h1 (by omega)⟩, ?_⟩
  rintro y J N ⟨i, hi, rfl, rfl, hf, hv⟩
  unfold zp_X6_putGap_2b
  refine pk_le m i (fun c => ?_) (fun c => ?_)
  · have : i = m := by omega
    subst this
    exact h J hf hv
  · rw [nI_add]
    refine zs_X6_hasUnit (n := un) (by omega) ((hf t 3 (by omega)).trans e3) (fun q => (zn_out (by omega) q (show u + i < un by omega) rfl).elim) (fun _ _ _ => ⟨fun q => absurd q (by decide), fun _ => ⟨vp_in_nI (by omega) (by decide), ?_⟩⟩)
    rw [zn_cl (by omega)]
    rintro _ rfl _ rfl
    refine ⟨⟨i + 1, by omega, nI_1 i, rfl, fun k j hk => ?_, fun j h1 h2 => ?_⟩, zz_down (i := i) (n := 24) (by omega) (by omega)⟩
    · rw [zu_k2 (by omega)]; exact hf k j hk
    · by_cases e : j = u + i
      · rw [e, zu_e]
      · rw [zu_i e]; exact hv j h1 (by omega)
theorem zs_putS {t u m un : Nat} {x : Int32} {I : zz_I} {L : zz_L} {P : zz_I → zz_L → Prop} (e3 : I t 3 = nI un) (hun : un ≤ 24) (hm : u + m ≤ un) (h : ∀ J : zz_I, (∀ k j, ¬ (k = t + 1 ∧ u ≤ j ∧ j < u + m) → J k j = I k j) → (∀ j, u ≤ j → j < u + m → J (t + 1) j = if j = u then x else (8 : Int32)) → P J L) : zp_X6_putSign t (nI u) x (nI m) P I L := by
  refine ⟨fun y J N => ∃ i : Nat, i ≤ m ∧ y = nI i ∧ L = N ∧ (∀ k j, ¬ (k = t + 1 ∧ u ≤ j ∧ j < u + m) → J k j = I k j) ∧ (∀ j, u ≤ j → j < u + i → J (t + 1) j = if j = u then x else (8 : Int32)), fun y _ _ => 24 - y.toNatClampNeg, ⟨0, by omega, rfl, rfl, fun _ _ _ => rfl, fun j h1 h2 => absurd h1 (by omega)⟩, ?_⟩
  rintro y J N ⟨i, hi, rfl, rfl, hf, hv⟩
  unfold zp_X6_putSign_3b
  refine pk_le m i (fun c => ?_) (fun c => ?_)
  · have : i = m := by omega
    subst this
    exact h J hf hv
  · have stp : ∀ v : Int32, v = (if u + i = u then x else (8 : Int32)) → ∀ K, K = zz_up J (t + 1) (u + i) v → ∀ z, z = nI i + (1 : Int32) → (∃ i2 : Nat, i2 ≤ m ∧ z = nI i2 ∧ L = L ∧ (∀ k j, ¬ (k = t + 1 ∧ u ≤ j ∧ j < u + m) → K k j = I k j) ∧ (∀ j, u ≤ j → j < u + i2 → K (t + 1) j = if j = u then x else (8 : Int32))) ∧ 24 - z.toNatClampNeg < 24 - (nI i).toNatClampNeg := by
      rintro v ev _ rfl _ rfl
      refine ⟨⟨i + 1, by omega, nI_1 i, rfl, fun k j hk => ?_, fun j h1 h2 => ?_⟩, zz_down (i := i) (n := 24) (by omega) (by omega)⟩
      · rw [zu_k2 (by omega)]; exact hf k j hk
      · by_cases e : j = u + i
        · rw [e, zu_e]; exact ev
        · rw [zu_i e]; exact hv j h1 (by omega)
    rw [nI_add]
    refine zs_X6_hasUnit (n := un) (by omega) ((hf t 3 (by omega)).trans e3) (fun q => (zn_out (by omega) q (show u + i < un by omega) rfl).elim) (fun _ _ _ => ⟨fun q => absurd q (by decide), fun _ => ⟨fun q => ⟨vp_in_nI (by omega) (by decide), ?_⟩, fun q => ⟨vp_in_nI (by omega) (by decide), ?_⟩⟩⟩)
    · rw [zn_cl (by omega)]
      refine stp _ ?_
      have : i ≠ 0 := fun z => q (by rw [z]; rfl)
      rw [if_neg (by omega)]
    · rw [zn_cl (by omega)]
      refine stp _ ?_
      have : i = 0 := zn_j (j := 0) (by omega) (by decide) q
      rw [if_pos (by omega)]
theorem zs_sign43 {I0 J : zz_I} {L : zz_L} {P : zz_I → zz_L → Prop} {n x m : Nat} {s : zr_S} (hC : zr_CS I0 J s) (hb : s.2.1 = false) (hok : zr_ok n s) (hx : x ≤ 7) (hm1 : 1 ≤ m) (hm9 : m ≤ 9) (h : ∀ K : zz_I, zr_CS I0 K (zr_lay s x m) → P K L) : zp_X4_parseSign_43 P (nI x) (nI m) J L := by
  obtain ⟨cf, c4, c5, cO⟩ := id hC
  obtain ⟨lC, pC, c16⟩ := cO hb
  rw [hb] at c5
  obtain ⟨hl, hpg⟩ := hok.2 hb
  have h24 := hpg.1
  have h8 := hl.1
  have g1 : J 10 3 = nI (s.2.2.2.1 0) := pC.1
  obtain ⟨u, eu⟩ : ∃ u, u = s.2.2.2.1 0 := ⟨_, rfl⟩
  rw [← eu] at g1 h24
  unfold zp_X4_parseSign_43
  rw [g1, nI_add]
  refine pk_lt m 1 (fun c => absurd c (by omega)) (fun _ => pk_lt 9 m (fun c => absurd c (by omega)) (fun _ => pk_le (u + m) 24 (fun c => ?_) (fun c => ?_)))
  · rintro _ rfl
    rw [nI_add]
    rintro _ rfl
    have fin : ∀ K : zz_I, (∀ k j, ¬ (k = 11 ∧ u ≤ j ∧ j < u + m) → K k j = zz_up J 10 3 (nI (u + m)) k j) → (∀ j, u ≤ j → j < u + m → K 11 j = nI (if x = 7 ∨ j = u then x else 8)) → zp_X4_parseSign_124 P K L := by
      intro K kf kv
      have k14 : K 1 4 = nI s.1 := by rw [kf 1 4 (by omega), zu_k (by omega)]; exact c4
      unfold zp_X4_parseSign_124
      rw [k14, show nI s.1 + (1 : Int32) = nI (s.1 + 1) from nI_1 _]
      rintro _ rfl
      refine h _ ?_
      have el : zr_lay s x m = (s.1 + 1, false, s.2.2.1, zr_pl s.2.2.2.1 x m, s.2.2.2.2) := by
        unfold zr_lay; rw [if_neg (by omega)]
      rw [el]
      have kk : ∀ k j, ¬ (k = 11 ∧ u ≤ j ∧ j < u + m) → ¬ (k = 10 ∧ j = 3) → ¬ (k = 1 ∧ j = 4) → zz_up K 1 4 (nI (s.1 + 1)) k j = J k j := fun k j q1 q2 q3 => by rw [zu_k2 q3, kf k j q1, zu_k2 q2]
      obtain ⟨l1, l2, l3⟩ := lC
      obtain ⟨-, g2, g3, g4, g5⟩ := pC
      have z0 : zr_pl s.2.2.2.1 x m 0 = u + m := by unfold zr_pl; rw [if_pos rfl, eu]
      have zlo : ∀ j, 1 ≤ j → j < 19 + u → zr_pl s.2.2.2.1 x m j = s.2.2.2.1 j := fun j q1 q2 => by unfold zr_pl; rw [if_neg (by omega), if_neg (by omega)]
      have zhi : ∀ j, 19 + u ≤ j → j < 19 + u + m → zr_pl s.2.2.2.1 x m j = if x = 7 ∨ j = 19 + u then x else 8 := fun j q1 q2 => by unfold zr_pl; rw [← eu, if_neg (by omega), if_pos ⟨q1, q2⟩]
      refine ⟨fun k j hk => ?_, zu_e, ?_, fun _ => ⟨⟨?_, fun j hj => ?_, fun w hw => ?_⟩, ⟨?_, ?_, fun j hj => ?_, fun w hw => ?_, fun v hv => ?_⟩, ?_⟩⟩
      · rw [kk k j (by omega) (by omega) (by omega)]; exact cf k j hk
      · rw [kk 1 5 (by omega) (by omega) (by omega)]; exact c5
      · rw [kk 3 6 (by omega) (by omega) (by omega)]; exact l1
      · rw [kk (3 + 1) j (by omega) (by omega) (by omega)]; exact l2 j hj
      · obtain ⟨b1, b2, b3, b4, b5⟩ := l3 w hw
        refine ⟨?_, ?_, ?_, ?_, fun j hj => ?_⟩
        · rw [kk (3 + 3) w (by omega) (by omega) (by omega)]; exact b1
        · rw [kk (3 + 4) w (by omega) (by omega) (by omega)]; exact b2
        · rw [kk (3 + 5) w (by omega) (by omega) (by omega)]; exact b3
        · rw [kk (3 + 6) w (by omega) (by omega) (by omega)]; exact b4
        · rw [kk (3 + 2) _ (by omega) (by omega) (by omega)]; exact b5 j hj
      · show zz_up K 1 4 (nI (s.1 + 1)) 10 3 = nI (zr_pl s.2.2.2.1 x m 0)
        rw [z0, zu_k (by omega), kf 10 3 (by omega), zu_e]
      · show zz_up K 1 4 (nI (s.1 + 1)) 10 4 = nI (zr_pl s.2.2.2.1 x m 1)
        rw [zlo 1 (by omega) (by omega), kk 10 4 (by omega) (by omega) (by omega)]; exact g2
      · show zz_up K 1 4 (nI (s.1 + 1)) 12 j = nI (zr_pl s.2.2.2.1 x m (2 + j))
        rw [zlo (2 + j) (by omega) (by omega), kk 12 j (by omega) (by omega) (by omega)]; exact g3 j hj
      · change w < s.2.2.1 0 0 at hw
        show zz_up K 1 4 (nI (s.1 + 1)) 13 w = nI (zr_pl s.2.2.2.1 x m (11 + w))
        rw [zlo (11 + w) (by omega) (by omega), kk 13 w (by omega) (by omega) (by omega)]; exact g4 w hw
      · change v < zr_pl s.2.2.2.1 x m 0 at hv
        rw [z0] at hv
        show zz_up K 1 4 (nI (s.1 + 1)) 11 v = nI (zr_pl s.2.2.2.1 x m (19 + v))
        by_cases q : v < u
        · rw [zlo (19 + v) (by omega) (by omega), kk 11 v (by omega) (by omega) (by omega)]; exact g5 v (by omega)
        · rw [zhi (19 + v) (by omega) (by omega), zu_k (by omega), kv v (by omega) (by omega)]
          congr 1
          by_cases q2 : x = 7 ∨ v = u
          · rw [if_pos q2, if_pos (by omega)]
          · rw [if_neg q2, if_neg (by omega)]
      · rw [kk 1 6 (by omega) (by omega) (by omega)]; exact c16
    refine ⟨fun z => ?_, fun z => ?_⟩
    · have hx7 : x ≠ 7 := fun q => z (by rw [q]; rfl)
      refine zs_putS (t := 10) (un := u + m) zu_e (by omega) (by omega) (fun K kf kv => fin K kf (fun j h1 h2 => ?_))
      rw [kv j h1 h2]
      by_cases q : j = u
      · rw [if_pos q, if_pos (Or.inr q)]
      · rw [if_neg q, if_neg (by omega)]; rfl
    · have hx7 : x = 7 := zn_j (j := 7) (by omega) (by decide) z
      refine zs_putG (t := 10) (un := u + m) zu_e (by omega) (by omega) (fun K kf kv => fin K kf (fun j h1 h2 => ?_))
      rw [kv j h1 h2, if_pos (Or.inl hx7), hx7]; rfl
  · rintro _ rfl
    refine h _ ?_
    unfold zr_lay
    rw [if_pos (by omega)]
    exact zr_CS_bad (zr_CB_of cf c4)
theorem zs_parseSign {I0 J : zz_I} {L : zz_L} {P : zz_I → zz_L → Prop} {tx : Nat → Nat} {n : Nat} {s : zr_S} (hT : zr_T I0 tx n) (hC : zr_CS I0 J s) (hb : s.2.1 = false) (hok : zr_ok n s) (hs : s.1 < n) (h : ∀ K : zz_I, zr_CS I0 K (zr_sg tx n s) → P K L) : zp_X4_parseSign (zr_ch tx n s.1) P J L := by
  obtain ⟨hn, t1, t2⟩ := id hT
  obtain ⟨cf, c4, c5, cO⟩ := id hC
  obtain ⟨lC, pC, c16⟩ := cO hb
  obtain ⟨hl, hpg⟩ := hok.2 hb
  have h255 := (t2 _ hs).1
  have ec : zr_ch tx n s.1 = nI (tx s.1) := by unfold zr_ch; rw [if_pos hs]
  unfold zp_X4_parseSign
  rintro _ rfl
  refine zs_isLet (fun q => (t2 _ q).1) (zb_br (fun q => ⟨fun z => ?_, fun z => ?_⟩) (fun q => ?_))
  · rw [ec] at z ⊢
    have h46 : ¬ tx s.1 = 46 := fun y => z (by rw [y]; rfl)
    cases q9 : zr_is tx n 48 1 9 s.1
    · have hbad : ∀ K : zz_I, zr_CB I0 K s.1 → P K L := fun K hK => h K (by
        unfold zr_sg
        rw [if_neg h46, if_neg (by rw [q]; decide), if_neg (by rw [q9]; decide)]
        exact zr_CS_bad hK)
      have e48 : (48 : Int32) = nI 48 := rfl
      unfold zp_X4_parseSign_43
      rw [e48]
      rcases zr_is_f q9 hs with y | y
      · refine ⟨fun _ => ?_, fun y2 => absurd ((zr_lt (a := 1) (by omega) (by omega) (by omega)).mpr y) y2⟩
        rintro _ rfl
        exact hbad _ (zr_CB_of cf c4)
      · refine ⟨fun _ => ?_, fun _ => ⟨fun _ => ?_, fun y2 => ?_⟩⟩
        · rintro _ rfl
          exact hbad _ (zr_CB_of cf c4)
        · rintro _ rfl
          exact hbad _ (zr_CB_of cf c4)
        · have := (zr_le (a := 9) (by omega) (by omega) (by omega)).mp (Int32.not_lt.mp y2)
          omega
    · have t9 := zr_is_t q9
      rw [show nI (tx s.1) - (48 : Int32) = nI (tx s.1 - 48) from pk_sub (b := 48) (by omega)]
      refine zs_sign43 (x := 7) hC hb hok (by omega) (by omega) (by omega) (fun K hK => h K ?_)
      unfold zr_sg
      rw [if_neg h46, if_neg (by rw [q]; decide), if_pos q9]
      exact hK
  · rw [ec] at z
    have h46 : tx s.1 = 46 := zn_j (j := 46) (by omega) (by decide) z
    refine zs_sign43 (x := 6) (m := 1) hC hb hok (by omega) (by omega) (by omega) (fun K hK => h K ?_)
    unfold zr_sg
    rw [if_pos h46]
    exact hK
  · have t9 := zr_is_t q
    rw [ec, show nI (tx s.1) - (97 : Int32) = nI (tx s.1 - 97) from pk_sub (b := 97) (by omega)]
    rintro _ rfl
    refine zs_widthOf (b := 3) (lx := s.2.2.1) (fun j hj => lC.2.1 j hj) (by omega) ?_
    have hw := hl.2.1 (tx s.1 - 97) (by omega)
    refine zs_sign43 hC hb hok (by omega) (by omega) (by omega) (fun K hK => h K ?_)
    unfold zr_sg
    rw [if_neg (by omega), if_pos q]
    exact hK
theorem zr_go_stop {f : zr_S → zr_S} {n k : Nat} {t : zr_S} (h : t.2.1 = true ∨ n ≤ t.1) : zr_go f n k t = t := by
  cases k with
  | zero => rfl
  | succ k => simp only [zr_go]; rw [if_pos h]
theorem zr_go_step {f : zr_S → zr_S} {n k : Nat} {t : zr_S} (hb : t.2.1 = false) (ht : t.1 < n) : zr_go f n (k + 1) t = zr_go f n k (f t) := by
  simp only [zr_go]
  rw [if_neg]
  rintro (q | q)
  · rw [hb] at q; cases q
  · omega
theorem zs_line28 {I0 J : zz_I} {L : zz_L} {P : zz_I → zz_L → Prop} {tx : Nat → Nat} {n : Nat} {s e : zr_S} (hT : zr_T I0 tx n) (hC : zr_CS I0 J s) (hok : zr_ok n s) (he : zr_go (zr_sg tx n) n 110 s = e) (h : ∀ K : zz_I, zr_CS I0 K e → P K L) : zp_X4_parseLine_28 P (0 : Int32) J L := by
  obtain ⟨hn, t1, t2⟩ := id hT
  refine ⟨fun y K N => ∃ (i : Nat) (t : zr_S), i ≤ 110 ∧ y = nI i ∧ L = N ∧ zr_CS I0 K t ∧ zr_ok n t ∧ zr_go (zr_sg tx n) n (110 - i) t = e, fun y _ _ => 110 - y.toNatClampNeg, ⟨0, s, by omega, rfl, rfl, hC, hok, he⟩, ?_⟩
  rintro y K N ⟨i, t, hi, rfl, rfl, hK, htk, hgo⟩
  unfold zp_X4_parseLine_28b
  have hpos := htk.1
  rw [hK.2.1, hK.2.2.1, (zr_fr_T hK.1 hT).2.1]
  refine pk_le 110 i (fun c => ?_) (fun c => zb_rb (fun q => ?_) (fun q => pk_le n t.1 (fun c2 => ?_) (fun c2 => ?_)))
  · have : i = 110 := by omega
    subst this
    have e1 : t = e := hgo
    subst e1
    exact h K hK
  · rw [zr_go_stop (Or.inl q)] at hgo
    subst hgo; exact h K hK
  · rw [zr_go_stop (Or.inr c2)] at hgo
    subst hgo; exact h K hK
  · rw [show 110 - i = 110 - (i + 1) + 1 by omega, zr_go_step q c2] at hgo
    refine zs_peek (zr_fr_T hK.1 hT) hK.2.1 (by omega) (zs_parseSign hT hK q htk c2 (fun K2 hK2 => ?_))
    rintro _ rfl
    exact ⟨⟨i + 1, _, by omega, nI_1 i, rfl, hK2, (zr_sg_gd c2 htk q).1, hgo⟩, zz_down (i := i) (n := 110) (by omega) (by omega)⟩
theorem zs_parseLine {I0 J : zz_I} {L : zz_L} {P : zz_I → zz_L → Prop} {tx : Nat → Nat} {n : Nat} {s : zr_S} (hT : zr_T I0 tx n) (hC : zr_CS I0 J s) (hb : s.2.1 = false) (hok : zr_ok n s) (hs : s.1 < n) (h : ∀ K : zz_I, zr_CS I0 K (zr_line tx n s) → P K L) : zp_X4_parseLine P J L := by
  obtain ⟨hn, t1, t2⟩ := id hT
  obtain ⟨cf, c4, c5, cO⟩ := id hC
  obtain ⟨lC, pC, c16⟩ := cO hb
  unfold zp_X4_parseLine
  rw [c4, show nI s.1 + (1 : Int32) = nI (s.1 + 1) from nI_1 _]
  rintro _ rfl
  have f1 : zr_fr I0 (zz_up J 1 4 (nI (s.1 + 1))) := zr_fr_up cf (by omega)
  refine pk_lt (s.1 + 1) n (fun c => ?_) (fun c => ?_) (hx := zu_e) (hy := (zr_fr_T f1 hT).2.1)
  · refine zs_line28 (s := (s.1 + 1, s.2)) (e := zr_line tx n s) hT ⟨f1, zu_e, (zu_k2 (by omega)).trans c5, fun _ => ?_⟩ ⟨by show s.1 + 1 ≤ n; omega, hok.2⟩ ?_ h
    · have kk : ∀ k j, ¬ (k = 1 ∧ j = 4) → zz_up J 1 4 (nI (s.1 + 1)) k j = J k j := fun k j q => zu_k2 q
      obtain ⟨l1, l2, l3⟩ := lC
      obtain ⟨g1, g2, g3, g4, g5⟩ := pC
      refine ⟨⟨?_, fun j hj => ?_, fun w hw => ?_⟩, ⟨?_, ?_, fun j hj => ?_, fun w hw => ?_, fun u hu => ?_⟩, ?_⟩
      · rw [kk 3 6 (by omega)]; exact l1
      · rw [kk (3 + 1) j (by omega)]; exact l2 j hj
      · obtain ⟨b1, b2, b3, b4, b5⟩ := l3 w hw
        refine ⟨?_, ?_, ?_, ?_, fun j hj => ?_⟩
        · rw [kk (3 + 3) w (by omega)]; exact b1
        · rw [kk (3 + 4) w (by omega)]; exact b2
        · rw [kk (3 + 5) w (by omega)]; exact b3
        · rw [kk (3 + 6) w (by omega)]; exact b4
        · rw [kk (3 + 2) _ (by omega)]; exact b5 j hj
      · rw [kk 10 3 (by omega)]; exact g1
      · rw [kk 10 4 (by omega)]; exact g2
      · rw [kk (10 + 2) j (by omega)]; exact g3 j hj
      · rw [kk (10 + 3) w (by omega)]; exact g4 w hw
      · rw [kk (10 + 1) u (by omega)]; exact g5 u hu
      · rw [kk 1 6 (by omega)]; exact c16
    · unfold zr_line; rw [if_neg (by omega)]
  · rintro _ rfl
    have hCB := zr_CB_of f1 (p := s.1 + 1) zu_e
    refine zs_line28 (s := zr_bad s (s.1 + 1)) (e := zr_line tx n s) hT (zr_CS_bad hCB) ⟨by show s.1 + 1 ≤ n; omega, fun q => by cases q⟩ ?_ h
    rw [zr_go_stop (Or.inl rfl)]
    unfold zr_line; rw [if_pos c]
theorem zs_parsePart {I0 J : zz_I} {L : zz_L} {P : zz_I → zz_L → Prop} {tx : Nat → Nat} {n : Nat} {s : zr_S} (hT : zr_T I0 tx n) (hC : zr_CS I0 J s) (hb : s.2.1 = false) (hok : zr_ok n s) (hs : s.1 < n) (h : ∀ K : zz_I, zr_CS I0 K (zr_part tx n s) → P K L) : zp_X4_parsePart P J L := by
  obtain ⟨hn, t1, t2⟩ := id hT
  obtain ⟨cf, c4, c5, cO⟩ := id hC
  have h255 := (t2 _ hs).1
  refine zs_peek (zr_fr_T cf hT) c4 hok.1 ?_
  have ec : zr_ch tx n s.1 = nI (tx s.1) := by unfold zr_ch; rw [if_pos hs]
  rw [ec]
  have hz : ∀ k : Nat, k < 256 → (nI (tx s.1) = nI k ↔ tx s.1 = k) := fun k hk => nI_eq (by omega) (by omega)
  refine ⟨fun z => ?_, fun z => ?_, fun z => ?_, fun z1 z2 z3 => ?_⟩
  · have e := (hz 100 (by omega)).mp z
    refine zs_parseWord hT hC hb hok hs (fun K hK => h K ?_)
    unfold zr_part; rw [if_pos e]; exact hK
  · have e := (hz 108 (by omega)).mp z
    refine zs_parseLine hT hC hb hok hs (fun K hK => h K ?_)
    unfold zr_part; rw [if_neg (by omega), if_pos e]; exact hK
  · have e := (hz 114 (by omega)).mp z
    refine zs_parseRule hT hC hb hok hs (fun K hK => h K ?_)
    unfold zr_part; rw [if_neg (by omega), if_neg (by omega), if_pos e]; exact hK
  · have e1 : ¬ tx s.1 = 100 := fun e => z1 ((hz 100 (by omega)).mpr e)
    have e2 : ¬ tx s.1 = 108 := fun e => z2 ((hz 108 (by omega)).mpr e)
    have e3 : ¬ tx s.1 = 114 := fun e => z3 ((hz 114 (by omega)).mpr e)
    rintro _ rfl
    refine h _ ?_
    unfold zr_part; rw [if_neg e1, if_neg e2, if_neg e3]
    exact zr_CS_bad (zr_CB_of cf c4)
def zr_ans (s : zr_S) : Int32 := if s.2.1 = true then nI s.1 else -9
theorem zs_parse {I : zz_I} {L : zz_L} {P : Int32 → zz_I → zz_L → Prop} {tx : Nat → Nat} {n : Nat} (hT : zr_T I tx n) (h46 : I 4 6 = 1) (h : ∀ K : zz_I, zr_CS I K (zr_end tx n) → P (zr_ans (zr_end tx n)) K L) : zp_X4_parse P I L := by
  obtain ⟨hn, t1, t2⟩ := id hT
  rintro _ rfl _ rfl _ rfl _ rfl _ rfl _ rfl
  refine zs_fill2 (by decide) (fun J hf hv => ?_)
  refine zs_parseWidths (I0 := I) hT h46 (fun k j hk => ?_) ?_ ?_ ?_ ?_ ?_ ?_ hv (fun J1 hJ1 => ?_)
  · rw [hf k j (by omega), zu_k2 (by omega), zu_k2 (by omega), zu_k2 (by omega), zu_k2 (by omega), zu_k2 (by omega), zu_k2 (by omega)]
  · rw [hf 1 4 (by omega), zu_k2 (by omega), zu_k2 (by omega), zu_k2 (by omega), zu_k2 (by omega), zu_k2 (by omega), zu_e]
  · rw [hf 1 5 (by omega), zu_k2 (by omega), zu_k2 (by omega), zu_k2 (by omega), zu_k2 (by omega), zu_e]
  · rw [hf 1 6 (by omega), zu_k2 (by omega), zu_k2 (by omega), zu_k2 (by omega), zu_e]
  · rw [hf 3 6 (by omega), zu_k2 (by omega), zu_k2 (by omega), zu_e]
  · rw [hf 10 3 (by omega), zu_k2 (by omega), zu_e]
  · rw [hf 10 4 (by omega), zu_e]
  refine ⟨fun y K N => ∃ (i : Nat) (t : zr_S), i ≤ 110 ∧ y = nI i ∧ L = N ∧ zr_CS I K t ∧ zr_ok n t ∧ zr_go (zr_part tx n) n (110 - i) t = zr_end tx n, fun y _ _ => 110 - y.toNatClampNeg, ⟨0, zr_s0 tx n, by omega, rfl, rfl, hJ1, zr_s0_ok, rfl⟩, ?_⟩
  rintro y K N ⟨i, t, hi, rfl, rfl, hK, htk, hgo⟩
  unfold zp_X4_parse_56b
  have hpos := htk.1
  have last : t = zr_end tx n → zp_X4_parse_90 P K L := by
    intro e
    unfold zp_X4_parse_90
    have ha := h K (by rw [← e]; exact hK)
    rw [← e] at ha
    unfold zr_ans at ha
    rw [hK.2.2.1, hK.2.1]
    refine zb_br (fun q => ?_) (fun q => ?_)
    · rw [q] at ha; exact ha
    · rw [if_pos q] at ha; exact ha
  rw [hK.2.1, hK.2.2.1, (zr_fr_T hK.1 hT).2.1]
  refine pk_le 110 i (fun c => ?_) (fun c => zb_rb (fun q => ?_) (fun q => pk_le n t.1 (fun c2 => ?_) (fun c2 => ?_)))
  · have : i = 110 := by omega
    subst this
    exact last hgo
  · rw [zr_go_stop (Or.inl q)] at hgo
    exact last hgo
  · rw [zr_go_stop (Or.inr c2)] at hgo
    exact last hgo
  · rw [show 110 - i = 110 - (i + 1) + 1 by omega, zr_go_step q c2] at hgo
    refine zs_parsePart hT hK q htk c2 (fun K2 hK2 => ?_)
    rintro _ rfl
    exact ⟨⟨i + 1, _, by omega, nI_1 i, rfl, hK2, (zr_part_gd c2 htk q).1, hgo⟩, zz_down (i := i) (n := 110) (by omega) (by omega)⟩
