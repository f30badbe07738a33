/-! the line and the whole text, read by the reference -/
theorem zr_go_fin {f : zr_S → zr_S} {n : Nat} (hf : ∀ s : zr_S, s.1 < n → zr_ok n s → s.2.1 = false → zr_gd n s (f s)) : ∀ k (s : zr_S), zr_ok n s → n ≤ s.1 + k → (zr_go f n k s).2.1 = true ∨ n ≤ (zr_go f n k s).1 := by
  intro k
  induction k with
  | zero => intro s _ h2; exact Or.inr (by show n ≤ s.1; omega)
  | succ k ih =>
    intro s h h2
    by_cases c : s.2.1 = true ∨ n ≤ s.1
    · rw [zr_go_stop c]; exact c
    · have hb : s.2.1 = false := by
        cases q : s.2.1
        · rfl
        · exact absurd (Or.inl q) c
      have hs : s.1 < n := by omega
      rw [zr_go_step hb hs]
      have g := hf s hs h hb
      by_cases q : (f s).2.1 = false
      · have := g.2 q
        exact ih (f s) g.1 (by omega)
      · rw [zr_go_stop (Or.inl (zr_tt q))]
        exact Or.inl (zr_tt q)
theorem zr_lay_pos {s : zr_S} {x m : Nat} (hm : 1 ≤ m) (h : (zr_lay s x m).2.1 = false) : 0 < (zr_lay s x m).2.2.2.1 0 := by
  unfold zr_lay at h ⊢
  by_cases c : 24 < s.2.2.2.1 0 + m
  · rw [if_pos c] at h; cases h
  · rw [if_neg c]
    show 0 < zr_pl s.2.2.2.1 x m 0
    unfold zr_pl
    rw [if_pos rfl]; omega
/-- before the line no unit is laid -/
def zr_np (n : Nat) (t : zr_S) : Prop := t.2.1 = false → t.1 < n → t.2.2.2.1 0 = 0
theorem zr_part_np {tx : Nat → Nat} {n : Nat} {s : zr_S} (hn : n ≤ 110) (hs : s.1 < n) (hok : zr_ok n s) (hb : s.2.1 = false) (h : zr_np n s) : zr_np n (zr_part tx n s) := by
  have h0 := h hb hs
  intro q1 q2
  unfold zr_part at q1 q2 ⊢
  by_cases h1 : tx s.1 = 100
  · rw [if_pos h1] at q1 ⊢
    unfold zr_word at q1 ⊢
    by_cases c1 : s.2.2.1 0 0 = 8
    · rw [if_pos c1] at q1; cases q1
    rw [if_neg c1] at q1 ⊢
    unfold zr_word1 at q1 ⊢
    by_cases c2 : zr_cn (zr_is tx n 97 0 5) 5 (s.1 + 1) < 2
    · rw [if_pos c2] at q1; cases q1
    rw [if_neg c2] at q1 ⊢
    by_cases c3 : zr_is tx n 48 0 2 (s.1 + 1 + zr_cn (zr_is tx n 97 0 5) 5 (s.1 + 1)) = false
    · rw [if_pos c3] at q1; cases q1
    rw [if_neg c3] at q1 ⊢
    by_cases c4 : zr_is tx n 48 0 2 (s.1 + 1 + zr_cn (zr_is tx n 97 0 5) 5 (s.1 + 1) + 1) = false
    · rw [if_pos c4] at q1; cases q1
    rw [if_neg c4] at q1 ⊢
    by_cases c5 : zr_is tx n 48 1 9 (s.1 + 1 + zr_cn (zr_is tx n 97 0 5) 5 (s.1 + 1) + 2) = false
    · rw [if_pos c5] at q1; cases q1
    rw [if_neg c5]
    show zx_set s.2.2.2.1 (11 + s.2.2.1 0 0) _ 0 = 0
    rw [zx_set_ne (by omega)]; exact h0
  rw [if_neg h1] at q1 q2 ⊢
  by_cases h2 : tx s.1 = 108
  · rw [if_pos h2] at q1 q2 ⊢
    unfold zr_line at q1 q2 ⊢
    by_cases c1 : n ≤ s.1 + 1
    · rw [if_pos c1] at q1; cases q1
    rw [if_neg c1] at q1 q2
    have := zr_go_fin (fun s h1 h2 h3 => zr_sg_gd (tx := tx) h1 h2 h3) 110 (s.1 + 1, s.2) ⟨by show s.1 + 1 ≤ n; omega, hok.2⟩ (by show n ≤ s.1 + 1 + 110; omega)
    rcases this with z | z
    · rw [q1] at z; cases z
    · omega
  rw [if_neg h2] at q1 q2 ⊢
  by_cases h3 : tx s.1 = 114
  · rw [if_pos h3] at q1 ⊢
    unfold zr_rule at q1 ⊢
    by_cases c1 : (zr_tk s.2.2.2.2 0 && zr_tk s.2.2.2.2 1 && zr_tk s.2.2.2.2 2) = true
    · rw [if_pos c1] at q1; cases q1
    rw [if_neg c1] at q1 ⊢
    by_cases c2 : zr_is tx n 48 0 2 (s.1 + 1) = false
    · rw [if_pos c2] at q1; cases q1
    rw [if_neg c2] at q1 ⊢
    by_cases c3 : zr_tk s.2.2.2.2 (tx (s.1 + 1) - 48) = true
    · rw [if_pos c3] at q1; cases q1
    rw [if_neg c3] at q1 ⊢
    by_cases c4 : zr_is tx n 48 0 2 (s.1 + 2) = false
    · rw [if_pos c4] at q1; cases q1
    rw [if_neg c4] at q1 ⊢
    by_cases c5 : s.2.2.2.2 (3 * (tx (s.1 + 1) - 48) + (tx (s.1 + 2) - 48)) = true
    · rw [if_pos c5] at q1; cases q1
    rw [if_neg c5] at q1 ⊢
    by_cases c6 : zr_is tx n 48 0 2 (s.1 + 3) = false
    · rw [if_pos c6] at q1; cases q1
    rw [if_neg c6]
    show zx_set s.2.2.2.1 (2 + (3 * (tx (s.1 + 1) - 48) + (tx (s.1 + 2) - 48))) _ 0 = 0
    rw [zx_set_ne (by omega)]; exact h0
  rw [if_neg h3] at q1; cases q1
theorem zs_rl123 {I0 K : zz_I} {L : zz_L} {P : Int32 → zz_I → zz_L → Prop} {K10 : zz_I → zz_L → Prop} {n x m : Nat} {t : zr_S} (hM : zr_MS I0 K t) (hb : t.2.1 = false) (hok : zr_ok n t) (hx : x ≤ 7) (hm1 : 1 ≤ m) (hm9 : m ≤ 9) (h1 : ∀ K2 : zz_I, zr_MS I0 K2 (zr_lay t x m) → (zr_lay t x m).2.1 = false → K10 K2 L) (h0 : zr_lay t x m = zr_bad t t.1 → P (0 : Int32) K L) : zp_X8_readLine_123 K10 P (nI x) (nI m) K L := by
  obtain ⟨mf, mk, m3, mO⟩ := id hM
  obtain ⟨lM, pM, m12⟩ := mO hb
  obtain ⟨hl, hpg⟩ := hok.2 hb
  have h24 := hpg.1
  have h8 := hl.1
  have e0 : K 13 0 = nI (t.2.2.2.1 0) := pM.1
  obtain ⟨u, eu⟩ : ∃ u, u = t.2.2.2.1 0 := ⟨_, rfl⟩
  rw [← eu] at e0 h24
  have z0' : (0 : Int32).toNatClampNeg = 0 := by decide
  unfold zp_X8_readLine_123
  rw [z0', e0, nI_add]
  refine ⟨fun z => ?_, fun _ => ⟨pk_in 0 43 (by decide), pk_le (u + m) 24 (fun c => ?_) (fun c => h0 ?_)⟩⟩
  · exact absurd (show (-9 : Int32) < 0 by decide) (by rw [← z]; exact nI_pos (by omega))
  · have el : zr_lay t x m = (t.1 + 1, false, t.2.2.1, zr_pl t.2.2.2.1 x m, t.2.2.2.2) := by
      unfold zr_lay; rw [if_neg (by omega)]
    refine ⟨fun y K2 N => ∃ i : Nat, i ≤ m ∧ y = nI i ∧ L = N ∧ (∀ k j, ¬ (k = 13 ∧ 19 + u ≤ j ∧ j < 19 + u + m) → K2 k j = K k j) ∧ (∀ j, 19 + u ≤ j → j < 19 + u + i → K2 13 j = nI (if x = 7 ∨ j = 19 + u then x else 8)), fun y _ _ => 24 - y.toNatClampNeg, ⟨0, by omega, rfl, rfl, fun _ _ _ => rfl, fun j q1 q2 => absurd q1 (by omega)⟩, ?_⟩
    rintro y K2 N ⟨i, hi, rfl, rfl, kf, kv⟩
    unfold zp_X8_readLine_147b
    have e02 : K2 13 0 = nI u := (kf 13 0 (by omega)).trans e0
    rw [z0', e02, show (19 : Int32) + nI u = nI (19 + u) from nI_add 19 u, nI_add, nI_add]
    refine pk_le m i (fun c1 => ?_) (fun c1 => ⟨pk_in 0 43 (by decide), ?_⟩)
    · have : i = m := by omega
      subst this
      refine ⟨pk_in 0 43 (by decide), pk_in 0 43 (by decide), ?_⟩
      rintro _ rfl
      rw [zu_k (show (0 : Nat) ≠ 13 by omega), kf 0 3 (by omega), m3, show nI t.1 + (1 : Int32) = nI (t.1 + 1) from nI_1 _]
      rintro _ rfl
      have hh := h1 (zz_up (zz_up K2 13 0 (nI (u + i))) 0 3 (nI (t.1 + 1)))
      rw [el] at hh
      refine hh ?_ rfl
      have kk : ∀ k j, ¬ (k = 13 ∧ 19 + u ≤ j ∧ j < 19 + u + i) → ¬ (k = 13 ∧ j = 0) → ¬ (k = 0 ∧ j = 3) → zz_up (zz_up K2 13 0 (nI (u + i))) 0 3 (nI (t.1 + 1)) k j = K k j := fun k j q1 q2 q3 => by rw [zu_k2 q3, zu_k2 q2, kf k j q1]
      have z0 : zr_pl t.2.2.2.1 x i 0 = u + i := by unfold zr_pl; rw [if_pos rfl, eu]
      have zlo : ∀ j, 1 ≤ j → j < 19 + u → zr_pl t.2.2.2.1 x i j = t.2.2.2.1 j := fun j q1 q2 => by unfold zr_pl; rw [if_neg (by omega), if_neg (by omega)]
      have zhi : ∀ j, 19 + u ≤ j → j < 19 + u + i → zr_pl t.2.2.2.1 x i j = if x = 7 ∨ j = 19 + u then x else 8 := fun j q1 q2 => by unfold zr_pl; rw [← eu, if_neg (by omega), if_pos ⟨q1, q2⟩]
      obtain ⟨l1, l2, l3⟩ := lM
      obtain ⟨p1, p2, p3, p4, p5⟩ := pM
      refine ⟨fun k j q1 q2 => ?_, fun j hj => ?_, zu_e, fun _ => ⟨⟨?_, fun j hj => ?_, fun w hw => ?_⟩, ⟨?_, ?_, fun j hj => ?_, fun w hw => ?_, fun v hv => ?_⟩, fun j hj => ?_⟩⟩
      · rw [kk k j (by omega) (by omega) (by omega)]; exact mf k j q1 q2
      · rw [kk 10 j (by omega) (by omega) (by omega)]; exact mk j hj
      · rw [kk 0 11 (by omega) (by omega) (by omega)]; exact l1
      · rw [kk 7 j (by omega) (by omega) (by omega)]; exact l2 j hj
      · obtain ⟨b1, b2, b3, b5⟩ := l3 w hw
        refine ⟨?_, ?_, ?_, fun j hj => ?_⟩
        · rw [kk (7 + 1) w (by omega) (by omega) (by omega)]; exact b1
        · rw [kk (7 + 3) w (by omega) (by omega) (by omega)]; exact b2
        · rw [kk (7 + 4) w (by omega) (by omega) (by omega)]; exact b3
        · rw [kk (7 + 2) _ (by omega) (by omega) (by omega)]; exact b5 j hj
      · show zz_up (zz_up K2 13 0 (nI (u + i))) 0 3 (nI (t.1 + 1)) 13 0 = nI (zr_pl t.2.2.2.1 x i 0)
        rw [z0, zu_k (by omega), zu_e]
      · show zz_up (zz_up K2 13 0 (nI (u + i))) 0 3 (nI (t.1 + 1)) 13 1 = nI (zr_pl t.2.2.2.1 x i 1)
        rw [zlo 1 (by omega) (by omega), kk 13 1 (by omega) (by omega) (by omega)]; exact p2
      · show zz_up (zz_up K2 13 0 (nI (u + i))) 0 3 (nI (t.1 + 1)) 13 (0 + (2 + j)) = nI (zr_pl t.2.2.2.1 x i (2 + j))
        rw [zlo (2 + j) (by omega) (by omega), kk 13 (0 + (2 + j)) (by omega) (by omega) (by omega)]; exact p3 j hj
      · change w < t.2.2.1 0 0 at hw
        show zz_up (zz_up K2 13 0 (nI (u + i))) 0 3 (nI (t.1 + 1)) 13 (0 + (11 + w)) = nI (zr_pl t.2.2.2.1 x i (11 + w))
        rw [zlo (11 + w) (by omega) (by omega), kk 13 (0 + (11 + w)) (by omega) (by omega) (by omega)]; exact p4 w hw
      · change v < zr_pl t.2.2.2.1 x i 0 at hv
        rw [z0] at hv
        show zz_up (zz_up K2 13 0 (nI (u + i))) 0 3 (nI (t.1 + 1)) 13 (0 + (19 + v)) = nI (zr_pl t.2.2.2.1 x i (19 + v))
        by_cases q : v < u
        · rw [zlo (19 + v) (by omega) (by omega), kk 13 (0 + (19 + v)) (by omega) (by omega) (by omega)]; exact p5 v (by omega)
        · rw [zhi (19 + v) (by omega) (by omega), Nat.zero_add, zu_k (by omega), zu_i (by omega), kv (19 + v) (by omega) (by omega)]
      · rw [kk 12 j (by omega) (by omega) (by omega)]; exact m12 j hj
    · have stp : ∀ v : Int32, v = nI (if x = 7 ∨ 19 + u + i = 19 + u then x else 8) → ∀ K3, K3 = zz_up K2 13 (19 + u + i) v → ∀ z, z = nI i + (1 : Int32) → (∃ i2 : Nat, i2 ≤ m ∧ z = nI i2 ∧ L = L ∧ (∀ k j, ¬ (k = 13 ∧ 19 + u ≤ j ∧ j < 19 + u + m) → K3 k j = K k j) ∧ (∀ j, 19 + u ≤ j → j < 19 + u + i2 → K3 13 j = nI (if x = 7 ∨ j = 19 + u then x else 8))) ∧ 24 - z.toNatClampNeg < 24 - (nI i).toNatClampNeg := by
        rintro v ev _ rfl _ rfl
        refine ⟨⟨i + 1, by omega, nI_1 i, rfl, fun k j hk => ?_, fun j q1 q2 => ?_⟩, zz_down (i := i) (n := 24) (by omega) (by omega)⟩
        · rw [zu_k2 (by omega)]; exact kf k j hk
        · by_cases e : j = 19 + u + i
          · rw [e, zu_e]; exact ev
          · rw [zu_i e]; exact kv j q1 (by omega)
      have c177 : (x = 7 ∨ i = 0) → zp_X8_readLine_177 K10 (fun z3 I7 L7 => (∃ i : Nat, i ≤ m ∧ z3 = nI i ∧ L = L7 ∧ (∀ k j, ¬ (k = 13 ∧ 19 + u ≤ j ∧ j < 19 + u + m) → I7 k j = K k j) ∧ (∀ j, 19 + u ≤ j → j < 19 + u + i → I7 13 j = nI (if x = 7 ∨ j = 19 + u then x else 8))) ∧ 24 - z3.toNatClampNeg < 24 - (nI i).toNatClampNeg) P (nI x) (nI m) (nI i) (nI (19 + u + i)) K2 L := by
        intro q
        unfold zp_X8_readLine_177
        rw [zn_cl (n := 19 + u + i) (by omega)]
        refine ⟨vp_in_nI (by omega) (by decide), stp _ ?_⟩
        rw [if_pos (by omega)]
      refine ⟨fun q => c177 (Or.inl (zn_j (j := 7) (by omega) (by decide) q)), fun q => ⟨fun q2 => ?_, fun q2 => c177 (Or.inr (zn_j (j := 0) (by omega) (by decide) q2))⟩⟩
      have hx7 : x ≠ 7 := fun z => q (by rw [z]; rfl)
      have hi0 : i ≠ 0 := fun z => q2 (by rw [z]; rfl)
      rw [zn_cl (n := 19 + u + i) (by omega)]
      refine ⟨vp_in_nI (by omega) (by decide), stp _ ?_⟩
      rw [if_neg (by omega)]; rfl
  · unfold zr_lay; rw [if_pos (by omega)]
theorem zs_rl10 {I0 J : zz_I} {L : zz_L} {P : Int32 → zz_I → zz_L → Prop} {tx : Nat → Nat} {n : Nat} {s e : zr_S} (hT : zr_TM I0 tx n) (hM : zr_MS I0 J s) (hb : s.2.1 = false) (hok : zr_ok n s) (hs : s.1 < n) (he : zr_go (zr_sg tx n) n 110 s = e) (h : ∀ K : zz_I, zr_MS I0 K e → P (zb_i (!e.2.1)) K L) : zp_X8_readLine_10 P J L := by
  obtain ⟨hn, t1, t2⟩ := id hT
  have z0' : (0 : Int32).toNatClampNeg = 0 := by decide
  refine ⟨fun K N => ∃ (t : zr_S) (k : Nat), L = N ∧ zr_MS I0 K t ∧ zr_ok n t ∧ t.2.1 = false ∧ zr_go (zr_sg tx n) n k t = e ∧ n ≤ t.1 + k ∧ (n ≤ t.1 → 0 < t.2.2.2.1 0), fun K _ => 111 - (K 0 3).toNatClampNeg, ⟨s, 110, rfl, hM, hok, hb, he, by omega, fun q => absurd q (by omega)⟩, ?_⟩
  rintro K N ⟨t, k, rfl, hK, htk, htb, hgo, hk, hpos⟩
  obtain ⟨mf, mk, m3, mO⟩ := id hK
  obtain ⟨lM, pM, m12⟩ := mO htb
  obtain ⟨hl, hpg⟩ := htk.2 htb
  have htn := htk.1
  have h24 := hpg.1
  have hTK := zr_mf_T mf hT
  have e0 : K 13 0 = nI (t.2.2.2.1 0) := pM.1
  unfold zp_X8_readLine_10b
  rw [z0', e0, m3, hTK.2.1]
  refine pk_le n t.1 (fun c => ⟨pk_in 0 43 (by decide), ?_⟩) (fun c => ⟨vp_in_nI (by omega) (by decide), ?_⟩)
  · have hp := hpos c
    rw [zr_go_stop (Or.inr c)] at hgo
    subst hgo
    have hh := h K hK
    rw [htb] at hh
    exact pk_le (t.2.2.2.1 0) 0 (fun q => absurd q (by omega)) (fun _ => hh)
  · obtain ⟨h255, e1⟩ := hTK.2.2 t.1 c
    rw [zn_cl (n := t.1) (by omega), e1]
    have hg := zr_sg_gd (tx := tx) c htk htb
    have hbad : zr_sg tx n t = zr_bad t t.1 → P (0 : Int32) K L := by
      intro eb
      have ek : k = (k - 1) + 1 := by omega
      rw [ek, zr_go_step htb c, eb, zr_go_stop (Or.inl rfl)] at hgo
      subst hgo
      exact h K (zr_MS_bad mf mk m3)
    have good : ∀ x m : Nat, x ≤ 7 → 1 ≤ m → m ≤ 9 → zr_sg tx n t = zr_lay t x m → zp_X8_readLine_123 (fun I7 L7 => (∃ (t : zr_S) (k : Nat), L = L7 ∧ zr_MS I0 I7 t ∧ zr_ok n t ∧ t.2.1 = false ∧ zr_go (zr_sg tx n) n k t = e ∧ n ≤ t.1 + k ∧ (n ≤ t.1 → 0 < t.2.2.2.1 0)) ∧ 111 - (I7 0 3).toNatClampNeg < 111 - (K 0 3).toNatClampNeg) P (nI x) (nI m) K L := by
      intro x m hx hm1 hm9 es
      refine zs_rl123 hK htb htk hx hm1 hm9 (fun K2 hK2 hnb => ?_) (fun eb => hbad (by rw [es]; exact eb))
      rw [← es] at hK2 hnb
      have hlt := hg.2 hnb
      have hle := hg.1.1
      refine ⟨⟨zr_sg tx n t, k - 1, rfl, hK2, hg.1, hnb, ?_, by omega, fun _ => ?_⟩, ?_⟩
      · have ek : k = (k - 1) + 1 := by omega
        rw [ek, zr_go_step htb c] at hgo
        exact hgo
      · rw [es] at hnb ⊢
        exact zr_lay_pos hm1 hnb
      · show 111 - (K2 0 3).toNatClampNeg < 111 - (K 0 3).toNatClampNeg
        rw [hK2.2.2.1, m3, zn_cl (by omega), zn_cl (by omega)]; omega
    refine ⟨fun z => ?_, fun z => ?_⟩
    · have h46 : ¬ tx t.1 = 46 := fun y => z (by rw [y]; rfl)
      refine zs_isNext 97 0 5 hTK m3 (by omega) (by omega) (by omega) (by omega) (zb_br (fun q => ?_) (fun q => ?_))
      · refine zs_isNext 48 1 9 hTK m3 (by omega) (by omega) (by omega) (by omega) (zb_br (fun q2 => ?_) (fun q2 => ?_))
        · have eb : zr_sg tx n t = zr_bad t t.1 := by
            unfold zr_sg
            rw [if_neg h46, if_neg (by rw [q]; decide), if_neg (by rw [q2]; decide)]
          refine ⟨fun _ => ⟨fun y => absurd rfl y, fun _ => ⟨fun _ => hbad eb, fun y => absurd rfl y⟩⟩, fun y => absurd y (by decide)⟩
        · have tq := zr_is_t q2
          refine ⟨fun y => absurd rfl y, fun _ => ?_⟩
          rw [m3, zn_cl (n := t.1) (by omega), e1, show nI (tx t.1) - (48 : Int32) = nI (tx t.1 - 48) from pk_sub (b := 48) (by omega)]
          refine ⟨vp_in_nI (by omega) (by decide), good 7 (tx t.1 - 48) (by omega) (by omega) (by omega) ?_⟩
          unfold zr_sg
          rw [if_neg h46, if_neg (by rw [q]; decide), if_pos q2]
      · have tq := zr_is_t q
        rw [show nI (tx t.1) - (97 : Int32) = nI (tx t.1 - 97) from pk_sub (b := 97) (by omega)]
        have hw := hl.2.1 (tx t.1 - 97) (by omega)
        refine ⟨vp_in_nI (by omega) (by decide), fun _ => ⟨fun _ => ?_, fun y => ?_⟩, fun y => ?_⟩
        · rw [zn_cl (n := tx t.1 - 97) (by omega), lM.2.1 _ (by omega)]
          refine ⟨vp_in_nI (by omega) (by decide), good _ _ (by omega) (by omega) (by omega) ?_⟩
          unfold zr_sg
          rw [if_neg h46, if_pos q]
        · exact absurd (show (-9 : Int32) < 0 by decide) (by rw [← y]; exact nI_pos (by omega))
        · have := zn_j (j := 7) (by omega) (by decide) y
          omega
    · have h46 : tx t.1 = 46 := zn_j (j := 46) (by omega) (by decide) z
      refine ⟨fun _ => ⟨fun _ => ?_, fun y => absurd y (by decide)⟩, fun y => absurd y (by decide)⟩
      have z6 : (6 : Int32).toNatClampNeg = 6 := by decide
      rw [z6, lM.2.1 6 (by omega), hl.2.2.1]
      refine ⟨pk_in 6 7 (by decide), good 6 1 (by omega) (by omega) (by omega) ?_⟩
      unfold zr_sg
      rw [if_pos h46]
theorem zr_MS_at {I0 J : zz_I} {s : zr_S} {p : Nat} (hM : zr_MS I0 J s) : zr_MS I0 (zz_up J 0 3 (nI p)) (p, s.2) := by
  obtain ⟨mf, mk, m3, mO⟩ := hM
  refine ⟨zr_mf_up mf (by omega), zr_kd_up mk (by omega), zu_e, fun q => ?_⟩
  obtain ⟨⟨l1, l2, l3⟩, ⟨p1, p2, p3, p4, p5⟩, m12⟩ := mO q
  have kk : ∀ k j, ¬ (k = 0 ∧ j = 3) → zz_up J 0 3 (nI p) k j = J k j := fun k j z => zu_k2 z
  refine ⟨⟨?_, fun j hj => ?_, fun w hw => ?_⟩, ⟨?_, ?_, fun j hj => ?_, fun w hw => ?_, fun u hu => ?_⟩, fun j hj => ?_⟩
  · rw [kk 0 11 (by omega)]; exact l1
  · rw [kk 7 j (by omega)]; exact l2 j hj
  · obtain ⟨b1, b2, b3, b5⟩ := l3 w hw
    refine ⟨?_, ?_, ?_, fun j hj => ?_⟩
    · rw [kk (7 + 1) w (by omega)]; exact b1
    · rw [kk (7 + 3) w (by omega)]; exact b2
    · rw [kk (7 + 4) w (by omega)]; exact b3
    · rw [kk (7 + 2) _ (by omega)]; exact b5 j hj
  · rw [kk 13 0 (by omega)]; exact p1
  · rw [kk 13 (0 + 1) (by omega)]; exact p2
  · rw [kk 13 _ (by omega)]; exact p3 j hj
  · rw [kk 13 _ (by omega)]; exact p4 w hw
  · rw [kk 13 _ (by omega)]; exact p5 u hu
  · rw [kk 12 j (by omega)]; exact m12 j hj
theorem zs_readLine {I0 J : zz_I} {L : zz_L} {P : Int32 → zz_I → zz_L → Prop} {tx : Nat → Nat} {n : Nat} {s : zr_S} (hT : zr_TM I0 tx n) (hM : zr_MS I0 J s) (hb : s.2.1 = false) (hok : zr_ok n s) (hs : s.1 < n) (hnp : zr_np n s) (h : ∀ K : zz_I, zr_MS I0 K (zr_line tx n s) → P (zb_i (!(zr_line tx n s).2.1)) K L) : zp_X8_readLine P J L := by
  obtain ⟨hn, t1, t2⟩ := id hT
  have hMa := zr_MS_at (p := s.1 + 1) hM
  unfold zp_X8_readLine
  rw [hM.2.2.1, show nI s.1 + (1 : Int32) = nI (s.1 + 1) from nI_1 _]
  rintro _ rfl
  by_cases c : n ≤ s.1 + 1
  · have el : zr_line tx n s = zr_bad s (s.1 + 1) := by unfold zr_line; rw [if_pos c]
    refine ⟨fun K N => K = zz_up J 0 3 (nI (s.1 + 1)) ∧ L = N, fun _ _ => 0, ⟨rfl, rfl⟩, ?_⟩
    rintro K N ⟨rfl, rfl⟩
    unfold zp_X8_readLine_10b
    have hTK := zr_mf_T hMa.1 hT
    have z0' : (0 : Int32).toNatClampNeg = 0 := by decide
    have e0 : zz_up J 0 3 (nI (s.1 + 1)) 13 0 = nI 0 := by
      have := (hMa.2.2.2 hb).2.1.1
      rw [this]
      show nI (s.2.2.2.1 0) = nI 0
      rw [hnp hb hs]
    rw [z0', e0, hMa.2.2.1, hTK.2.1]
    refine pk_le n (s.1 + 1) (fun _ => ⟨pk_in 0 43 (by decide), fun _ => ?_, fun y => absurd (by decide) y⟩) (fun q => absurd q (by omega))
    have := h (zz_up J 0 3 (nI (s.1 + 1))) (by rw [el]; exact zr_MS_bad hMa.1 hMa.2.1 hMa.2.2.1)
    rw [el] at this
    exact this
  · exact zs_rl10 (s := (s.1 + 1, s.2)) (e := zr_line tx n s) hT hMa hb ⟨by show s.1 + 1 ≤ n; omega, hok.2⟩ (by show s.1 + 1 < n; omega) (by unfold zr_line; rw [if_neg c]) h
theorem zs_readPart {I0 J : zz_I} {L : zz_L} {P : Int32 → zz_I → zz_L → Prop} {tx : Nat → Nat} {n : Nat} {s : zr_S} (hT : zr_TM I0 tx n) (hM : zr_MS I0 J s) (hb : s.2.1 = false) (hok : zr_ok n s) (hs : s.1 < n) (hnp : zr_np n s) (h : ∀ K : zz_I, zr_MS I0 K (zr_part tx n s) → P (zb_i (!(zr_part tx n s).2.1)) K L) : zp_X8_readPart P J L := by
  obtain ⟨hn, t1, t2⟩ := id hT
  obtain ⟨mf, mk, m3, mO⟩ := id hM
  obtain ⟨h255, e1⟩ := (zr_mf_T mf hT).2.2 s.1 hs
  unfold zp_X8_readPart
  rw [m3, zn_cl (n := s.1) (by omega), e1]
  refine ⟨vp_in_nI (by omega) (by decide), ?_⟩
  rintro _ rfl
  have hz : ∀ k : Nat, k < 256 → (nI (tx s.1) = nI k ↔ tx s.1 = k) := fun k hk => nI_eq (by omega) (by omega)
  refine ⟨fun z => ?_, fun z => ?_, fun z => ?_, fun z1 z2 z3 => ?_⟩
  · have e := (hz 100 (by omega)).mp z
    have ep : zr_part tx n s = zr_word tx n s := by unfold zr_part; rw [if_pos e]
    rw [ep] at h
    exact zs_readWord hT hM hb hok hs (fun K hK => ⟨zb_bool _, h K hK⟩)
  · have e := (hz 108 (by omega)).mp z
    have ep : zr_part tx n s = zr_line tx n s := by unfold zr_part; rw [if_neg (by omega), if_pos e]
    rw [ep] at h
    exact zs_readLine hT hM hb hok hs hnp (fun K hK => ⟨zb_bool _, h K hK⟩)
  · have e := (hz 114 (by omega)).mp z
    have ep : zr_part tx n s = zr_rule tx n s := by unfold zr_part; rw [if_neg (by omega), if_neg (by omega), if_pos e]
    rw [ep] at h
    exact zs_readRule hT hM hb hok hs (fun K hK => ⟨zb_bool _, h K hK⟩)
  · have e1 : ¬ tx s.1 = 100 := fun e => z1 ((hz 100 (by omega)).mpr e)
    have e2 : ¬ tx s.1 = 108 := fun e => z2 ((hz 108 (by omega)).mpr e)
    have e3 : ¬ tx s.1 = 114 := fun e => z3 ((hz 114 (by omega)).mpr e)
    have ep : zr_part tx n s = zr_bad s s.1 := by unfold zr_part; rw [if_neg e1, if_neg e2, if_neg e3]
    rw [ep] at h
    exact h J (zr_MS_bad mf mk m3)
theorem zs_readStone {I : zz_I} {L : zz_L} {P : Int32 → zz_I → zz_L → Prop} {tx : Nat → Nat} {n : Nat} (hT : zr_TM I tx n) (hkd : zr_kd I) (h : ∀ K : zz_I, zr_mf I K → zr_kd K → ((zr_end tx n).2.1 = false → zx_lexM 11 7 K (zr_end tx n).2.2.1 ∧ zx_pgM 13 0 K (zr_end tx n).2.2.1 (zr_end tx n).2.2.2.1) → P (zr_ans (zr_end tx n)) K L) : zp_X8_readStone P I L := by
  obtain ⟨hn, t1, t2⟩ := id hT
  refine zs_begin (fun J1 f1 v1 => ?_)
  rintro _ rfl
  have z0' : (0 : Int32).toNatClampNeg = 0 := by decide
  have hstop : (zr_s0 tx n).2.1 = true → zr_end tx n = zr_s0 tx n := fun q => zr_go_stop (Or.inl q)
  refine ⟨fun y K N => ∃ i : Nat, i ≤ 9 ∧ y = nI i ∧ L = N ∧ (∀ k j, k ≠ 12 → K k j = zz_up J1 0 11 (0 : Int32) k j) ∧ (∀ j, j < i → K 12 j = 0), fun y _ _ => 9 - y.toNatClampNeg, ⟨0, by omega, rfl, rfl, fun _ _ _ => rfl, fun j hj => absurd hj (by omega)⟩, ?_⟩
  rintro y K N ⟨i, hi, rfl, rfl, kf, kv⟩
  unfold zp_X8_readStone_14b
  have mK : zr_mf I K := fun k j q1 q2 => by rw [kf k j (by omega), zu_k2 (by omega), f1 k j (by omega)]
  have dK : zr_kd K := fun j hj => by
    rw [kf 10 j (by omega), zu_k (by omega), f1 10 j (by omega)]; exact hkd j hj
  refine pk_le 9 i (fun c => ?_) (fun c => ⟨vp_in_nI (by omega) (by decide), ?_⟩)
  rotate_left
  · rw [zn_cl (n := i) (by omega), show vp_nar .boolean (0 : Int32) = (0 : Int32) from zx_nar (k := 0) (by decide)]
    rintro _ rfl _ rfl
    refine ⟨⟨i + 1, by omega, nI_1 i, rfl, fun k j hk => ?_, fun j hj => ?_⟩, zz_down (i := i) (n := 9) (by omega) (by omega)⟩
    · rw [zu_k hk]; exact kf k j hk
    · by_cases e : j = i
      · rw [e, zu_e]
      · rw [zu_i e]; exact kv j (by omega)
  have : i = 9 := by omega
  subst this
  have hTK := zr_mf_T mK hT
  have bad0 : (n = 0 ∨ tx 0 ≠ 83) → P (0 : Int32) K L := by
    intro q
    have es : zr_s0 tx n = (0, true, zr_lx0 tx, zr_pg0, fun _ => false) := by unfold zr_s0; rw [if_pos q]
    have ee : zr_end tx n = (0, true, zr_lx0 tx, zr_pg0, fun _ => false) := by
      rw [hstop (by rw [es]), es]
    have hh := h K mK dK
    rw [ee] at hh
    exact hh (fun q => by cases q)
  rw [hTK.2.1, z0']
  refine ⟨fun z => bad0 (Or.inl (zn_j (j := 0) (by omega) (by decide) z)), fun z => ⟨pk_in 0 110 (by decide), fun z2 => ?_, fun z2 => ?_⟩⟩
  rotate_left
  · refine bad0 (Or.inr (fun y => z2 ?_))
    have hn0 : 0 < n := Nat.pos_of_ne_zero (fun q => z (by rw [q]; rfl))
    rw [(hTK.2.2 0 hn0).2, y]; rfl
  have hn0 : 0 < n := Nat.pos_of_ne_zero (fun q => z (by rw [q]; rfl))
  obtain ⟨h255, ek0⟩ := hTK.2.2 0 hn0
  rw [ek0] at z2
  have h83 : tx 0 = 83 := zn_j (j := 83) (by omega) (by decide) z2
  obtain ⟨hc6, hcl⟩ := zr_cn_all (f := zr_is tx n 48 1 3) (K := 6) (p := 1)
  have es : zr_s0 tx n = if zr_cn (zr_is tx n 48 1 3) 6 1 < 6 then (1 + zr_cn (zr_is tx n 48 1 3) 6 1, true, zr_lx0 tx, zr_pg0, fun _ => false) else (7, false, zr_lx0 tx, zr_pg0, fun _ => false) := by
    unfold zr_s0
    rw [if_neg (by omega)]
  rintro _ rfl
  refine ⟨fun y M N => ∃ i : Nat, i ≤ 6 ∧ y = nI i ∧ L = N ∧ zr_mf I M ∧ zr_kd M ∧ M 0 3 = nI (1 + i) ∧ 1 + i ≤ n ∧ (∀ k j, ¬ (k = 7) → ¬ (k = 0 ∧ j = 3) → M k j = K k j) ∧ (∀ j, j < i → M 7 j = nI (tx (1 + j) - 48)) ∧ zr_cn (zr_is tx n 48 1 3) 6 1 = i + zr_cn (zr_is tx n 48 1 3) (6 - i) (1 + i), fun y _ _ => 6 - y.toNatClampNeg, ⟨0, by omega, rfl, rfl, zr_mf_up mK (by omega), zr_kd_up dK (by omega), zu_e, by omega, fun k j q1 q2 => zu_k2 q2, fun j hj => absurd hj (by omega), (Nat.zero_add _).symm⟩, ?_⟩
  rintro y M N ⟨i, hi, rfl, rfl, mM, dM, m3, m1n, mk, mw, mc⟩
  unfold zp_X8_readStone_60b
  have hTM := zr_mf_T mM hT
  refine pk_le 6 i (fun c6 => ⟨pk_in 6 7 (by decide), ?_⟩) (fun c6 => ?_)
  rotate_left
  · refine zs_isNext 48 1 3 hTM m3 m1n (by omega) (by omega) (by omega) (zb_rb (fun q => ?_) (fun q => ?_))
    · have tq := zr_is_t q
      have kt := (hTM.2.2 _ tq.1).2
      rw [m3, zn_cl (n := 1 + i) (by omega), zn_cl (n := i) (by omega), kt, show nI (tx (1 + i)) - (48 : Int32) = nI (tx (1 + i) - 48) from pk_sub (b := 48) (by omega)]
      refine ⟨vp_in_nI (by omega) (by decide), vp_in_nI (by omega) (by decide), ?_⟩
      rintro _ rfl
      rw [zu_k (show (0 : Nat) ≠ 7 by omega), m3, show nI (1 + i) + (1 : Int32) = nI (1 + i + 1) from nI_1 _]
      rintro _ rfl _ rfl
      rw [zr_cn_t (by omega) q] at mc
      refine ⟨⟨i + 1, by omega, nI_1 i, rfl, zr_mf_up (zr_mf_up mM (by omega)) (by omega), zr_kd_up (zr_kd_up dM (by omega)) (by omega), zu_e, by omega, fun k j q1 q2 => ?_, fun j hj => ?_, by omega⟩, zz_down (i := i) (n := 6) (by omega) (by omega)⟩
      · rw [zu_k2 q2, zu_k q1]; exact mk k j q1 q2
      · rw [zu_k (by omega)]
        by_cases e : j = i
        · rw [e, zu_e]
        · rw [zu_i e]; exact mw j (by omega)
    · rw [zr_cn_f (by omega) q] at mc
      have es2 : zr_s0 tx n = (1 + i, true, zr_lx0 tx, zr_pg0, fun _ => false) := by rw [es, if_pos (by omega), mc]; rfl
      have ee : zr_end tx n = (1 + i, true, zr_lx0 tx, zr_pg0, fun _ => false) := by
        rw [hstop (by rw [es2]), es2]
      have hh := h M mM dM
      rw [ee] at hh
      have h3 := hh (fun q => by cases q)
      rw [m3]
      exact h3
  have : i = 6 := by omega
  subst this
  have hc : zr_cn (zr_is tx n 48 1 3) 6 1 = 6 := mc
  have es2 : zr_s0 tx n = (7, false, zr_lx0 tx, zr_pg0, fun _ => false) := by rw [es, if_neg (by omega)]
  have z6 : (6 : Int32).toNatClampNeg = 6 := by decide
  rw [z6]
  rintro _ rfl
  have hS0 : zr_MS I (zz_up M 7 6 (1 : Int32)) (zr_s0 tx n) := by
    rw [es2]
    refine ⟨zr_mf_up mM (by omega), zr_kd_up dM (by omega), ?_, fun _ => ⟨⟨?_, fun j hj => ?_, fun w hw => absurd hw (Nat.not_lt_zero _)⟩, ⟨?_, ?_, fun j hj => ?_, fun w hw => absurd hw (Nat.not_lt_zero _), fun u hu => absurd hu (Nat.not_lt_zero _)⟩, fun j hj => ?_⟩⟩
    · rw [zu_k (by omega)]; exact m3
    · rw [zu_k (by omega), mk 0 11 (by omega) (by omega), kf 0 11 (by omega), zu_e]; rfl
    · show zz_up M 7 6 (1 : Int32) 7 j = nI (if j < 6 then tx (1 + j) - 48 else 1)
      by_cases q : j < 6
      · rw [if_pos q, zu_i (by omega)]; exact mw j q
      · have : j = 6 := by omega
        subst this
        rw [if_neg q, zu_e]; rfl
    · rw [zu_k (by omega), mk 13 0 (by omega) (by omega), kf 13 0 (by omega), zu_k (by omega)]; exact v1 0 (by omega)
    · rw [zu_k (by omega), mk 13 _ (by omega) (by omega), kf 13 _ (by omega), zu_k (by omega)]; exact v1 1 (by omega)
    · rw [zu_k (by omega), mk 13 _ (by omega) (by omega), kf 13 _ (by omega), zu_k (by omega), Nat.zero_add]; exact v1 (2 + j) (by omega)
    · rw [zu_k (by omega), mk 12 j (by omega) (by omega)]; exact kv j (by omega)
  refine ⟨fun M N => ∃ (t : zr_S) (k : Nat), L = N ∧ zr_MS I M t ∧ zr_ok n t ∧ t.2.1 = false ∧ zr_go (zr_part tx n) n k t = zr_end tx n ∧ n ≤ t.1 + k ∧ zr_np n t, fun K _ => 111 - (K 0 3).toNatClampNeg, ⟨zr_s0 tx n, 110, rfl, hS0, zr_s0_ok, by rw [es2], rfl, by rw [es2]; show n ≤ 7 + 110; omega, by rw [es2]; exact fun _ _ => rfl⟩, ?_⟩
  clear hS0 mc mw mk m1n m3 dM mM hTM
  rintro M N ⟨t, k, rfl, hM, htk, htb, hgo, hk, hnp⟩
  unfold zp_X8_readStone_124b
  have hTM := zr_mf_T hM.1 hT
  have htn := htk.1
  rw [hM.2.2.1, hTM.2.1]
  refine pk_le n t.1 (fun c => ?_) (fun c => ?_)
  · rw [zr_go_stop (Or.inr c)] at hgo
    have hh := h M hM.1 hM.2.1
    rw [← hgo] at hh
    have h3 := hh (fun q => ⟨(hM.2.2.2 q).1, (hM.2.2.2 q).2.1⟩)
    unfold zr_ans at h3
    rw [htb] at h3
    exact h3
  · have hg := zr_part_gd (tx := tx) c htk htb
    have ek : k = (k - 1) + 1 := by omega
    rw [ek, zr_go_step htb c] at hgo
    refine zs_readPart hT hM htb htk c hnp (fun K2 hK2 => zb_rb (fun q => ?_) (fun q => ?_))
    · have hnb : (zr_part tx n t).2.1 = false := by
        cases z : (zr_part tx n t).2.1
        · rfl
        · rw [z] at q; cases q
      have hlt := hg.2 hnb
      have hle := hg.1.1
      refine ⟨⟨zr_part tx n t, k - 1, rfl, hK2, hg.1, hnb, hgo, by omega, zr_part_np hn c htk htb hnp⟩, ?_⟩
      show 111 - (K2 0 3).toNatClampNeg < 111 - (M 0 3).toNatClampNeg
      rw [hK2.2.2.1, hM.2.2.1, zn_cl (by omega), zn_cl (by omega)]; omega
    · have hbb : (zr_part tx n t).2.1 = true := by
        cases z : (zr_part tx n t).2.1
        · rw [z] at q; cases q
        · rfl
      rw [zr_go_stop (Or.inl hbb)] at hgo
      have hh := h K2 hK2.1 hK2.2.1
      rw [← hgo] at hh
      have h3 := hh (fun y => by rw [hbb] at y; cases y)
      unfold zr_ans at h3
      rw [if_pos hbb] at h3
      rw [hK2.2.2.1]
      exact h3
