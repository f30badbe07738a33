theorem zx_slot_congr {IC IC2 IM K : zz_I} {lx : Nat → Nat → Nat} {fC jM t o : Nat} (h : zx_slot IC IM lx fC jM t o) (h0 : IC2 0 fC = IC 0 fC) (h1 : IC2 t = IC t) (h2 : IC2 (t + 1) = IC (t + 1)) (h3 : IC2 (t + 2) = IC (t + 2)) (h4 : IC2 (t + 3) = IC (t + 3)) (h5 : K 18 jM = IM 18 jM) (h6 : K 17 = IM 17) : zx_slot IC2 K lx fC jM t o := by
  rcases h with ⟨a, b⟩ | ⟨a, b, pg, hp, hC, hM⟩
  · exact Or.inl ⟨h0.trans a, h5.trans b⟩
  · refine Or.inr ⟨h0.trans a, h5.trans b, pg, hp, ?_, ?_⟩
    · unfold zx_pgC; rw [h1, h2, h3, h4]; exact hC
    · unfold zx_pgM; rw [h6]; exact hM
theorem zx_R_mk {IC IC2 IM K : zz_I} {LC LM : zz_L} {lx : Nat → Nat → Nat} {pg2 : Nat → Nat} (hl : zx_lexOK lx) (hp2 : zx_pgOK lx pg2) (lC : zx_lexC 14 IC lx) (lM : zx_lexM 5 2 IM lx) (pC2 : zx_pgC 21 IC2 lx pg2) (pM2 : zx_pgM 14 0 K lx pg2) (hh2 : ∃ (d nx : Nat) (pgs : Nat → Nat → Nat), zx_hist IC2 K lx pg2 d nx pgs) (h1 : zx_slot IC IM lx 10 0 48 0) (h2 : zx_slot IC IM lx 11 1 52 43) (ht : ∃ (n : Nat) (tx : Nat → Nat), zx_text IC IM n tx) (hs : ∃ (n : Nat) (sw su si : Nat → Nat), zx_seen IC IM n sw su si) (hz : zx_misc IC LC IM LM)
    (hfC : ∀ k j, (k < 21 ∨ (24 < k ∧ k < 29) ∨ 32 < k) → IC2 k j = IC k j) (hfM : ∀ k j, k ≠ 14 → k ≠ 16 → ¬ (k = 0 ∧ (j = 21 ∨ j = 0)) → K k j = IM k j) : zx_R IC2 LC K LM := by
  have c : ∀ k, (k < 21 ∨ (24 < k ∧ k < 29) ∨ 32 < k) → IC2 k = IC k := fun k hk => funext fun j => hfC k j hk
  have m : ∀ k, k ≠ 14 → k ≠ 16 → k ≠ 0 → K k = IM k := fun k h1 h2 h3 => funext fun j => hfM k j h1 h2 (fun q => h3 q.1)
  refine ⟨lx, pg2, ⟨hl, hp2, ?_, ?_, pC2, pM2⟩, hh2, zx_slot_congr h1 (hfC 0 10 (by omega)) (c 48 (by omega)) (c 49 (by omega)) (c 50 (by omega)) (c 51 (by omega)) (hfM 18 0 (by omega) (by omega) (by omega)) (m 17 (by omega) (by omega) (by omega)), zx_slot_congr h2 (hfC 0 11 (by omega)) (c 52 (by omega)) (c 53 (by omega)) (c 54 (by omega)) (c 55 (by omega)) (hfM 18 1 (by omega) (by omega) (by omega)) (m 17 (by omega) (by omega) (by omega)), ?_, ?_, ?_⟩
  · unfold zx_lexC; rw [c 14 (by omega), c (14 + 1) (by omega), c (14 + 2) (by omega), c (14 + 3) (by omega), c (14 + 4) (by omega), c (14 + 5) (by omega), c (14 + 6) (by omega)]; exact lC
  · unfold zx_lexM; rw [hfM 0 5 (by omega) (by omega) (by omega), m 2 (by omega) (by omega) (by omega), m (2 + 1) (by omega) (by omega) (by omega), m (2 + 2) (by omega) (by omega) (by omega), m (2 + 3) (by omega) (by omega) (by omega), m (2 + 4) (by omega) (by omega) (by omega)]; exact lM
  · obtain ⟨n, tx, t⟩ := ht
    refine ⟨n, tx, ?_⟩
    unfold zx_text; rw [hfC 1 1 (by omega), c 2 (by omega), hfM 0 2 (by omega) (by omega) (by omega), m 1 (by omega) (by omega) (by omega)]; exact t
  · obtain ⟨n, sw, su, si, t⟩ := hs
    refine ⟨n, sw, su, si, ?_⟩
    unfold zx_seen; rw [hfC 33 3 (by omega), c 34 (by omega), c 35 (by omega), c 36 (by omega), hfM 0 24 (by omega) (by omega) (by omega), m 19 (by omega) (by omega) (by omega), m 20 (by omega) (by omega) (by omega), m 21 (by omega) (by omega) (by omega)]; exact t
  · unfold zx_misc; rw [hfC 4 6 (by omega), hfC 45 0 (by omega), m 5 (by omega) (by omega) (by omega), m 10 (by omega) (by omega) (by omega)]; exact hz
/-- behind an act: the class's tablet changed (IC1) and the act recorded; the reference noted (J) and its page changed (K) -/
theorem zx_R_act {IC IC1 IM J K : zz_I} {LC LM : zz_L} {lx : Nat → Nat → Nat} {pg pg2 : Nat → Nat} {d nx : Nat} {pgs : Nat → Nat → Nat} {e p v : Nat} (hm : zx_main IC IM lx pg) (hh : zx_hist IC IM lx pg d nx pgs) (h1 : zx_slot IC IM lx 10 0 48 0) (h2 : zx_slot IC IM lx 11 1 52 43) (ht : ∃ (n : Nat) (tx : Nat → Nat), zx_text IC IM n tx) (hs : ∃ (n : Nat) (sw su si : Nat → Nat), zx_seen IC IM n sw su si) (hz : zx_misc IC LC IM LM)
    (hp2 : zx_pgOK lx pg2) (h0 : pg2 0 = pg 0) (ha : zx_actOK lx (pg 0) e p v) (hi : pg = zx_inv lx e p v pg2) (hC : ∀ k j, (k < 21 ∨ 24 < k) → IC1 k j = IC k j) (pC2 : zx_pgC 21 IC1 lx pg2) (hJ : zx_noted (zz_up IM 0 0 0) J d) (hK : ∀ k j, k ≠ 14 → K k j = J k j) (pM2 : zx_pgM 14 0 K lx pg2) : zx_R (zx_rec IC1 e p v d nx) LC K LM := by
  obtain ⟨hl, hp, lC, lM, pC, pM⟩ := hm
  have c : ∀ k, (k < 21 ∨ 24 < k) → IC1 k = IC k := fun k hk => funext fun j => hC k j hk
  have hJ' := hJ
  obtain ⟨hf, -⟩ := hJ'
  refine zx_R_mk (IC := IC) (IM := IM) hl hp2 lC lM ?_ pM2 ?_ h1 h2 ht hs hz (fun k j hk => ?_) (fun k j h14 h16 hkj => ?_)
  · exact pC2
  · exact zx_hist_act (IC := IC) (IM := zz_up IM 0 0 0) (J := J) hh hp pM (c 30 (by omega)) (c 31 (by omega)) (c 32 (by omega)) hJ (funext fun j => hK 16 j (by omega)) (hK 0 21 (by omega)) h0 ha hi hl.1
  · have h3 : zx_rec IC1 e p v d nx k j = IC1 k j := by
      have q1 : ¬ (k = 29) := by omega
      have q2 : ¬ (k = 30) := by omega
      have q3 : ¬ (k = 31) := by omega
      have q4 : ¬ (k = 32) := by omega
      simp [zx_rec, zz_up, q1, q2, q3, q4]
    rw [h3]; exact hC k j (by omega)
  · rw [hK k j h14, hf k j h16 (by omega)]
    have : ¬ (k = 0 ∧ j = 0) := by omega
    simp only [zz_up, this, if_false]
theorem zx_two_pow {w : Nat} (h : w < 8) : (1 : Int32) <<< (nI w &&& 31) = nI (2 ^ w) := by
  match w, h with
  | 0, _ => decide
  | 1, _ => decide
  | 2, _ => decide
  | 3, _ => decide
  | 4, _ => decide
  | 5, _ => decide
  | 6, _ => decide
  | 7, _ => decide
  | w + 8, h => exact absurd h (by omega)
theorem zx_xor {a b : Nat} (ha : a < 256) (hb : b < 256) : nI a ^^^ nI b = nI (a ^^^ b) := by
  apply Int32.toBitVec_inj.mp
  show BitVec.ofNat 32 a ^^^ BitVec.ofNat 32 b = BitVec.ofNat 32 (a ^^^ b)
  apply BitVec.eq_of_toNat_eq
  rw [BitVec.toNat_xor, BitVec.toNat_ofNat, BitVec.toNat_ofNat, BitVec.toNat_ofNat, Nat.mod_eq_of_lt (by omega), Nat.mod_eq_of_lt (by omega), Nat.mod_eq_of_lt]
  exact Nat.lt_of_lt_of_le (Nat.xor_lt_two_pow (n := 8) ha hb) (by decide)
theorem zx_shr {a w : Nat} (ha : a < 2 ^ 31) (h : w < 8) : nI a >>> (nI w &&& 31) = nI (a / 2 ^ w) := by
  refine pk_shrN ha _ w ?_
  match w, h with
  | 0, _ => decide
  | 1, _ => decide
  | 2, _ => decide
  | 3, _ => decide
  | 4, _ => decide
  | 5, _ => decide
  | 6, _ => decide
  | 7, _ => decide
  | w + 8, h => exact absurd h (by omega)
theorem zx_and1 {a : Nat} (ha : a < 2 ^ 31) : nI a &&& (1 : Int32) = nI (a % 2) := pk_andN (by omega) 1 (by decide)
theorem zx_bit {a w : Nat} (ha : a < 2 ^ 31) (h : w < 8) : (nI a >>> (nI w &&& 31)) &&& (1 : Int32) = nI (a / 2 ^ w % 2) := by
  rw [zx_shr ha h, zx_and1 (Nat.lt_of_le_of_lt (Nat.div_le_self _ _) ha)]
theorem zx_pow_lt {w : Nat} (h : w < 8) : 2 ^ w < 256 := by
  match w, h with
  | 0, _ => decide
  | 1, _ => decide
  | 2, _ => decide
  | 3, _ => decide
  | 4, _ => decide
  | 5, _ => decide
  | 6, _ => decide
  | 7, _ => decide
  | w + 8, h => exact absurd h (by omega)
theorem zx_xor_lt {a b : Nat} (ha : a < 256) (hb : b < 256) : a ^^^ b < 256 := Nat.xor_lt_two_pow (n := 8) ha hb
/-- pages that differ at one number below the signs -/
theorem zx_set_OK {lx : Nat → Nat → Nat} {pg : Nat → Nat} {k v : Nat} (hp : zx_pgOK lx pg) (hk : (k = 1 ∧ v < 256) ∨ (2 ≤ k ∧ k < 11 ∧ v ≤ 2) ∨ (11 ≤ k ∧ k < 19 ∧ 1 ≤ v ∧ v ≤ 9)) : zx_pgOK lx (zx_set pg k v) ∧ zx_set pg k v 0 = pg 0 := by
  obtain ⟨a, b, c, d, e, f⟩ := hp
  have h0 : zx_set pg k v 0 = pg 0 := by unfold zx_set; rw [if_neg (by omega)]
  have hs : ∀ u, zx_set pg k v (19 + u) = pg (19 + u) := fun u => by unfold zx_set; rw [if_neg (by omega)]
  refine ⟨⟨by rw [h0]; exact a, ?_, fun j hj => ?_, fun w hw => ?_, fun u hu => ?_, fun u hu h7 => ?_⟩, h0⟩
  · unfold zx_set; split <;> omega
  · have := c j hj
    unfold zx_set; split <;> omega
  · have := d w hw
    unfold zx_set; split <;> omega
  · rw [hs]; rw [h0] at hu; exact e u hu
  · rw [hs] at h7 ⊢
    rw [h0] at hu ⊢
    obtain ⟨g1, g2⟩ := f u hu h7
    exact ⟨g1, fun i h1 h2 => by rw [hs]; exact g2 i h1 h2⟩
theorem zx_set_ne {pg : Nat → Nat} {k v j : Nat} (h : j ≠ k) : zx_set pg k v j = pg j := if_neg h
theorem zx_set_at {pg : Nat → Nat} {k v : Nat} : zx_set pg k v k = v := if_pos rfl
theorem zx_set_back {pg : Nat → Nat} {k v : Nat} : zx_set (zx_set pg k v) k (pg k) = pg := by
  funext j
  unfold zx_set
  by_cases h : j = k
  · rw [if_pos h, h]
  · rw [if_neg h, if_neg h]
theorem zx_set_M {I : zz_I} {lx : Nat → Nat → Nat} {pg : Nat → Nat} {k v : Nat} (h : zx_pgM 14 0 I lx pg) (hk : 1 ≤ k) (hv : v < 2 ^ 31) : zx_pgM 14 0 (zz_up I 14 k (nI v)) lx (zx_set pg k v) := by
  obtain ⟨a, b, c, d, e⟩ := h
  have key : ∀ q, I 14 (0 + q) = nI (pg q) → (zz_up I 14 k (nI v)) 14 (0 + q) = nI (zx_set pg k v q) := by
    intro q hq
    rw [Nat.zero_add] at hq ⊢
    by_cases h : q = k
    · simp [zz_up, zx_set, h]
    · simp [zz_up, zx_set, h, hq]
  have h0 : zx_set pg k v 0 = pg 0 := by unfold zx_set; rw [if_neg (by omega)]
  refine ⟨key 0 a, key 1 b, fun j hj => key _ (c j hj), fun w hw => key _ (d w hw), fun u hu => ?_⟩
  rw [h0] at hu
  exact key _ (e u hu)
theorem zo_9_ok : zo_9 zx_R := by
  intro IC LC IM LM p0 hR
  have hR0 := zx_R0 hR
  obtain ⟨lx, pg, hm, ⟨d, nx, pgs, hh⟩, h1, h2, ht, hs, hz⟩ := hR
  have hm' := hm
  obtain ⟨hl, hp, lC, lM, pC, pM⟩ := hm'
  have hw8 := hl.1
  have hba := hp.2.1
  have hh' := hh
  obtain ⟨hd, hnx, e3, e4, e21, epg, -⟩ := hh'
  unfold zp_X7_bar zp_X6_flipWord
  refine zs_X2_hasWord (n := lx 0 0) (by omega) lC.1 (fun c => ?_) (fun w hw e => ?_)
  · refine ⟨fun q => absurd rfl q, fun _ => ⟨fun _ => ?_, fun q => absurd (by decide) q⟩⟩
    intro I2 e2
    subst e2
    exact zs_X8_noWord (n := lx 0 0) (by omega) lM.1 (fun _ => ⟨fun q => absurd q (by decide), fun _ => ⟨rfl, hR0⟩⟩) (fun j hj e => (zn_out (by omega) c hj e).elim)
  · subst e
    refine ⟨fun _ => ?_, fun q => absurd q (by decide)⟩
    intro I19 eI
    have eb : IC 21 4 = nI (pg 1) := pC.2.1
    have hp2 := zx_pow_lt (w := w) (by omega)
    have hx := zx_xor_lt hba hp2
    rw [eb, zx_two_pow (by omega), zx_xor hba hp2] at eI
    subst eI
    have ev : zz_up IC 21 4 (nI (pg 1 ^^^ 2 ^ w)) 21 4 = nI (pg 1 ^^^ 2 ^ w) := rfl
    rw [ev, zx_bit (by omega) (by omega)]
    refine ⟨fun q => absurd q (nI_pos (by omega)), fun _ => ?_⟩
    refine zs_record (e := 2) (p := w) (v := 0) hd hnx e3 e4 rfl rfl rfl ?_
    intro I2 e2
    subst e2
    refine zs_X8_noWord (n := lx 0 0) (by omega) lM.1 (fun c => (zn_out (by omega) c hw rfl).elim) (fun j hj e => ?_)
    refine ⟨fun _ => ?_, fun q => absurd rfl q⟩
    refine zs_note (d := d) hd e21 (fun J hJ => ?_)
    refine ⟨pk_in 1 43 (by decide), pk_in 1 43 (by decide), ?_⟩
    have eJ : ∀ q, J 14 q = IM 14 q := fun q => (hJ.1 14 q (by decide) (by omega)).trans rfl
    have ej1 : J 14 (1 : Int32).toNatClampNeg = nI (pg 1) := (eJ 1).trans pM.2.1
    intro I30 eI30
    rw [ej1, zx_two_pow (by omega), zx_xor hba hp2] at eI30
    subst eI30
    have ev2 : zz_up J 14 (1 : Int32).toNatClampNeg (nI (pg 1 ^^^ 2 ^ w)) 14 (1 : Int32).toNatClampNeg = nI (pg 1 ^^^ 2 ^ w) := rfl
    refine ⟨pk_in 1 43 (by decide), ?_⟩
    rw [ev2, zx_bit (by omega) (by omega)]
    refine ⟨rfl, ?_⟩
    obtain ⟨ok2, h0⟩ := zx_set_OK (k := 1) (v := pg 1 ^^^ 2 ^ w) hp (Or.inl ⟨rfl, hx⟩)
    have pMJ : zx_pgM 14 0 J lx pg := by
      have : J 14 = IM 14 := funext eJ
      unfold zx_pgM; rw [this]; exact pM
    refine zx_R_act (pg2 := zx_set pg 1 (pg 1 ^^^ 2 ^ w)) (J := J) hm hh h1 h2 ht hs hz ok2 h0 (Or.inr (Or.inr (Or.inl ⟨rfl, hw, rfl⟩))) ?_ (fun k j hk => ?_) ?_ hJ (fun k j hk => ?_) (zx_set_M pMJ (by decide) (by omega))
    · show pg = zx_set (zx_set pg 1 (pg 1 ^^^ 2 ^ w)) 1 ((zx_set pg 1 (pg 1 ^^^ 2 ^ w)) 1 ^^^ 2 ^ w)
      have : (zx_set pg 1 (pg 1 ^^^ 2 ^ w)) 1 ^^^ 2 ^ w = pg 1 := by
        show (pg 1 ^^^ 2 ^ w) ^^^ 2 ^ w = pg 1
        rw [Nat.xor_assoc, Nat.xor_self, Nat.xor_zero]
      rw [this]; exact zx_set_back.symm
    · have : ¬ (k = 21) := by omega
      simp [zz_up, this]
    · obtain ⟨a, b, c, d', e'⟩ := pC
      exact ⟨a, rfl, fun j hj => by rw [zx_set_ne (by omega)]; exact c j hj, fun j hj => by rw [zx_set_ne (by omega)]; exact d' j hj, fun j hj => by rw [zx_set_ne (by omega)]; exact e' j hj⟩
    · simp [zz_up, hk]
theorem zx_noted_pgM {IM J : zz_I} {d : Nat} {lx : Nat → Nat → Nat} {pg : Nat → Nat} (hJ : zx_noted (zz_up IM 0 0 0) J d) (pM : zx_pgM 14 0 IM lx pg) : zx_pgM 14 0 J lx pg := by
  have : J 14 = IM 14 := funext fun q => (hJ.1 14 q (by decide) (by omega)).trans rfl
  unfold zx_pgM; rw [this]; exact pM
theorem zx_pgM_at {I : zz_I} {lx : Nat → Nat → Nat} {pg : Nat → Nat} (pM : zx_pgM 14 0 I lx pg) : (∀ j, j < 9 → I 14 (2 + j) = nI (pg (2 + j))) ∧ (∀ w, w < lx 0 0 → I 14 (11 + w) = nI (pg (11 + w))) ∧ ∀ u, u < pg 0 → I 14 (19 + u) = nI (pg (19 + u)) := by
  obtain ⟨a, b, c, d, e⟩ := pM
  exact ⟨fun j hj => by have := c j hj; rwa [Nat.zero_add] at this, fun j hj => by have := d j hj; rwa [Nat.zero_add] at this, fun j hj => by have := e j hj; rwa [Nat.zero_add] at this⟩
theorem zo_11_ok : zo_11 zx_R := by
  intro IC LC IM LM p0 p1 hR
  have hR0 := zx_R0 hR
  obtain ⟨lx, pg, hm, ⟨d, nx, pgs, hh⟩, h1, h2, ht, hs, hz⟩ := hR
  have hm' := hm
  obtain ⟨hl, hp, lC, lM, pC, pM⟩ := hm'
  have hw8 := hl.1
  have hh' := hh
  obtain ⟨hd, hnx, e3, e4, e21, epg, -⟩ := hh'
  unfold zp_X7_weigh
  refine zs_X2_hasWord (n := lx 0 0) (by omega) lC.1 (fun c => ?_) (fun w hw e => ?_)
  · refine ⟨fun q => absurd rfl q, fun _ => ?_⟩
    intro I2 e2
    subst e2
    exact zs_X8_noWord (n := lx 0 0) (by omega) lM.1 (fun _ => ⟨fun q => absurd q (by decide), fun _ => ⟨rfl, hR0⟩⟩) (fun j hj e => (zn_out (by omega) c hj e).elim)
  · subst e
    have hwv := hp.2.2.2.1 w hw
    have key : ∀ (r : Int32) (IC2 : zz_I), ((p1 < 1 ∨ (9 : Int32) < p1) → r = -2 ∧ zx_R IC2 LC (zz_up IM 0 0 0) LM) → (∀ v, 1 ≤ v → v ≤ 9 → p1 = nI v → ∀ J, zx_noted (zz_up IM 0 0 0) J d → r = nI (pg (11 + w)) ∧ zx_R IC2 LC (zz_up J 14 (11 + w) (nI v)) LM) → zp_X8_weigh (nI w) p1 (fun r2 IM2 LM2 => r = r2 ∧ zx_R IC2 LC IM2 LM2) IM LM := by
      intro r IC2 hbad hgood I2 e2
      subst e2
      refine zs_X8_noWord (n := lx 0 0) (by omega) lM.1 (fun c => (zn_out (by omega) c hw rfl).elim) (fun j hj e => ⟨fun _ => ?_, fun q => absurd rfl q⟩)
      have e1 : (1 : Int64) = (1 : Int32).toInt64 := by decide
      have e9 : (9 : Int64) = (9 : Int32).toInt64 := by decide
      rw [e1, e9]
      refine zs_X8_in (fun c => ⟨fun q => absurd rfl q, fun _ => hbad c⟩) (fun c1 c2 => ⟨fun _ => ?_, fun q => absurd q (by decide)⟩)
      rcases zn_ix p1 (n := 10) (by decide) with (h | h) | ⟨v, hv, ev⟩
      · exact absurd (Int32.lt_trans h (by decide)) c1
      · exact absurd (Int32.lt_of_lt_of_le (by decide) h) c2
      · subst ev
        have hv1 : 1 ≤ v := by
          rcases Nat.eq_zero_or_pos v with q | q
          · subst q; exact absurd (by decide) c1
          · exact q
        refine zs_note (d := d) hd e21 (fun J hJ => ?_)
        have pJ := (zx_pgM_at (zx_noted_pgM hJ pM)).2.1 w hw
        rw [show (11 : Int32) + nI w = nI (11 + w) from nI_add 11 w, zn_cl (by omega)]
        refine ⟨vp_in_nI (by omega) (by decide), ?_⟩
        rintro v43 rfl
        refine ⟨vp_in_nI (by omega) (by decide), ?_⟩
        rintro I53 rfl
        rw [pJ]
        exact hgood v hv1 (by omega) rfl J hJ
    refine ⟨fun _ => ⟨fun c => ?_, fun c => ⟨fun c2 => ?_, fun c2 => ?_⟩⟩, fun q => absurd q (by decide)⟩
    · refine key _ _ (fun _ => ⟨rfl, hR0⟩) (fun v h1 h9 ev J hJ => ?_)
      subst ev
      exact absurd c (nI_nlt (b := 1) h1 (by omega))
    · rcases zn_ix p1 (n := 10) (by decide) with (h | h) | ⟨v, hv, ev⟩
      · exact absurd (Int32.lt_trans h (by decide)) c
      · exact absurd (Int32.le_trans h c2) (by decide)
      · subst ev
        have hv1 : 1 ≤ v := by
          rcases Nat.eq_zero_or_pos v with q | q
          · subst q; exact absurd (by decide) c
          · exact q
        rw [zn_cl (by omega)]
        refine ⟨vp_in_nI (by omega) (by decide), ?_⟩
        rintro v36 rfl
        refine ⟨vp_in_nI (by omega) (by decide), ?_⟩
        rintro I46 rfl
        have ew : IC 24 w = nI (pg (11 + w)) := pC.2.2.2.1 w hw
        refine zs_record (e := 4) (p := w) (v := pg (11 + w)) hd hnx e3 e4 rfl rfl ew ?_
        refine key _ _ (fun q => ?_) (fun v2 h21 h29 ev J hJ => ?_)
        · rcases q with q | q
          · exact absurd q c
          · exact absurd q (Int32.not_lt.mpr c2)
        · have : v = v2 := zn_j (by omega) (by omega) ev
          subst this
          refine ⟨ew, ?_⟩
          obtain ⟨ok2, h0⟩ := zx_set_OK (k := 11 + w) (v := v) hp (Or.inr (Or.inr ⟨by omega, by omega, hv1, by omega⟩))
          refine zx_R_act (pg2 := zx_set pg (11 + w) v) (J := J) hm hh h1 h2 ht hs hz ok2 h0 (Or.inr (Or.inr (Or.inr (Or.inr ⟨rfl, hw, hwv.1, hwv.2⟩)))) ?_ (fun k j hk => ?_) ?_ hJ (fun k j hk => ?_) (zx_set_M (zx_noted_pgM hJ pM) (by omega) (by omega))
          · show pg = zx_set (zx_set pg (11 + w) v) (11 + w) (pg (11 + w))
            exact zx_set_back.symm
          · have : ¬ (k = 24) := by omega
            simp [zz_up, this]
          · obtain ⟨a, b, c, d', e'⟩ := pC
            refine ⟨by rw [h0]; exact a, ?_, fun j hj => ?_, fun j hj => ?_, fun j hj => ?_⟩
            · rw [zx_set_ne (by omega)]; exact b
            · rw [zx_set_ne (by omega)]; exact c j hj
            · by_cases q : j = w
              · subst q; rw [zx_set_at]; simp [zz_up]
              · rw [zx_set_ne (by omega)]
                have := d' j hj
                simp only [zz_up]; rw [if_neg (by omega)]; exact this
            · rw [zx_set_ne (by omega)]; exact e' j (by rw [h0] at hj; exact hj)
          · simp [zz_up, hk]
    · refine key _ _ (fun _ => ⟨rfl, hR0⟩) (fun v h1 h9 ev J hJ => ?_)
      subst ev
      exact absurd (nI_le (b := 9) h9 (by decide)) c2
