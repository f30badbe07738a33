/-! the reference finds a reading -/
theorem zx_os_le {lx : Nat → Nat → Nat} {pg : Nat → Nat} {b : Bool} {n : Nat} {sw su si : Nat → Nat} (hl : zx_lexOK lx) (hp : zx_pgOK lx pg) : ∀ u w, w < lx 0 0 → zx_os lx pg b n sw su si u w = true → u + zx_sp lx w ≤ pg 0 := fun u w hw h => by
  unfold zx_os at h
  rw [Bool.and_eq_true] at h
  exact zx_fit_le hl hp hw h.1
theorem zx_os_0 {lx : Nat → Nat → Nat} {pg : Nat → Nat} {n : Nat} {sw su si : Nat → Nat} : zx_os lx pg false n sw su si = zx_fit lx pg := by
  funext u w
  unfold zx_os
  rw [Bool.not_false, Bool.true_or, Bool.and_true]
/-- the table of the reference stands -/
def zx_tb (L : zz_L) (lx : Nat → Nat → Nat) (pg : Nat → Nat) (op g : Nat → Nat → Bool) : Prop := ∀ x a t, x ≤ pg 0 → a ≤ 8 → t < 73 → L 22 (657 * x + 73 * a + t) = lN (zk_HV (pg 0) (lx 0 0) (zx_sp lx) (fun w => pg (11 + w)) op (zx_fo lx pg) g x a t)
section
variable {I : zz_I} {L : zz_L} {lx : Nat → Nat → Nat} {pg : Nat → Nat} {n : Nat} {sw su si : Nat → Nat} {b : Bool}
theorem zs_findM {P : zz_I → zz_L → Prop} {t r : Nat} (hl : zx_lexOK lx) (hp : zx_pgOK lx pg) (hm : zx_mm I lx pg n sw su si) (ht : t ≤ 72) (hr : r < 2 ^ 62) (hF : zx_tb L lx pg (zx_os lx pg b n sw su si) (zx_g I 14 lx pg)) (h0 : r < zk_HV (pg 0) (lx 0 0) (zx_sp lx) (fun w => pg (11 + w)) (zx_os lx pg b n sw su si) (zx_fo lx pg) (zx_g I 14 lx pg) 0 8 t) (h : ∀ (J : zz_I) (m : Nat), (∀ k j, k ≠ 25 → ¬ (k = 0 ∧ (j = 33 ∨ j = 34)) → J k j = I k j) → zk_fin (pg 0) (lx 0 0) (zx_sp lx) (fun w => pg (11 + w)) (zx_os lx pg b n sw su si) (zx_fo lx pg) (zx_g I 14 lx pg) t r m → m ≤ 8 → J 0 34 = nI t → J 0 33 = nI m → (∀ j, j < m → J 25 j = nI (zk_wd (pg 0) (lx 0 0) (zx_sp lx) (fun w => pg (11 + w)) (zx_os lx pg b n sw su si) (zx_fo lx pg) (zx_g I 14 lx pg) t r j)) → P J L) : zp_X8_find 14 (nI t) (lN r) (zb_i b) P I L := by
  have h8 := hl.1
  have h24 := hp.1
  have hsp : ∀ w, w < lx 0 0 → 2 ≤ zx_sp lx w := fun w hw => (zx_sp_bd hl hw).1
  have hin := zx_os_le (b := b) (n := n) (sw := sw) (su := su) (si := si) hl hp
  obtain ⟨g, eg⟩ : ∃ g, g = zx_g I 14 lx pg := ⟨_, rfl⟩
  have hg : ∀ a w, a < lx 0 0 → g a w = zx_fo lx pg a w := fun a w ha => by rw [eg]; exact zx_gw h8 ha
  have hg8 : ∀ w, g 8 w = true := fun w => by rw [eg]; exact zx_g8
  rw [← eg] at hF h0 h
  obtain ⟨op, eop⟩ : ∃ op, op = zx_os lx pg b n sw su si := ⟨_, rfl⟩
  rw [← eop] at hF h0 h hin
  obtain ⟨AT, eAT⟩ : ∃ AT, AT = zk_at (pg 0) (lx 0 0) (zx_sp lx) (fun w => pg (11 + w)) op (zx_fo lx pg) g t r := ⟨_, rfl⟩
  obtain ⟨WD, eWD⟩ : ∃ WD, WD = zk_wd (pg 0) (lx 0 0) (zx_sp lx) (fun w => pg (11 + w)) op (zx_fo lx pg) g t r := ⟨_, rfl⟩
  have a1 : ∀ i, (AT (i + 1)).1 = (AT i).1 + zx_sp lx (WD i) + 1 := fun i => by rw [eAT, eWD]; rfl
  have a2 : ∀ i, (AT (i + 1)).2.1 = WD i := fun i => by rw [eAT, eWD]; rfl
  have a3 : ∀ i, (AT (i + 1)).2.2.1 = (AT i).2.2.1 - pg (11 + WD i) := fun i => by rw [eAT, eWD]; rfl
  have a4 : ∀ i, (AT (i + 1)).2.2.2 = (AT i).2.2.2 - zt_sum (WD i) (zk_Q (pg 0) (lx 0 0) (zx_sp lx) (fun w => pg (11 + w)) op (zx_fo lx pg) g (AT i)) := fun i => by rw [eAT, eWD]; rfl
  have wok : ∀ i, (AT i).1 < pg 0 → WD i < lx 0 0 ∧ op (AT i).1 (WD i) = true ∧ g (AT i).2.1 (WD i) = true ∧ zt_sum (WD i) (zk_Q (pg 0) (lx 0 0) (zx_sp lx) (fun w => pg (11 + w)) op (zx_fo lx pg) g (AT i)) ≤ (AT i).2.2.2 ∧ (AT i).2.2.2 < zt_sum (WD i + 1) (zk_Q (pg 0) (lx 0 0) (zx_sp lx) (fun w => pg (11 + w)) op (zx_fo lx pg) g (AT i)) ∧ 0 < zk_T (pg 0) (lx 0 0) (zx_sp lx) (fun w => pg (11 + w)) op (zx_fo lx pg) (AT i).1 (WD i) (AT i).2.2.1 := fun i hi => by
    rw [eAT] at hi; rw [eAT, eWD]; exact zk_wd_ok hin hg h0 hi
  have a8 : ∀ i, (AT i).1 < pg 0 → 3 * i ≤ (AT i).1 := fun i hi => by rw [eAT] at hi ⊢; exact zk_at_8 hsp hin hg h0 i hi
  have ale : ∀ i, (AT i).2.2.1 ≤ t ∧ (AT i).2.2.2 ≤ r := fun i => by rw [eAT]; exact zk_at_le i
  have a0 : AT 0 = (0, 8, t, r) := by rw [eAT]; rfl
  have efin : ∀ m, zk_fin (pg 0) (lx 0 0) (zx_sp lx) (fun w => pg (11 + w)) op (zx_fo lx pg) g t r m ↔ ((∀ j, j < m → (AT j).1 < pg 0) ∧ pg 0 ≤ (AT m).1) := fun m => by rw [eAT]; exact Iff.rfl
  rw [← eWD] at h
  clear eAT eWD
  rintro _ rfl _ rfl
  refine ⟨fun y6 y7 y9 y10 J M => ∃ i : Nat, i ≤ 8 ∧ y6 = nI (AT i).2.2.1 ∧ y7 = lN (AT i).2.2.2 ∧ y9 = nI (AT i).1 ∧ y10 = nI (AT i).2.1 ∧ L = M ∧ (∀ j, j < i → (AT j).1 < pg 0) ∧ (AT i).1 ≤ 40 ∧ (AT i).2.1 ≤ 8 ∧ (∀ k j, k ≠ 25 → ¬ (k = 0 ∧ (j = 33 ∨ j = 34)) → J k j = I k j) ∧ J 0 34 = nI t ∧ J 0 33 = nI i ∧ ∀ j, j < i → J 25 j = nI (WD j), fun _ _ y9 _ _ _ => 41 - y9.toNatClampNeg, ⟨0, by omega, by rw [a0], by rw [a0], by rw [a0]; rfl, by rw [a0]; rfl, rfl, fun j hj => absurd hj (by omega), by rw [a0]; exact Nat.zero_le _, by rw [a0]; exact Nat.le_refl _, fun k j h1 h2 => ?_, ?_, ?_, fun j hj => absurd hj (by omega)⟩, ?_⟩
  · rw [zu_k2 (by omega), zu_k2 (by omega)]
  · exact zu_e
  · rw [zu_i (by omega)]; exact zu_e
  rintro y6 y7 y9 y10 J M ⟨i, hi, rfl, rfl, rfl, rfl, rfl, hal, h40, ha8, hf, hJ34, hJ33, hJ25⟩
  obtain ⟨mJ, gJ⟩ := zx_mm_fr (J := J) (fun k j h1 h2 => hf k j h1 (by omega)) hm
  obtain ⟨lM, pM, hk, -⟩ := id mJ
  rw [← eg] at gJ
  have e0 : J 14 (0 : Int32).toNatClampNeg = nI (pg 0) := pM.1
  unfold zp_X8_find_23b
  rw [e0]
  refine ⟨pk_in 0 43 (by decide), pk_le (pg 0) (AT i).1 (fun c => h J i hf ((efin i).mpr ⟨hal, c⟩) hi hJ34 hJ33 hJ25) (fun c => ?_)⟩
  obtain ⟨k1, k2, k3, k4, k5, k6⟩ := wok i c
  have kw : pg (11 + WD i) ≤ (AT i).2.2.1 := zk_T_wt (wt := fun w => pg (11 + w)) k6
  have hle := ale i
  have hle2 := a8 i c
  have hspw := zx_sp_bd hl k1
  have hR1 := a4 i
  obtain ⟨Q, eQ⟩ : ∃ Q, Q = zk_Q (pg 0) (lx 0 0) (zx_sp lx) (fun w => pg (11 + w)) op (zx_fo lx pg) g (AT i) := ⟨_, rfl⟩
  obtain ⟨W, eW⟩ : ∃ W, W = WD i := ⟨_, rfl⟩
  obtain ⟨R, eR⟩ : ∃ R, R = (AT i).2.2.2 := ⟨_, rfl⟩
  have hQ : ∀ w, Q w = if op (AT i).1 w && g (AT i).2.1 w then zk_T (pg 0) (lx 0 0) (zx_sp lx) (fun w => pg (11 + w)) op (zx_fo lx pg) (AT i).1 w (AT i).2.2.1 else 0 := fun w => by rw [eQ]; rfl
  have hQb : ∀ w, w < lx 0 0 → Q w ≤ 8 ^ 8 := fun w hw => by
    rw [hQ]
    split
    · exact zk_T_bd h8 h24 hsp hw
    · exact Nat.zero_le _
  rw [← eQ, ← eW, ← eR] at k4 k5 hR1
  rw [← eR] at hle
  rw [← eW] at k1 kw hspw
  clear eQ
  refine ⟨fun y7 y11 y12 => ∃ c q jn : Nat, c < 2 ^ 63 ∧ q < 2 ^ 63 ∧ y7 = lN c ∧ y12 = lN q ∧ y11 + 1 = nI jn ∧ jn ≤ 9 ∧ (q ≤ c → jn ≤ W ∧ zt_sum jn Q ≤ R ∧ c - q = R - zt_sum jn Q) ∧ (c < q → y11 = nI W ∧ c = R - zt_sum W Q), fun _ y11 _ => 10 - (y11 + 1).toNatClampNeg, ⟨R, 0, 0, by omega, by omega, by rw [eR], rfl, by decide, by omega, fun _ => ⟨by omega, Nat.zero_le _, rfl⟩, fun z => absurd z (by omega)⟩, ?_⟩
  rintro y7 y11 y12 ⟨c0, q0, jn, hc0, hq0, rfl, rfl, ejn, hjn, hgo, hst⟩
  unfold zp_X8_find_37b
  refine zn_llt hc0 hq0 (fun z => ?_) (fun z => ?_)
  · obtain ⟨rfl, rfl⟩ := hst z
    rw [hJ33, zn_cl (n := i) (by omega)]
    refine ⟨vp_in_nI (by omega) (by decide), ?_⟩
    rintro _ rfl
    have e33 : zz_up J 25 i (nI W) 0 33 = nI i := by rw [zu_k (by omega)]; exact hJ33
    rw [e33, show nI i + (1 : Int32) = nI (i + 1) from nI_1 i]
    rintro _ rfl
    obtain ⟨K, eK⟩ : ∃ K, K = zz_up (zz_up J 25 i (nI W)) 0 33 (nI (i + 1)) := ⟨_, rfl⟩
    have kf : ∀ k j, k ≠ 25 → ¬ (k = 0 ∧ (j = 33 ∨ j = 34)) → K k j = I k j := fun k j h1 h2 => by
      rw [eK, zu_k2 (by omega), zu_k h1]; exact hf k j h1 h2
    have k33 : K 0 33 = nI (i + 1) := by rw [eK]; exact zu_e
    have k34 : K 0 34 = nI t := by rw [eK, zu_i (by omega), zu_k (by omega)]; exact hJ34
    have k25 : ∀ j, j < i + 1 → K 25 j = nI (WD j) := fun j hj => by
      rw [eK, zu_k (by omega)]
      by_cases e : j = i
      · rw [e, zu_e, eW]
      · rw [zu_i e]; exact hJ25 j (by omega)
    rw [← eK]
    clear eK
    obtain ⟨mK, -⟩ := zx_mm_fr (J := K) (fun k j h1 h2 => kf k j h1 (by omega)) hm
    obtain ⟨lK, pK, -, -⟩ := id mK
    have e11 : K 14 (11 + W) = nI (pg (11 + W)) := by
      have := pK.2.2.2.1 W k1
      rw [Nat.zero_add] at this; exact this
    rw [show (11 : Int32) + nI W = nI (11 + W) from nI_add 11 W, zn_cl (n := 11 + W) (by omega), e11, pk_sub kw]
    refine ⟨vp_in_nI (by omega) (by decide), ?_⟩
    rintro _ rfl
    refine zs_unitsOf hl lK k1 ?_
    rw [show nI (zx_sp lx W) + (1 : Int32) = nI (zx_sp lx W + 1) from nI_1 _, nI_add]
    rintro _ rfl
    refine ⟨⟨i + 1, by omega, ?_, ?_, ?_, ?_, rfl, fun j hj => ?_, ?_, ?_, kf, k34, k33, k25⟩, ?_⟩
    · rw [a3, ← eW]
    · rw [hR1]
    · rw [a1, ← eW]; rfl
    · rw [a2, ← eW]
    · by_cases e : j = i
      · rw [e]; exact c
      · exact hal j (by omega)
    · rw [a1, ← eW]; omega
    · rw [a2, ← eW]; omega
    · show 41 - (nI ((AT i).1 + (zx_sp lx W + 1))).toNatClampNeg < 41 - (nI (AT i).1).toNatClampNeg
      rw [zn_cl (by omega), zn_cl (by omega)]; omega
  · obtain ⟨z1, z2, z3⟩ := hgo z
    rw [lN_sub z, ejn, z3]
    rintro _ rfl _ rfl
    have hs1 : zt_sum (jn + 1) Q = zt_sum jn Q + Q jn := rfl
    have hb1 := hQb jn (by omega)
    have stp : ∀ rr : Int64, rr = lN (Q jn) → (∃ c q j2 : Nat, c < 2 ^ 63 ∧ q < 2 ^ 63 ∧ lN (R - zt_sum jn Q) = lN c ∧ rr = lN q ∧ nI jn + 1 = nI j2 ∧ j2 ≤ 9 ∧ (q ≤ c → j2 ≤ W ∧ zt_sum j2 Q ≤ R ∧ c - q = R - zt_sum j2 Q) ∧ (c < q → nI jn = nI W ∧ c = R - zt_sum W Q)) ∧ 10 - (nI jn + 1).toNatClampNeg < 10 - (y11 + 1).toNatClampNeg := by
      rintro _ rfl
      refine ⟨⟨R - zt_sum jn Q, Q jn, jn + 1, by omega, by omega, rfl, rfl, nI_1 jn, by omega, fun y1 => ?_, fun y1 => ?_⟩, by rw [ejn]; exact zz_down (i := jn) (n := 10) (by omega) (by omega)⟩
      · have : jn ≠ W := fun e => by subst e; omega
        exact ⟨by omega, by omega, by omega⟩
      · have e : jn = W := by
          by_cases e : jn = W
          · exact e
          · have := zt_mono_n (f := Q) (show jn + 1 ≤ W by omega)
            omega
        subst e
        exact ⟨rfl, rfl⟩
    refine zs_fitsS hl hp mJ (b := b) (by omega) (by omega) ha8 (fun y1 => stp _ ?_) (fun y1 => ?_)
    · rw [hQ, eop, ← gJ, y1]; rfl
    · rw [← eop, gJ] at y1
      have y2 := y1
      rw [Bool.and_eq_true] at y2
      refine zs_heavyBehind (op := op) (fo := zx_fo lx pg) (g := g) hl hp mJ (by omega) c (hin _ _ (by omega) y2.1) (fun v => hg _ v (by omega)) (by omega) hF (stp _ ?_)
      rw [hQ, y1]; rfl
theorem zk_isW_ex {un nw : Nat} {sp wt : Nat → Nat} {op fo : Nat → Nat → Bool} (h24 : un ≤ 24) (hsp : ∀ w, w < nw → 2 ≤ sp w) (hwt : ∀ w, w < nw → wt w ≤ 9) {s : Nat} : zk_U un nw sp wt op fo s + zk_W un nw sp wt op fo s ≤ zk_A un nw sp op fo ∨ 72 < s := by
  by_cases h : s ≤ 72
  · refine Or.inl ?_
    have h1 := zk_U_all (wt := wt) (op := op) (fo := fo) h24 hsp hwt
    by_cases e : s = 0
    · subst e; omega
    · have h2 := zk_U_mono (un := un) (nw := nw) (sp := sp) (wt := wt) (op := op) (fo := fo) (s := 0) (t := s - 1) (by omega)
      have h3 := zk_U_step (un := un) (nw := nw) (sp := sp) (wt := wt) (op := op) (fo := fo) (t := s - 1) (by omega)
      rw [show s - 1 + 1 = s by omega] at h3
      omega
  · exact Or.inr (by omega)
theorem zs_findRank {P : Int32 → zz_I → zz_L → Prop} {rank : Nat} (hl : zx_lexOK lx) (hp : zx_pgOK lx pg) (hm : zx_mm I lx pg n sw su si) (hr : rank < 2 ^ 63) (hno : zk_A (pg 0) (lx 0 0) (zx_sp lx) (zx_fit lx pg) (zx_fo lx pg) ≤ rank → ∀ M : zz_L, (∀ k j, k ≠ 22 → M k j = L k j) → P 0 I M) (h : ∀ (J : zz_I) (M : zz_L) (t m : Nat), (∀ k j, k ≠ 25 → ¬ (k = 0 ∧ (j = 33 ∨ j = 34)) → J k j = I k j) → (∀ k j, k ≠ 22 → M k j = L k j) → zk_isW (pg 0) (lx 0 0) (zx_sp lx) (fun w => pg (11 + w)) (zx_fit lx pg) (zx_fo lx pg) rank t → zk_fin (pg 0) (lx 0 0) (zx_sp lx) (fun w => pg (11 + w)) (zx_fit lx pg) (zx_fo lx pg) (zx_g I 14 lx pg) t (rank - zk_U (pg 0) (lx 0 0) (zx_sp lx) (fun w => pg (11 + w)) (zx_fit lx pg) (zx_fo lx pg) t) m → m ≤ 8 → J 0 34 = nI t → J 0 33 = nI m → (∀ j, j < m → J 25 j = nI (zk_wd (pg 0) (lx 0 0) (zx_sp lx) (fun w => pg (11 + w)) (zx_fit lx pg) (zx_fo lx pg) (zx_g I 14 lx pg) t (rank - zk_U (pg 0) (lx 0 0) (zx_sp lx) (fun w => pg (11 + w)) (zx_fit lx pg) (zx_fo lx pg) t) j)) → P 1 J M) : zp_X8_findRank 14 (lN rank) P I L := by
  have h8 := hl.1
  have h24 := hp.1
  have hsp : ∀ w, w < lx 0 0 → 2 ≤ zx_sp lx w := fun w hw => (zx_sp_bd hl hw).1
  have hwt : ∀ w, w < lx 0 0 → (fun w => pg (11 + w)) w ≤ 9 := fun w hw => (hp.2.2.2.1 w hw).2
  refine zs_layHeavy (b := false) hl hp hm (fun M mf hF => ?_)
  obtain ⟨lM, pM, hk, -⟩ := id hm
  have e0 : I 14 (0 : Int32).toNatClampNeg = nI (pg 0) := pM.1
  obtain ⟨U, eU⟩ : ∃ U, U = zk_U (pg 0) (lx 0 0) (zx_sp lx) (fun w => pg (11 + w)) (zx_fit lx pg) (zx_fo lx pg) := ⟨_, rfl⟩
  obtain ⟨W, eW⟩ : ∃ W, W = zk_W (pg 0) (lx 0 0) (zx_sp lx) (fun w => pg (11 + w)) (zx_fit lx pg) (zx_fo lx pg) := ⟨_, rfl⟩
  have hU72 : U 72 = 0 := by rw [eU]; exact zk_U_72
  have hUs : ∀ t, t < 72 → U t = U (t + 1) + W (t + 1) := fun t ht => by rw [eU, eW]; exact zk_U_step ht
  have hUW : ∀ s, s ≤ 72 → U s + W s ≤ zk_A (pg 0) (lx 0 0) (zx_sp lx) (zx_fit lx pg) (zx_fo lx pg) := fun s hs => by
    rw [eU, eW]
    rcases zk_isW_ex (wt := fun w => pg (11 + w)) (op := zx_fit lx pg) (fo := zx_fo lx pg) h24 hsp hwt (s := s) with q | q
    · exact q
    · omega
  have hall : U 0 + W 0 = zk_A (pg 0) (lx 0 0) (zx_sp lx) (zx_fit lx pg) (zx_fo lx pg) := by rw [eU, eW]; exact zk_U_all h24 hsp hwt
  have hA := zk_A_bd (op := zx_fit lx pg) (fo := zx_fo lx pg) hl hp
  have hW : ∀ t, t < 73 → M 22 (584 + t) = lN (W t) := fun t ht => by
    have := hF 0 8 t (by omega) (by omega) ht
    rw [zk_HV_W (fun w => zx_g8), zx_os_0] at this
    rw [eW, ← this]
  refine ⟨fun y4 y6 => ∃ t : Nat, t ≤ 73 ∧ y6 = nI t - 1 ∧ ((t = 0 ∧ zk_A (pg 0) (lx 0 0) (zx_sp lx) (zx_fit lx pg) (zx_fo lx pg) ≤ rank) ∨ ∃ s, t = s + 1 ∧ U s ≤ rank ∧ y4 = lN (rank - U s)), fun _ y6 => (y6 + 1).toNatClampNeg, ⟨73, by omega, by decide, Or.inr ⟨72, rfl, by omega, by rw [hU72]; rfl⟩⟩, ?_⟩
  rintro y4 y6 ⟨t, ht, rfl, ⟨rfl, hAr⟩ | ⟨s, rfl, hs, rfl⟩⟩
  · unfold zp_X8_findRank_13b
    exact ⟨fun _ => hno hAr M mf, fun c => absurd zz_neg0 c⟩
  · unfold zp_X8_findRank_13b
    rw [nI_pred s]
    refine ⟨fun c => absurd c (nI_pos (by omega)), fun _ => ?_⟩
    rw [show (584 : Int32) + nI s = nI (584 + s) from nI_add 584 s, zn_cl (n := 584 + s) (by omega), hW s (by omega)]
    refine ⟨vp_in_nI (by omega) (by decide), ?_⟩
    rintro _ rfl
    have hsW := hUW s (by omega)
    rw [e0]
    refine zn_lle (by omega) (by omega) (fun c => ?_) (fun c => ⟨pk_in 0 43 (by decide), ?_⟩)
    · unfold zp_X8_findRank_57
      rw [lN_sub c]
      rintro _ rfl _ rfl
      refine ⟨⟨s, by omega, zz_m1 _, ?_⟩, zz_dec (by omega)⟩
      cases s with
      | zero => exact Or.inl ⟨rfl, by omega⟩
      | succ s =>
        have := hUs s (by omega)
        exact Or.inr ⟨s, rfl, by omega, by rw [this, Nat.sub_add_eq]⟩
    · have h0 : rank - U s < zk_HV (pg 0) (lx 0 0) (zx_sp lx) (fun w => pg (11 + w)) (zx_os lx pg false n sw su si) (zx_fo lx pg) (zx_g I 14 lx pg) 0 8 s := by
        rw [zk_HV_W (fun w => zx_g8), zx_os_0, ← eW]; exact c
      have hun := zk_HV_un h0
      refine pk_le (pg 0) 0 (fun c2 => absurd c2 (by omega)) (fun _ => ?_)
      refine zs_findM (b := false) hl hp hm (by omega) (by omega) hF h0 (fun J m jf hfin hm8 j34 j33 j25 => ?_)
      rw [zx_os_0] at hfin j25
      refine h J M s m jf mf ?_ ?_ hm8 j34 j33 ?_
      · unfold zk_isW; rw [← eU, ← eW]; exact ⟨by omega, hs, by omega⟩
      · rw [← eU]; exact hfin
      · rw [← eU]; exact j25
end
