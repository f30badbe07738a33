theorem zs_inR {x : Int32} {y : Int64} {b : Nat} {P : Int32 → Prop} {I : zz_I} {L : zz_L} (hb : b < 2 ^ 30) (hy : y = lN b) (f : (x < 0 ∨ nI (b + 1) ≤ x) → P 0) (g : ∀ j, j ≤ b → x = nI j → P 1) : zp_X8_in x.toInt64 (0 : Int64) y P I L := by
  have e1 : (0 : Int64) = (0 : Int32).toInt64 := by decide
  have e2 : y = (nI b).toInt64 := by rw [hy]; exact (nI_l (by omega)).symm
  rw [e1, e2]
  have key : (nI b < x) ↔ nI (b + 1) ≤ x := by
    rw [Int32.lt_iff_toInt_lt, Int32.le_iff_toInt_le, nI_toInt (by omega), nI_toInt (by omega)]
    omega
  refine zs_X8_in (fun c => f ?_) (fun c1 c2 => ?_)
  · rcases c with c | c
    · exact Or.inl c
    · exact Or.inr (key.mp c)
  · rcases zn_ix x (n := b + 1) (by omega) with (h | h) | ⟨j, hj, h⟩
    · exact absurd h c1
    · exact absurd (key.mpr h) c2
    · exact g j (by omega) h
theorem zs_isKind {x : Int32} {P : Int32 → Prop} {I : zz_I} {L : zz_L} (f : (x < 0 ∨ nI 3 ≤ x) → P 0) (g : ∀ j, j < 3 → x = nI j → P 1) : zp_X7_isKind x P I L := by
  refine ⟨fun c => f (Or.inl c), fun c => ⟨fun c2 => f (Or.inr c2), fun c2 => ?_⟩⟩
  rcases zn_ix x (n := 3) (by decide) with (h | h) | ⟨j, hj, h⟩
  · exact absurd h c
  · exact absurd h c2
  · exact g j hj h
theorem zs_isSign {x : Int32} {P : Int32 → Prop} {I : zz_I} {L : zz_L} (f : (x < 0 ∨ nI 7 ≤ x) → P 0) (g : ∀ j, j < 7 → x = nI j → P 1) : zp_X7_isSign x P I L := by
  refine ⟨fun c => f (Or.inl c), fun c => ⟨fun c2 => f (Or.inr c2), fun c2 => ?_⟩⟩
  rcases zn_ix x (n := 7) (by decide) with (h | h) | ⟨j, hj, h⟩
  · exact absurd h c
  · exact absurd h c2
  · exact g j hj h
def zx_rec (I : zz_I) (e p v d nx : Nat) : zz_I := zz_up (zz_up (zz_up (zz_up (zz_up I 30 nx (nI e)) 31 nx (nI p)) 32 nx (nI v)) 29 4 (nI ((nx + 1) % 14))) 29 3 (nI (if d = 14 then 14 else d + 1))
theorem zs_record {I : zz_I} {L : zz_L} {e p v d nx : Nat} {x1 x2 x3 : Int32} {P : zz_I → zz_L → Prop} (hd : d ≤ 14) (hnx : nx < 14) (e3 : I 29 3 = nI d) (e4 : I 29 4 = nI nx) (e1 : x1 = nI e) (e2 : x2 = nI p) (e5 : x3 = nI v) (h : P (zx_rec I e p v d nx) L) : zp_X1_record x1 x2 x3 P I L := by
  subst e1; subst e2; subst e5
  unfold zp_X1_record
  rw [e4]
  refine ⟨fun c => absurd c (nI_pos (by omega)), fun _ => ⟨fun _ => ⟨vp_in_nI (by omega) (by decide), ?_⟩, fun c => absurd (nI_lt (b := 14) (by omega) (by decide)) c⟩⟩
  intro I26 eI
  subst eI
  have g1 : zz_up I 30 (nI nx).toNatClampNeg (nI e) 29 4 = nI nx := e4
  rw [g1]
  refine ⟨vp_in_nI (by omega) (by decide), ?_⟩
  intro I36 eI
  subst eI
  have g2 : zz_up (zz_up I 30 (nI nx).toNatClampNeg (nI e)) 31 (nI nx).toNatClampNeg (nI p) 29 4 = nI nx := e4
  rw [g2]
  refine ⟨vp_in_nI (by omega) (by decide), ?_⟩
  intro I46 eI I57 eI57 I72 eI72
  subst eI
  have g3 : zz_up (zz_up (zz_up I 30 (nI nx).toNatClampNeg (nI e)) 31 (nI nx).toNatClampNeg (nI p)) 32 (nI nx).toNatClampNeg (nI v) 29 4 = nI nx := e4
  rw [g3, show nI nx + (1 : Int32) = nI (nx + 1) from nI_1 nx, show nI (nx + 1) - nI (nx + 1) / (14 : Int32) * (14 : Int32) = nI ((nx + 1) % 14) from pk_rem (d := 14) (by omega) (by decide) (by decide), zn_cl (by omega)] at eI57
  subst eI57
  have g4 : zz_up (zz_up (zz_up (zz_up I 30 nx (nI e)) 31 nx (nI p)) 32 nx (nI v)) 29 4 (nI ((nx + 1) % 14)) 29 3 = nI d := e3
  rw [g4, show nI d + (1 : Int32) = nI (d + 1) from nI_1 d] at eI72
  have g5 : (if (14 : Int32) < nI (d + 1) then (14 : Int32) else nI (d + 1)) = nI (if d = 14 then 14 else d + 1) := by
    by_cases hd14 : d = 14
    · subst hd14; rfl
    · have : ¬ (14 : Int32) < nI (d + 1) := fun q => by have := (nI_ltI (a := 14) (b := d + 1) (by decide) (by omega)).mp q; omega
      rw [if_neg this, if_neg hd14]
  rw [g5] at eI72
  subst eI72
  exact h
/-- what 'note' leaves -/
def zx_noted (I J : zz_I) (d : Nat) : Prop := (∀ k j, k ≠ 16 → ¬ (k = 0 ∧ j = 21) → J k j = I k j) ∧ J 0 21 = nI (if d = 14 then 14 else d + 1) ∧ (∀ i j, i < (if d = 14 then 13 else d) → j < 43 → J 16 (43 * i + j) = I 16 (43 * (if d = 14 then i + 1 else i) + j)) ∧ ∀ j, j < 43 → J 16 (43 * (if d = 14 then 13 else d) + j) = I 14 j
theorem zs_note2 {I : zz_I} {L : zz_L} {d : Nat} {P : zz_I → zz_L → Prop} (hd : d ≤ 13) (e : I 0 21 = nI d) (h : ∀ J : zz_I, (∀ k j, k ≠ 16 → ¬ (k = 0 ∧ j = 21) → J k j = I k j) → J 0 21 = nI (d + 1) → (∀ q, q < 43 * d → J 16 q = I 16 q) → (∀ j, j < 43 → J 16 (43 * d + j) = I 14 j) → P J L) : zp_X8_note_51 P 0 I L := by
  refine ⟨fun y J M => ∃ i, i ≤ 43 ∧ y = nI i ∧ M = L ∧ (∀ k j, k ≠ 16 → J k j = I k j) ∧ (∀ q, q < 43 * d → J 16 q = I 16 q) ∧ ∀ j, j < i → J 16 (43 * d + j) = I 14 j, fun y _ _ => 43 - y.toNatClampNeg, ⟨0, by omega, rfl, rfl, fun _ _ _ => rfl, fun _ _ => rfl, fun j hj => absurd hj (by omega)⟩, ?_⟩
  rintro y1 J M ⟨i, hi, rfl, rfl, hf, hb, hn⟩
  have e21 : J 0 21 = nI d := by rw [hf 0 21 (by decide)]; exact e
  unfold zp_X8_note_51b
  rw [e21]
  refine pk_le 43 i (fun c => ?_) (fun c => ?_)
  · intro I90 e90
    subst e90
    refine h _ (fun k j hk hkj => ?_) ?_ (fun q hq => ?_) (fun j hj => ?_)
    · simp only [zz_up, hkj, if_false]; exact hf k j hk
    · show (zz_up J 0 21 (nI d + 1)) 0 21 = _
      simp [zz_up]; exact nI_1 d
    · exact hb q hq
    · have : J 16 (43 * d + j) = I 14 j := hn j (by omega)
      exact this
  · have e1 : (43 : Int32) * nI d + nI i = nI (43 * d + i) := by
      rw [show (43 : Int32) * nI d = nI (43 * d) from pk_mul 43 d, nI_add]
    rw [e1]
    refine ⟨vp_in_nI (by omega) (by decide), vp_in_nI (by omega) (by decide), ?_⟩
    rintro I76 rfl v77 rfl
    rw [zn_cl (by omega), zn_cl (by omega)]
    refine ⟨⟨i + 1, by omega, nI_1 i, rfl, fun k j hk => ?_, fun q hq => ?_, fun j hj => ?_⟩, zz_down (n := 43) (by omega) (by decide)⟩
    · simp only [zz_up, hk, false_and, if_false]; exact hf k j hk
    · have : ¬ (q = 43 * d + i) := by omega
      simp only [zz_up, this, and_false, if_false]; exact hb q hq
    · by_cases hj2 : j = i
      · subst hj2
        simp only [zz_up, and_self, if_true]; exact hf 14 j (by decide)
      · have : ¬ (43 * d + j = 43 * d + i) := by omega
        simp only [zz_up, this, and_false, if_false]; exact hn j (by omega)
theorem zs_note1 {I : zz_I} {L : zz_L} {P : zz_I → zz_L → Prop} (e : I 0 21 = nI 14) (h : ∀ J : zz_I, (∀ k j, k ≠ 16 → ¬ (k = 0 ∧ j = 21) → J k j = I k j) → J 0 21 = nI 13 → (∀ q, q < 559 → J 16 q = I 16 (q + 43)) → zp_X8_note_51 P 0 J L) : zp_X8_note_11 P 0 I L := by
  refine ⟨fun y J M => ∃ i, i ≤ 559 ∧ y = nI i ∧ M = L ∧ (∀ k j, k ≠ 16 → J k j = I k j) ∧ (∀ q, q < i → J 16 q = I 16 (q + 43)) ∧ ∀ q, i ≤ q → J 16 q = I 16 q, fun y _ _ => 559 - y.toNatClampNeg, ⟨0, by omega, rfl, rfl, fun _ _ _ => rfl, fun q hq => absurd hq (by omega), fun _ _ => rfl⟩, ?_⟩
  rintro y1 J M ⟨i, hi, rfl, rfl, hf, hb, hn⟩
  have e21 : J 0 21 = nI 14 := by rw [hf 0 21 (by decide)]; exact e
  unfold zp_X8_note_11b
  rw [e21]
  refine pk_le 559 i (fun c => ?_) (fun c => ?_)
  · intro I46 e46
    subst e46
    refine h _ (fun k j hk hkj => ?_) ?_ (fun q hq => ?_)
    · simp only [zz_up, hkj, if_false]; exact hf k j hk
    · rfl
    · have : J 16 q = I 16 (q + 43) := hb q (by omega)
      exact this
  · rw [show nI i + (43 : Int32) = nI (i + 43) from nI_add i 43]
    refine ⟨vp_in_nI (by omega) (by decide), vp_in_nI (by omega) (by decide), ?_⟩
    rintro I32 rfl v33 rfl
    rw [zn_cl (by omega), zn_cl (by omega)]
    refine ⟨⟨i + 1, by omega, nI_1 i, rfl, fun k j hk => ?_, fun q hq => ?_, fun q hq => ?_⟩, zz_down (n := 559) (by omega) (by decide)⟩
    · simp only [zz_up, hk, false_and, if_false]; exact hf k j hk
    · by_cases hj2 : q = i
      · subst hj2
        simp only [zz_up, and_self, if_true]; exact hn _ (by omega)
      · simp only [zz_up, hj2, and_false, if_false]; exact hb q (by omega)
    · have : ¬ (q = i) := by omega
      simp only [zz_up, this, and_false, if_false]; exact hn q (by omega)
theorem zs_note {I : zz_I} {L : zz_L} {d : Nat} {P : zz_I → zz_L → Prop} (hd : d ≤ 14) (e : I 0 21 = nI d) (h : ∀ J : zz_I, zx_noted I J d → P J L) : zp_X8_note P I L := by
  unfold zp_X8_note
  rw [e]
  by_cases hd14 : d = 14
  · subst hd14
    refine ⟨fun c => absurd rfl c, fun _ => ?_⟩
    refine zs_note1 e (fun J h1 h2 h3 => ?_)
    refine zs_note2 (d := 13) (by omega) h2 (fun K g1 g2 g3 g4 => ?_)
    refine h K ⟨fun k j hk hkj => (g1 k j hk hkj).trans (h1 k j hk hkj), g2, fun i j hi hj => ?_, fun j hj => ?_⟩
    · simp only [if_true] at hi ⊢
      rw [g3 _ (by omega), h3 _ (by omega)]
      congr 1
      omega
    · simp only [if_true]
      rw [g4 j hj]
      exact h1 14 j (by decide) (by omega)
  · refine ⟨fun _ => ?_, fun c => absurd (zn_j (by omega) (by decide) c) hd14⟩
    refine zs_note2 (d := d) (by omega) e (fun K g1 g2 g3 g4 => ?_)
    refine h K ⟨g1, by rw [if_neg hd14]; exact g2, fun i j hi hj => ?_, fun j hj => ?_⟩
    · simp only [hd14, if_false] at hi ⊢
      exact g3 _ (by omega)
    · simp only [hd14, if_false]
      exact g4 j hj
/-- the history behind an act -/
theorem zx_hist_act {IC IC1 IM J K : zz_I} {lx : Nat → Nat → Nat} {pg pg2 : Nat → Nat} {d nx : Nat} {pgs : Nat → Nat → Nat} {e p v : Nat} (hh : zx_hist IC IM lx pg d nx pgs) (hp : zx_pgOK lx pg) (pM : zx_pgM 14 0 IM lx pg) (hC0 : IC1 30 = IC 30) (hC1 : IC1 31 = IC 31) (hC2 : IC1 32 = IC 32) (hJ : zx_noted IM J d) (hK1 : K 16 = J 16) (hK2 : K 0 21 = J 0 21) (h0 : pg2 0 = pg 0) (ha : zx_actOK lx (pg 0) e p v) (hi : pg = zx_inv lx e p v pg2) (hle : lx 0 0 ≤ 8) : ∃ (d2 nx2 : Nat) (pgs2 : Nat → Nat → Nat), zx_hist (zx_rec IC1 e p v d nx) K lx pg2 d2 nx2 pgs2 := by
  obtain ⟨hd, hnx, e3, e4, e21, epg, hall⟩ := hh
  obtain ⟨hf, j21, hold, hnew⟩ := hJ
  have hun := hp.1
  obtain ⟨sh, esh⟩ : ∃ z : Nat, z = if d = 14 then 1 else 0 := ⟨_, rfl⟩
  have hsh : (d = 14 ∧ sh = 1) ∨ (d ≤ 13 ∧ sh = 0) := by
    by_cases q : d = 14
    · exact Or.inl ⟨q, by rw [esh, if_pos q]⟩
    · exact Or.inr ⟨by omega, by rw [esh, if_neg q]⟩
  have ed : (if d = 14 then 14 else d + 1) = d + 1 - sh := by split <;> omega
  have ed2 : (if d = 14 then 13 else d) = d - sh := by split <;> omega
  have ed3 : ∀ i, (if d = 14 then i + 1 else i) = i + sh := by intro i; split <;> omega
  refine ⟨d + 1 - sh, (nx + 1) % 14, fun i => if i = d + 1 - sh then pg2 else pgs (i + sh), by omega, Nat.mod_lt _ (by decide), ?_, rfl, ?_, by simp, ?_⟩
  · show (zx_rec IC1 e p v d nx) 29 3 = nI (d + 1 - sh)
    rw [← ed]; rfl
  · rw [hK2, j21, ed]
  · intro i hi2
    have hne : ¬ (i = d + 1 - sh) := by omega
    simp only [hne, if_false]
    by_cases hlast : i = d - sh
    · have es : i + sh = d := by omega
      have es2 : i + 1 = d + 1 - sh := by omega
      rw [es, epg]
      have hcell : ∀ j, j < 43 → K 16 (43 * i + j) = IM 14 j := by
        intro j hj
        rw [hK1, hlast, ← ed2]; exact hnew j hj
      refine ⟨⟨?_, ?_, fun j hj => ?_, fun w hw => ?_, fun u hu => ?_⟩, hp, by rw [h0], e, p, v, ?_, ?_, ?_, by rw [h0]; exact ha, ?_⟩
      · have := hcell 0 (by omega); rw [Nat.add_zero] at this; rw [this]; exact pM.1
      · rw [hcell 1 (by omega)]; exact pM.2.1
      · rw [hcell (2 + j) (by omega)]; have := pM.2.2.1 j hj; rw [Nat.zero_add] at this; exact this
      · rw [hcell (11 + w) (by omega)]; have := pM.2.2.2.1 w hw; rw [Nat.zero_add] at this; exact this
      · rw [hcell (19 + u) (by omega)]; have := pM.2.2.2.2 u hu; rw [Nat.zero_add] at this; exact this
      · have er : ((nx + 1) % 14 + 14 - (d + 1 - sh) + i) % 14 = nx := by omega
        rw [er]; simp [zx_rec, zz_up]
      · have er : ((nx + 1) % 14 + 14 - (d + 1 - sh) + i) % 14 = nx := by omega
        rw [er]; simp [zx_rec, zz_up]
      · have er : ((nx + 1) % 14 + 14 - (d + 1 - sh) + i) % 14 = nx := by omega
        rw [er]; simp [zx_rec, zz_up]
      · simp only [es2, if_true]; exact hi
    · obtain ⟨g1, g2, g3, e9, p9, v9, c1, c2, c3, c4, c5⟩ := hall (i + sh) (by omega)
      have hcell : ∀ j, j < 43 → K 16 (43 * i + j) = IM 16 (43 * (i + sh) + j) := by
        intro j hj
        rw [hK1]
        have := hold i j (by rw [ed2]; omega) hj
        rw [ed3] at this; exact this
      have er : ((nx + 1) % 14 + 14 - (d + 1 - sh) + i) % 14 = (nx + 14 - d + (i + sh)) % 14 := by omega
      have ern : ¬ ((nx + 14 - d + (i + sh)) % 14 = nx) := by omega
      have hu9 : pgs (i + sh) 0 ≤ 24 := g2.1
      refine ⟨⟨?_, ?_, fun j hj => ?_, fun w hw => ?_, fun u hu => ?_⟩, g2, by rw [h0]; exact g3, e9, p9, v9, ?_, ?_, ?_, by rw [h0]; exact c4, ?_⟩
      · have := hcell 0 (by omega); rw [Nat.add_zero, Nat.add_zero] at this; rw [this]; exact g1.1
      · rw [hcell 1 (by omega)]; exact g1.2.1
      · rw [hcell (2 + j) (by omega)]; exact g1.2.2.1 j hj
      · rw [hcell (11 + w) (by omega)]; exact g1.2.2.2.1 w hw
      · rw [hcell (19 + u) (by omega)]; exact g1.2.2.2.2 u hu
      · rw [er]; simp only [zx_rec, zz_up, ern, and_false, if_false]; rw [← c1]; exact congrFun hC0 _
      · rw [er]; simp only [zx_rec, zz_up, ern, and_false, if_false]; rw [← c2]; exact congrFun hC1 _
      · rw [er]; simp only [zx_rec, zz_up, ern, and_false, if_false]; rw [← c3]; exact congrFun hC2 _
      · have h7 : ¬ (i + 1 = d + 1 - sh) := by omega
        simp only [h7, if_false]
        rw [show i + 1 + sh = i + sh + 1 by omega]; exact c5
