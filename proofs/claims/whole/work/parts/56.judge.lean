def zx_ok (lx : Nat → Nat → Nat) (tp : Nat → Nat) (k a b c d : Nat) : Prop := d = 0 ∧ ((k = 1 ∧ c = 0 ∧ 10 * a + b < tp 0 ∧ tp (19 + (10 * a + b)) < 7) ∨ (k = 2 ∧ 10 * a + b < tp 0 ∧ c < 7 ∧ zx_free tp (10 * a + b) (lx 1 c) = true) ∨ (k = 3 ∧ b = 0 ∧ c = 0 ∧ a < lx 0 0) ∨ (k = 4 ∧ a < 3 ∧ b < 3 ∧ c < 3) ∨ (k = 5 ∧ a < lx 0 0 ∧ zx_lies lx tp a (10 * b + c) = true) ∨ (k = 6 ∧ c = 0 ∧ zk_A (tp 0) (lx 0 0) (zx_sp lx) (zx_fit lx tp) (zx_fo lx tp) ≤ 10 * a + b) ∨ (k = 7 ∧ 10 * a + b < tp 0 ∧ c < 7 ∧ zx_su lx tp (10 * a + b) 7 = nI c))
def zx_nx (lx : Nat → Nat → Nat) (tp : Nat → Nat) (k a b c : Nat) : Nat → Nat := if k = 1 then zx_gap tp (10 * a + b) (lx 1 (tp (19 + (10 * a + b)))) else if k = 2 then zx_put tp (10 * a + b) c (lx 1 c) else if k = 3 then zx_set tp 1 (tp 1 ^^^ 2 ^ a) else if k = 4 then zx_set tp (2 + (3 * a + b)) c else tp
theorem zx_nx_OK {lx : Nat → Nat → Nat} {tp : Nat → Nat} {k a b c d : Nat} (hl : zx_lexOK lx) (hp : zx_pgOK lx tp) (h : zx_ok lx tp k a b c d) : zx_pgOK lx (zx_nx lx tp k a b c) := by
  have h8 := hl.1
  obtain ⟨-, ⟨rfl, h1, h2, h3⟩ | ⟨rfl, h1, h2, h3⟩ | ⟨rfl, h1, h2, h3⟩ | ⟨rfl, h1, h2, h3⟩ | ⟨rfl, h1⟩ | ⟨rfl, h1⟩ | ⟨rfl, h1⟩⟩ := h
  · exact (zx_gap_OK hl hp h2 h3).1
  · exact (zx_put_OK hl hp h2 h3).1
  · exact (zx_set_OK hp (Or.inl ⟨rfl, zx_xor_lt hp.2.1 (zx_pow_lt (by omega))⟩)).1
  · exact (zx_set_OK hp (Or.inr (Or.inl ⟨by omega, by omega, by omega⟩))).1
  · exact hp
  · exact hp
  · exact hp
theorem zs_accepts {s : Nat} {I : zz_I} {L : zz_L} {lx : Nat → Nat → Nat} {tp : Nat → Nat} {P : Int32 → zz_I → zz_L → Prop} (hl : zx_lexOK lx) (hp : zx_pgOK lx tp) (lC : zx_lexC 14 I lx) (pC : zx_pgC 25 I lx tp) (hs : s < 100000)
    (f : ¬ zx_ok lx tp (s / 10000) (s / 1000 % 10) (s / 100 % 10) (s / 10 % 10) (s % 10) → ∀ (J : zz_I) (M : zz_L), (∀ k j, (k < 25 ∨ (28 < k ∧ k < 37) ∨ 41 < k) → J k j = I k j) → (∀ k j, k ≠ 42 → k ≠ 43 → M k j = L k j) → P 0 J M)
    (g : zx_ok lx tp (s / 10000) (s / 1000 % 10) (s / 100 % 10) (s / 10 % 10) (s % 10) → ∀ (J : zz_I) (M : zz_L), (∀ k j, (k < 25 ∨ (28 < k ∧ k < 37) ∨ 41 < k) → J k j = I k j) → (∀ k j, k ≠ 42 → k ≠ 43 → M k j = L k j) → zx_pgC 25 J lx (zx_nx lx tp (s / 10000) (s / 1000 % 10) (s / 100 % 10) (s / 10 % 10)) → P 1 J M) : zp_X7_accepts (nI s) P I L := by
  have h8 := hl.1
  have h24 := hp.1
  have r10 : ∀ n, n < 2 ^ 30 → nI n - nI n / (10 : Int32) * (10 : Int32) = nI (n % 10) := fun n hn => pk_rem (d := 10) (by omega) (by decide) (by decide)
  unfold zp_X7_accepts
  rw [show nI s / (10000 : Int32) = nI (s / 10000) from pk_div (d := 10000) (by omega) (by decide) (by decide), show nI s / (1000 : Int32) = nI (s / 1000) from pk_div (d := 1000) (by omega) (by decide) (by decide), show nI s / (100 : Int32) = nI (s / 100) from pk_div (d := 100) (by omega) (by decide) (by decide), r10 s (by omega)]
  rw [show nI s / (10 : Int32) = nI (s / 10) from pk_div (d := 10) (by omega) (by decide) (by decide), r10 _ (by omega), r10 _ (by omega), r10 _ (by omega)]
  rintro _ rfl _ rfl _ rfl _ rfl _ rfl
  have bk : s / 10000 < 10 := by omega
  have ba : s / 1000 % 10 < 10 := by omega
  have bb : s / 100 % 10 < 10 := by omega
  have bc : s / 10 % 10 < 10 := by omega
  have bd : s % 10 < 10 := by omega
  generalize s / 10000 = k at *
  generalize s / 1000 % 10 = a at *
  generalize s / 100 % 10 = b at *
  generalize s / 10 % 10 = c at *
  generalize s % 10 = d at *
  rw [show nI a * (10 : Int32) + nI b = nI (10 * a + b) by rw [show nI a * (10 : Int32) = nI (a * 10) from pk_mul a 10, nI_add, Nat.mul_comm], show nI b * (10 : Int32) + nI c = nI (10 * b + c) by rw [show nI b * (10 : Int32) = nI (b * 10) from pk_mul b 10, nI_add, Nat.mul_comm]]
  rintro _ rfl
  have f0 : ¬ zx_ok lx tp k a b c d → P 0 I L := fun q => f q I L (fun _ _ _ => rfl) (fun _ _ _ _ => rfl)
  refine ⟨fun q => ?_, fun q => f0 (fun z => q (by rw [z.1]; rfl))⟩
  have hd0 : d = 0 := zn_j (j := 0) (by omega) (by decide) q
  subst hd0
  have kk : ∀ j, j < 8 → nI k = nI j → k = j := fun j hj z => zn_j (by omega) (by omega) z
  refine ⟨fun z => ?_, fun z => ?_, fun z => ?_, fun z => ?_, fun z => ?_, fun z => ?_, fun z => ?_, fun n1 n2 n3 n4 n5 n6 n7 => ?_⟩
  · obtain rfl : k = 1 := kk 1 (by omega) z
    refine ⟨fun y => f0 ?_, fun y => ?_⟩
    · rintro ⟨-, ⟨-, h1, h2, h3⟩ | ⟨h, -⟩ | ⟨h, -⟩ | ⟨h, -⟩ | ⟨h, -⟩ | ⟨h, -⟩ | ⟨h, -⟩⟩
      · exact y (by rw [h1]; rfl)
      all_goals omega
    · have hc0 : c = 0 := zn_j (j := 0) (by omega) (by decide) y
      subst hc0
      refine zs_removeSign hl hp lC pC (fun o => ?_) (fun u hu e h7 => ?_) (fun u hu e h7 J hf hJ => ?_)
      · refine ⟨fun _ => f0 ?_, fun n => absurd (by decide) n⟩
        rintro ⟨-, ⟨-, h1, h2, h3⟩ | ⟨h, -⟩ | ⟨h, -⟩ | ⟨h, -⟩ | ⟨h, -⟩ | ⟨h, -⟩ | ⟨h, -⟩⟩
        · exact zn_out (by omega) o h2 rfl
        all_goals omega
      · have e2 : 10 * a + b = u := zn_j (by omega) (by omega) e
        refine ⟨fun _ => f0 ?_, fun n => absurd (by decide) n⟩
        rintro ⟨-, ⟨-, h1, h2, h3⟩ | ⟨h, -⟩ | ⟨h, -⟩ | ⟨h, -⟩ | ⟨h, -⟩ | ⟨h, -⟩ | ⟨h, -⟩⟩
        · rw [e2] at h3; omega
        all_goals omega
      · have e2 : 10 * a + b = u := zn_j (by omega) (by omega) e
        subst e2
        refine ⟨fun n => absurd n (nI_pos (by omega)), fun _ => g ⟨rfl, Or.inl ⟨rfl, rfl, hu, h7⟩⟩ J L (fun k j hk => hf k j (by omega)) (fun _ _ _ _ => rfl) hJ⟩
  · obtain rfl : k = 2 := kk 2 (by omega) z
    refine zs_insertSign hl hp lC pC (fun o => ?_) (fun u hu e o => ?_) (fun u x hu e hx ex h0 => ?_) (fun u x hu e hx ex h0 J hf hJ => ?_)
    · refine ⟨fun _ => f0 ?_, fun n => absurd (by decide) n⟩
      rintro ⟨-, ⟨h, -⟩ | ⟨-, h1, h2, h3⟩ | ⟨h, -⟩ | ⟨h, -⟩ | ⟨h, -⟩ | ⟨h, -⟩ | ⟨h, -⟩⟩
      · omega
      · exact zn_out (by omega) o h1 rfl
      all_goals omega
    · refine ⟨fun _ => f0 ?_, fun n => absurd (by decide) n⟩
      rintro ⟨-, ⟨h, -⟩ | ⟨-, h1, h2, h3⟩ | ⟨h, -⟩ | ⟨h, -⟩ | ⟨h, -⟩ | ⟨h, -⟩ | ⟨h, -⟩⟩
      · omega
      · exact zn_out (n := 7) (by omega) o h2 rfl
      all_goals omega
    · have e2 : 10 * a + b = u := zn_j (by omega) (by omega) e
      have e3 : c = x := zn_j (by omega) (by omega) ex
      subst e2 e3
      refine ⟨fun _ => f0 ?_, fun n => absurd (by decide) n⟩
      rintro ⟨-, ⟨h, -⟩ | ⟨-, h1, h2, h3⟩ | ⟨h, -⟩ | ⟨h, -⟩ | ⟨h, -⟩ | ⟨h, -⟩ | ⟨h, -⟩⟩
      · omega
      · rw [h0] at h3; cases h3
      all_goals omega
    · have e2 : 10 * a + b = u := zn_j (by omega) (by omega) e
      have e3 : c = x := zn_j (by omega) (by omega) ex
      subst e2 e3
      have hg := zx_gaps_le (pg := zx_put tp (10 * a + b) c (lx 1 c))
      have ho := (zx_put_OK hl hp hx h0).2.1
      refine ⟨fun n => absurd n (nI_pos (by omega)), fun _ => g ⟨rfl, Or.inr (Or.inl ⟨rfl, hu, hx, h0⟩)⟩ J L (fun k j hk => hf k j (by omega)) (fun _ _ _ _ => rfl) hJ⟩
  · obtain rfl : k = 3 := kk 3 (by omega) z
    refine ⟨fun y => f0 ?_, fun y => ⟨fun y2 => f0 ?_, fun y2 => ?_⟩⟩
    · rintro ⟨-, ⟨h, -⟩ | ⟨h, -⟩ | ⟨-, h1, h2, h3⟩ | ⟨h, -⟩ | ⟨h, -⟩ | ⟨h, -⟩ | ⟨h, -⟩⟩
      · omega
      · omega
      · exact y (by rw [h1]; rfl)
      all_goals omega
    · rintro ⟨-, ⟨h, -⟩ | ⟨h, -⟩ | ⟨-, h1, h2, h3⟩ | ⟨h, -⟩ | ⟨h, -⟩ | ⟨h, -⟩ | ⟨h, -⟩⟩
      · omega
      · omega
      · exact y2 (by rw [h2]; rfl)
      all_goals omega
    · have hb0 : b = 0 := zn_j (j := 0) (by omega) (by decide) y
      have hc0 : c = 0 := zn_j (j := 0) (by omega) (by decide) y2
      subst hb0 hc0
      unfold zp_X6_flipWord
      refine zs_X2_hasWord (n := lx 0 0) (by omega) lC.1 (fun o => ⟨fun n => absurd rfl n, fun _ => ⟨fun _ => f0 ?_, fun n => absurd (by decide) n⟩⟩) (fun j hj ej => ⟨fun _ => ?_, fun n => absurd n (by decide)⟩)
      · rintro ⟨-, ⟨h, -⟩ | ⟨h, -⟩ | ⟨-, h1, h2, h3⟩ | ⟨h, -⟩ | ⟨h, -⟩ | ⟨h, -⟩ | ⟨h, -⟩⟩
        · omega
        · omega
        · exact zn_out (by omega) o h3 rfl
        all_goals omega
      · have ea : a = j := zn_j (by omega) (by omega) ej
        subst ea
        have hp2 := zx_pow_lt (w := a) (by omega)
        have hxl := zx_xor_lt hp.2.1 hp2
        have eb : I 25 4 = nI (tp 1) := pC.2.1
        rw [eb, zx_two_pow (by omega), zx_xor hp.2.1 hp2]
        rintro _ rfl
        rw [zu_e, zx_bit (by omega) (by omega)]
        refine ⟨fun n => absurd n (nI_pos (by omega)), fun _ => g ⟨rfl, Or.inr (Or.inr (Or.inl ⟨rfl, rfl, rfl, hj⟩))⟩ _ L (fun k j hk => zu_k (by omega)) (fun _ _ _ _ => rfl) (zx_set_C1 pC)⟩
  · obtain rfl : k = 4 := kk 4 (by omega) z
    have no : (¬ (a < 3 ∧ b < 3 ∧ c < 3)) → ¬ zx_ok lx tp 4 a b c 0 := by
      rintro n ⟨-, ⟨h, -⟩ | ⟨h, -⟩ | ⟨h, -⟩ | ⟨-, h⟩ | ⟨h, -⟩ | ⟨h, -⟩ | ⟨h, -⟩⟩
      · omega
      · omega
      · omega
      · exact n h
      all_goals omega
    have bad : (¬ (a < 3 ∧ b < 3 ∧ c < 3)) → ((-2 : Int32) < 0 → P (0 : Int32) I L) ∧ (¬ (-2 : Int32) < 0 → P (1 : Int32) I L) := fun n => ⟨fun _ => f0 (no n), fun z => absurd (by decide) z⟩
    unfold zp_X6_changeRule
    refine zs_isKind (fun o => ⟨fun _ => bad (fun n => zn_out (n := 3) (by decide) o n.1 rfl), fun n => absurd rfl n⟩) (fun j hj ej => ⟨fun n => absurd n (by decide), fun _ => ?_⟩)
    refine zs_isKind (fun o => ⟨fun _ => bad (fun n => zn_out (n := 3) (by decide) o n.2.1 rfl), fun n => absurd rfl n⟩) (fun j2 hj2 ej2 => ⟨fun n => absurd n (by decide), fun _ => ?_⟩)
    have ea : a = j := zn_j (by omega) (by omega) ej
    have eb : b = j2 := zn_j (by omega) (by omega) ej2
    subst ea eb
    refine ⟨fun n => absurd n (nI_pos (by omega)), fun _ => pk_le c 2 (fun c2 => ?_) (fun c2 => bad (fun n => by omega))⟩
    have hr := hp.2.2.1 (3 * a + b) (by omega)
    rw [show nI a * (3 : Int32) + nI b = nI (3 * a + b) by rw [show nI a * (3 : Int32) = nI (a * 3) from pk_mul a 3, nI_add, Nat.mul_comm], zn_cl (n := 3 * a + b) (by omega), pC.2.2.1 (3 * a + b) (by omega)]
    refine ⟨vp_in_nI (by omega) (by decide), ?_⟩
    rintro _ rfl
    refine ⟨vp_in_nI (by omega) (by decide), ?_⟩
    rintro _ rfl
    refine ⟨fun n => absurd n (nI_pos (by omega)), fun _ => g ⟨rfl, Or.inr (Or.inr (Or.inr (Or.inl ⟨rfl, hj, hj2, by omega⟩)))⟩ _ L (fun k j hk => zu_k (by omega)) (fun _ _ _ _ => rfl) (zx_set_C2 (by omega) pC)⟩
  · obtain rfl : k = 5 := kk 5 (by omega) z
    by_cases ha : a < lx 0 0
    · refine zs_holdsWord hl hp lC pC ha (by omega) ⟨zb_bool _, ?_⟩
      cases q2 : zx_lies lx tp a (10 * b + c)
      · refine f0 ?_
        rintro ⟨-, ⟨h, -⟩ | ⟨h, -⟩ | ⟨h, -⟩ | ⟨h, -⟩ | ⟨-, h1, h2⟩ | ⟨h, -⟩ | ⟨h, -⟩⟩
        · omega
        · omega
        · omega
        · omega
        · rw [q2] at h2; cases h2
        all_goals omega
      · exact g ⟨rfl, Or.inr (Or.inr (Or.inr (Or.inr (Or.inl ⟨rfl, ha, q2⟩))))⟩ I L (fun _ _ _ => rfl) (fun _ _ _ _ => rfl) pC
    · refine zs_X2_hasWord (n := lx 0 0) (by omega) lC.1 (fun o => ⟨fun n => absurd rfl n, fun _ => ⟨Or.inl rfl, f0 ?_⟩⟩) (fun j hj ej => absurd (show a < lx 0 0 by rw [zn_j (by omega) (by omega) ej]; exact hj) ha)
      rintro ⟨-, ⟨h, -⟩ | ⟨h, -⟩ | ⟨h, -⟩ | ⟨h, -⟩ | ⟨-, h1, h2⟩ | ⟨h, -⟩ | ⟨h, -⟩⟩
      all_goals omega
  · obtain rfl : k = 6 := kk 6 (by omega) z
    refine ⟨fun y => f0 ?_, fun y => ?_⟩
    · rintro ⟨-, ⟨h, -⟩ | ⟨h, -⟩ | ⟨h, -⟩ | ⟨h, -⟩ | ⟨h, -⟩ | ⟨-, h1, h2⟩ | ⟨h, -⟩⟩
      · omega
      · omega
      · omega
      · omega
      · omega
      · exact y (by rw [h1]; rfl)
      · omega
    · have hc0 : c = 0 := zn_j (j := 0) (by omega) (by decide) y
      subst hc0
      have hA := zk_A_bd hl hp (op := zx_fit lx tp) (fo := zx_fo lx tp)
      refine zs_countAll (by omega) hl hp lC pC (fun J M om' um hst => ?_)
      have fI : ∀ k j, (k < 25 ∨ (28 < k ∧ k < 37) ∨ 41 < k) → J k j = I k j := fun k j hk => hst.1 k j (by omega)
      have fL : ∀ k j, k ≠ 42 → k ≠ 43 → M k j = L k j := fun k j _ h2 => hst.2.1 k j h2
      rw [nI_l (by omega)]
      refine ⟨fun y2 => f ?_ J M fI fL, fun y2 => g ⟨rfl, Or.inr (Or.inr (Or.inr (Or.inr (Or.inr (Or.inl ⟨rfl, rfl, ?_⟩)))))⟩ J M fI fL (zx_pgC_fr (by omega) (fun k j hk => hst.1 k j (Or.inl hk)) pC)⟩
      · have := (pk_lLT (by omega) (by omega)).mp y2
        rintro ⟨-, ⟨h, -⟩ | ⟨h, -⟩ | ⟨h, -⟩ | ⟨h, -⟩ | ⟨h, -⟩ | ⟨-, h1, h2⟩ | ⟨h, -⟩⟩
        all_goals omega
      · rw [pk_lLT (by omega) (by omega)] at y2
        omega
  · obtain rfl : k = 7 := kk 7 (by omega) z
    refine zs_X6_hasUnit (n := tp 0) (by omega) pC.1 (fun o => ⟨fun _ => f0 ?_, fun n => absurd rfl n⟩) (fun u hu e => ⟨fun n => absurd n (by decide), fun _ => ?_⟩)
    · rintro ⟨-, ⟨h, -⟩ | ⟨h, -⟩ | ⟨h, -⟩ | ⟨h, -⟩ | ⟨h, -⟩ | ⟨h, -⟩ | ⟨-, h1, h2⟩⟩
      · omega
      · omega
      · omega
      · omega
      · omega
      · omega
      · exact zn_out (by omega) o h1 rfl
    · have e2 : 10 * a + b = u := zn_j (by omega) (by omega) e
      subst e2
      refine zs_isSign (fun o => ⟨fun _ => f0 ?_, fun n => absurd rfl n⟩) (fun x hx ex => ⟨fun n => absurd n (by decide), fun _ => ?_⟩)
      · rintro ⟨-, ⟨h, -⟩ | ⟨h, -⟩ | ⟨h, -⟩ | ⟨h, -⟩ | ⟨h, -⟩ | ⟨h, -⟩ | ⟨-, h1, h2, h3⟩⟩
        · omega
        · omega
        · omega
        · omega
        · omega
        · omega
        · exact zn_out (n := 7) (by omega) o h2 rfl
      · have e3 : c = x := zn_j (by omega) (by omega) ex
        subst e3
        refine zs_certain (by omega) hl hp lC pC hu (fun J M f1 f2 => ⟨fun y => f ?_ J M (fun k j hk => f1 k j (by omega)) f2, fun y => g ⟨rfl, Or.inr (Or.inr (Or.inr (Or.inr (Or.inr (Or.inr ⟨rfl, hu, hx, y⟩)))))⟩ J M (fun k j hk => f1 k j (by omega)) f2 (zx_pgC_fr (by omega) (fun k j hk => f1 k j (Or.inl hk)) pC)⟩)
        rintro ⟨-, ⟨h, -⟩ | ⟨h, -⟩ | ⟨h, -⟩ | ⟨h, -⟩ | ⟨h, -⟩ | ⟨h, -⟩ | ⟨-, h1, h2, h3⟩⟩
        · omega
        · omega
        · omega
        · omega
        · omega
        · omega
        · exact y h3
  · refine f0 ?_
    rintro ⟨-, ⟨h, -⟩ | ⟨h, -⟩ | ⟨h, -⟩ | ⟨h, -⟩ | ⟨h, -⟩ | ⟨h, -⟩ | ⟨h, -⟩⟩
    · exact n1 (by rw [h]; rfl)
    · exact n2 (by rw [h]; rfl)
    · exact n3 (by rw [h]; rfl)
    · exact n4 (by rw [h]; rfl)
    · exact n5 (by rw [h]; rfl)
    · exact n6 (by rw [h]; rfl)
    · exact n7 (by rw [h]; rfl)
