theorem zx_set_Mk {k : Nat} {I : zz_I} {lx : Nat → Nat → Nat} {pg : Nat → Nat} {i v : Nat} (h : zx_pgM k 0 I lx pg) (hi : 1 ≤ i) : zx_pgM k 0 (zz_up I k i (nI v)) lx (zx_set pg i v) := by
  obtain ⟨a, b, c, d, e⟩ := h
  have key : ∀ q, I k (0 + q) = nI (pg q) → (zz_up I k i (nI v)) k (0 + q) = nI (zx_set pg i v q) := by
    intro q hq
    by_cases z : q = i
    · subst z; rw [Nat.zero_add, zu_e, zx_set_at]
    · rw [zu_i (by omega), zx_set_ne z]; exact hq
  refine ⟨?_, key 1 b, fun j hj => key _ (c j hj), fun w hw => key _ (d w hw), fun u hu => ?_⟩
  · have := key 0 a
    exact this
  · rw [zx_set_ne (by omega)] at hu
    exact key _ (e u hu)
theorem zs_does {s : Nat} {I : zz_I} {L : zz_L} {lx : Nat → Nat → Nat} {tp : Nat → Nat} {P : Int32 → zz_I → zz_L → Prop} (hl : zx_lexOK lx) (hp : zx_pgOK lx tp) (lM : zx_lexM 5 2 I lx) (pM : zx_pgM 15 0 I lx tp) (hk : ∀ j, j < 8 → ∃ c : Nat, c < 3 ∧ I 5 j = nI c) (hs : s < 100000)
    (f : ¬ zx_ok lx tp (s / 10000) (s / 1000 % 10) (s / 100 % 10) (s / 10 % 10) (s % 10) → ∀ (J : zz_I) (M : zz_L), (∀ k j, k ≠ 15 → J k j = I k j) → (∀ k j, k ≠ 23 → k ≠ 24 → M k j = L k j) → P 0 J M)
    (g : zx_ok lx tp (s / 10000) (s / 1000 % 10) (s / 100 % 10) (s / 10 % 10) (s % 10) → ∀ (J : zz_I) (M : zz_L), (∀ k j, k ≠ 15 → J k j = I k j) → (∀ k j, k ≠ 23 → k ≠ 24 → M k j = L k j) → zx_pgM 15 0 J lx (zx_nx lx tp (s / 10000) (s / 1000 % 10) (s / 100 % 10) (s / 10 % 10)) → P 1 J M) : zp_X8_does (nI s) P I L := by
  have h8 := hl.1
  have h24 := hp.1
  have r10 : ∀ n, n < 2 ^ 30 → nI n - nI n / (10 : Int32) * (10 : Int32) = nI (n % 10) := fun n hn => pk_rem (d := 10) (by omega) (by decide) (by decide)
  have ek : nI s / (10000 : Int32) = nI (s / 10000) := pk_div (d := 10000) (by omega) (by decide) (by decide)
  unfold zp_X8_does
  rw [show nI s / (1000 : Int32) = nI (s / 1000) from pk_div (d := 1000) (by omega) (by decide) (by decide), show nI s / (100 : Int32) = nI (s / 100) from pk_div (d := 100) (by omega) (by decide) (by decide), r10 s (by omega)]
  rw [show nI s / (10 : Int32) = nI (s / 10) from pk_div (d := 10) (by omega) (by decide) (by decide), r10 _ (by omega), r10 _ (by omega), r10 _ (by omega)]
  rintro _ rfl _ rfl _ rfl _ rfl
  have bk : s / 10000 < 10 := by omega
  have ba : s / 1000 % 10 < 10 := by omega
  have bb : s / 100 % 10 < 10 := by omega
  have bc : s / 10 % 10 < 10 := by omega
  have bd : s % 10 < 10 := by omega
  generalize s / 10000 = k at *
  generalize s / 1000 % 10 = a at *
  generalize s / 100 % 10 = b at *
  generalize s / 10 % 10 = c at *
  generalize s % 10 = d at *
  rw [show (10 : Int32) * nI a + nI b = nI (10 * a + b) by rw [show (10 : Int32) * nI a = nI (10 * a) from pk_mul 10 a, nI_add], show (10 : Int32) * nI b + nI c = nI (10 * b + c) by rw [show (10 : Int32) * nI b = nI (10 * b) from pk_mul 10 b, nI_add]]
  rintro _ rfl _ rfl
  have e0 : I 15 (0 : Int32).toNatClampNeg = nI (tp 0) := pM.1
  have e5 : I 0 5 = nI (lx 0 0) := lM.1
  refine ⟨pk_in 0 43 (by decide), ?_⟩
  rw [e0]
  have f0 : ¬ zx_ok lx tp k a b c d → P 0 I L := fun q => f q I L (fun _ _ _ => rfl) (fun _ _ _ _ => rfl)
  have dd : nI d = 0 → d = 0 := fun z => zn_j (j := 0) (by omega) (by decide) z
  have dd' : ¬ nI d = 0 → d ≠ 0 := fun z y => z (by rw [y]; rfl)
  have kk : ∀ j, j < 8 → nI k = nI j → k = j := fun j hj z => zn_j (by omega) (by omega) z
  have ok1 : k = 1 → (zx_ok lx tp k a b c d ↔ d = 0 ∧ c = 0 ∧ 10 * a + b < tp 0 ∧ tp (19 + (10 * a + b)) < 7) := fun z => ⟨fun ⟨y, h⟩ => ⟨y, by rcases h with h | h | h | h | h | h | h <;> first | exact h.2 | omega⟩, fun y => ⟨y.1, Or.inl ⟨z, y.2⟩⟩⟩
  have ok2 : k = 2 → (zx_ok lx tp k a b c d ↔ d = 0 ∧ 10 * a + b < tp 0 ∧ c < 7 ∧ zx_free tp (10 * a + b) (lx 1 c) = true) := fun z => ⟨fun ⟨y, h⟩ => ⟨y, by rcases h with h | h | h | h | h | h | h <;> first | (exfalso; omega) | exact h.2⟩, fun y => ⟨y.1, Or.inr (Or.inl ⟨z, y.2⟩)⟩⟩
  have ok3 : k = 3 → (zx_ok lx tp k a b c d ↔ d = 0 ∧ b = 0 ∧ c = 0 ∧ a < lx 0 0) := fun z => ⟨fun ⟨y, h⟩ => ⟨y, by rcases h with h | h | h | h | h | h | h <;> first | (exfalso; omega) | exact h.2⟩, fun y => ⟨y.1, Or.inr (Or.inr (Or.inl ⟨z, y.2⟩))⟩⟩
  have ok4 : k = 4 → (zx_ok lx tp k a b c d ↔ d = 0 ∧ a < 3 ∧ b < 3 ∧ c < 3) := fun z => ⟨fun ⟨y, h⟩ => ⟨y, by rcases h with h | h | h | h | h | h | h <;> first | (exfalso; omega) | exact h.2⟩, fun y => ⟨y.1, Or.inr (Or.inr (Or.inr (Or.inl ⟨z, y.2⟩)))⟩⟩
  have ok5 : k = 5 → (zx_ok lx tp k a b c d ↔ d = 0 ∧ a < lx 0 0 ∧ zx_lies lx tp a (10 * b + c) = true) := fun z => ⟨fun ⟨y, h⟩ => ⟨y, by rcases h with h | h | h | h | h | h | h <;> first | (exfalso; omega) | exact h.2⟩, fun y => ⟨y.1, Or.inr (Or.inr (Or.inr (Or.inr (Or.inl ⟨z, y.2⟩))))⟩⟩
  have ok6 : k = 6 → (zx_ok lx tp k a b c d ↔ d = 0 ∧ c = 0 ∧ zk_A (tp 0) (lx 0 0) (zx_sp lx) (zx_fit lx tp) (zx_fo lx tp) ≤ 10 * a + b) := fun z => ⟨fun ⟨y, h⟩ => ⟨y, by rcases h with h | h | h | h | h | h | h <;> first | (exfalso; omega) | exact h.2⟩, fun y => ⟨y.1, Or.inr (Or.inr (Or.inr (Or.inr (Or.inr (Or.inl ⟨z, y.2⟩)))))⟩⟩
  have ok7 : k = 7 → (zx_ok lx tp k a b c d ↔ d = 0 ∧ 10 * a + b < tp 0 ∧ c < 7 ∧ zx_su lx tp (10 * a + b) 7 = nI c) := fun z => ⟨fun ⟨y, h⟩ => ⟨y, by rcases h with h | h | h | h | h | h | h <;> first | (exfalso; omega) | exact h.2⟩, fun y => ⟨y.1, Or.inr (Or.inr (Or.inr (Or.inr (Or.inr (Or.inr ⟨z, y.2⟩)))))⟩⟩
  have main : ∀ ub : Bool, (ub = true ↔ 10 * a + b < tp 0) → zp_X8_does_65 P (nI s) (nI a) (nI b) (nI c) (nI d) (nI (10 * a + b)) (nI (10 * b + c)) (zb_i ub) I L := by
    intro ub hub
    have ubf : ub = false → ¬ 10 * a + b < tp 0 := fun z y => by rw [hub.mpr y] at z; cases z
    unfold zp_X8_does_65
    rw [ek]
    rintro _ rfl
    refine ⟨fun z => ?_, fun z => ?_, fun z => ?_, fun z => ?_, fun z => ?_, fun z => ?_, fun z => ?_, fun n1 n2 n3 n4 n5 n6 n7 => f0 ?_⟩
    · have hk1 := kk 1 (by omega) z
      have no : ¬ zx_ok lx tp k a b c d → zp_X8_does_151 P (nI (10 * a + b)) (0 : Int32) I L := fun n => ⟨fun _ => ⟨Or.inl rfl, f0 n⟩, fun y => absurd rfl y⟩
      rw [ok1 hk1] at no g
      refine zb_br (fun y => no (fun h => ubf y h.2.2.1)) (fun y => ⟨fun y2 => no (fun h => y2 (by rw [h.2.1]; rfl)), fun y2 => ⟨fun y3 => no (fun h => dd' y3 h.1), fun y3 => ?_⟩⟩)
      have hu := hub.mp y
      have hsg := hp.2.2.2.2.1 _ hu
      have es : I 15 (19 + (10 * a + b)) = nI (tp (19 + (10 * a + b))) := by
        have := pM.2.2.2.2 _ hu
        rw [Nat.zero_add] at this; exact this
      rw [show (19 : Int32) + nI (10 * a + b) = nI (19 + (10 * a + b)) from nI_add 19 _, zn_cl (n := 19 + (10 * a + b)) (by omega), es]
      refine ⟨vp_in_nI (by omega) (by decide), pk_lt 6 (tp (19 + (10 * a + b))) (fun q => no (fun h => by omega)) (fun q => ⟨fun y => absurd y (by decide), fun _ => ?_⟩)⟩
      refine zs_wearOn hl hp lM (by omega) pM hu (by omega) (fun J hf hJ => ⟨Or.inr rfl, g ⟨dd y3, zn_j (j := 0) (by omega) (by decide) y2, hu, by omega⟩ J L hf (fun _ _ _ _ => rfl) ?_⟩)
      rw [hk1]; exact hJ
    · have hk1 := kk 2 (by omega) z
      have no : ¬ zx_ok lx tp k a b c d → zp_X8_does_208 P (nI c) (nI (10 * a + b)) (0 : Int32) I L := fun n => ⟨fun _ => ⟨Or.inl rfl, f0 n⟩, fun y => absurd rfl y⟩
      rw [ok2 hk1] at no g
      refine zb_br (fun y => no (fun h => ubf y h.2.1)) (fun y => pk_lt 6 c (fun q => no (fun h => by omega)) (fun q => ⟨fun y3 => no (fun h => dd' y3 h.1), fun y3 => ?_⟩))
      refine zs_isInGaps hl hp lM pM (by omega) (by omega) (zb_br (fun r => no (fun h => by rw [r] at h; exact Bool.noConfusion h.2.2.2)) (fun r => ⟨fun y => absurd y (by decide), fun _ => ?_⟩))
      have hpo := zx_put_OK hl hp (show c < 7 by omega) r
      refine zs_carveOn hl hp lM (by omega) pM (by omega) hpo.2.2.2 (fun J hf hJ => ⟨Or.inr rfl, g ⟨dd y3, hub.mp y, by omega, r⟩ J L hf (fun _ _ _ _ => rfl) ?_⟩)
      rw [hk1]; exact hJ
    · have hk1 := kk 3 (by omega) z
      have no : ¬ zx_ok lx tp k a b c d → zp_X8_does_257 P (nI a) (0 : Int32) I L := fun n => ⟨pk_in 1 43 (by decide), fun _ => ⟨pk_in 1 43 (by decide), fun I2 e2 => ⟨Or.inl rfl, f n I2 L (fun k j hk => by rw [e2, zu_k hk]) (fun _ _ _ _ => rfl)⟩⟩, fun y => absurd rfl y⟩
      rw [ok3 hk1] at no g
      rw [e5]
      refine pk_le (lx 0 0) a (fun q => no (fun h => by omega)) (fun q => ⟨fun y => no (fun h => y (by rw [h.2.1]; rfl)), fun y => ⟨fun y2 => no (fun h => y2 (by rw [h.2.2.1]; rfl)), fun y2 => ⟨fun y3 => no (fun h => dd' y3 h.1), fun y3 => ?_⟩⟩⟩)
      refine ⟨pk_in 1 43 (by decide), fun n => absurd n (by decide), fun _ => ⟨pk_in 1 43 (by decide), ?_⟩⟩
      have hp2 := zx_pow_lt (w := a) (by omega)
      have eb : I 15 (1 : Int32).toNatClampNeg = nI (tp 1) := pM.2.1
      rw [eb, zx_two_pow (by omega), zx_xor hp.2.1 hp2]
      rintro _ rfl
      refine ⟨Or.inr rfl, g ⟨dd y3, zn_j (j := 0) (by omega) (by decide) y, zn_j (j := 0) (by omega) (by decide) y2, q⟩ _ L (fun k j hk => zu_k hk) (fun _ _ _ _ => rfl) ?_⟩
      rw [hk1]; exact zx_set_Mk (i := 1) pM (by omega)
    · have hk1 := kk 4 (by omega) z
      have no : ¬ zx_ok lx tp k a b c d → zp_X8_does_309 P (nI a) (nI b) (nI c) (0 : Int32) I L := fun n => ⟨fun _ => ⟨Or.inl rfl, f0 n⟩, fun y => absurd rfl y⟩
      rw [ok4 hk1] at no g
      refine pk_le 3 a (fun q => no (fun h => by omega)) (fun q => pk_le 3 b (fun q2 => no (fun h => by omega)) (fun q2 => pk_le 3 c (fun q3 => no (fun h => by omega)) (fun q3 => ⟨fun y3 => no (fun h => dd' y3 h.1), fun y3 => ?_⟩)))
      refine ⟨fun n => absurd n (by decide), fun _ => ?_⟩
      rw [show ((2 : Int32) + ((3 : Int32) * nI a)) + nI b = nI (2 + (3 * a + b)) by rw [show (3 : Int32) * nI a = nI (3 * a) from pk_mul 3 a, show (2 : Int32) + nI (3 * a) = nI (2 + 3 * a) from nI_add 2 _, nI_add, Nat.add_assoc], zn_cl (n := 2 + (3 * a + b)) (by omega)]
      refine ⟨vp_in_nI (by omega) (by decide), ?_⟩
      rintro _ rfl
      refine ⟨Or.inr rfl, g ⟨dd y3, q, q2, q3⟩ _ L (fun k j hk => zu_k hk) (fun _ _ _ _ => rfl) ?_⟩
      rw [hk1]; exact zx_set_Mk pM (by omega)
    · have hk1 := kk 5 (by omega) z
      rw [ok5 hk1] at f0 g
      rw [e5, e0]
      refine pk_le (lx 0 0) a (fun q => f0 (fun h => by omega)) (fun q => ⟨pk_in 0 43 (by decide), pk_le (tp 0) (10 * b + c) (fun q2 => f0 (fun h => ?_)) (fun q2 => ⟨fun y3 => f0 (fun h => dd' y3 h.1), fun y3 => ?_⟩)⟩)
      · have h1 := zx_lies_le hl hp q h.2.2
        have h2 := (zx_sp_bd hl q).1
        omega
      · refine zs_wordLies hl hp lM pM q (by omega) (zb_br (fun r => f0 (fun h => by rw [r] at h; exact Bool.noConfusion h.2.2)) (fun r => g ⟨dd y3, q, r⟩ I L (fun _ _ _ => rfl) (fun _ _ _ _ => rfl) ?_))
        rw [hk1]; exact pM
    · have hk1 := kk 6 (by omega) z
      rw [ok6 hk1] at f0 g f
      refine ⟨fun y => f0 (fun h => y (by rw [h.2.1]; rfl)), fun y => ⟨fun y3 => f0 (fun h => dd' y3 h.1), fun y3 => ?_⟩⟩
      have hA := zk_A_bd hl hp (op := zx_fit lx tp) (fo := zx_fo lx tp)
      refine zs_all hl hp lM pM hk (fun M fM => ?_)
      rw [nI_l (by omega)]
      refine ⟨fun y2 => f (fun h => ?_) I M (fun _ _ _ => rfl) (fun k j h1 _ => fM k j h1), fun y2 => g ⟨dd y3, zn_j (j := 0) (by omega) (by decide) y, ?_⟩ I M (fun _ _ _ => rfl) (fun k j h1 _ => fM k j h1) ?_⟩
      · have := (pk_lLT (by omega) (by omega)).mp y2
        omega
      · rw [pk_lLT (by omega) (by omega)] at y2
        omega
      · rw [hk1]; exact pM
    · have hk1 := kk 7 (by omega) z
      rw [ok7 hk1] at f0 g f
      refine zb_br (fun y => f0 (fun h => ubf y h.2.1)) (fun y => pk_lt 6 c (fun q => f0 (fun h => by omega)) (fun q => ⟨fun y3 => f0 (fun h => dd' y3 h.1), fun y3 => ?_⟩))
      refine zs_sureAt hl hp lM pM hk (hub.mp y) (fun M fM => ⟨fun r => f (fun h => r h.2.2.2) I M (fun _ _ _ => rfl) fM, fun r => g ⟨dd y3, hub.mp y, by omega, r⟩ I M (fun _ _ _ => rfl) fM ?_⟩)
      rw [hk1]; exact pM
    · rintro ⟨-, ⟨h, -⟩ | ⟨h, -⟩ | ⟨h, -⟩ | ⟨h, -⟩ | ⟨h, -⟩ | ⟨h, -⟩ | ⟨h, -⟩⟩
      · exact n1 (by rw [h]; rfl)
      · exact n2 (by rw [h]; rfl)
      · exact n3 (by rw [h]; rfl)
      · exact n4 (by rw [h]; rfl)
      · exact n5 (by rw [h]; rfl)
      · exact n6 (by rw [h]; rfl)
      · exact n7 (by rw [h]; rfl)
  exact pk_le (tp 0) (10 * a + b) (fun q => main false ⟨fun z => Bool.noConfusion z, fun z => by omega⟩) (fun q => main true ⟨fun _ => q, fun _ => rfl⟩)
