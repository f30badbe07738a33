/-! the reference: what was seen, the table by weight -/
def zx_seenM (I : zz_I) (n : Nat) (sw su si : Nat → Nat) : Prop := n ≤ 6 ∧ I 0 24 = nI n ∧ ∀ j, j < n → sw j < 8 ∧ su j < 24 ∧ si j < 2 ∧ I 19 j = nI (sw j) ∧ I 20 j = nI (su j) ∧ I 21 j = nI (si j)
def zx_here (sw su : Nat → Nat) (u w j : Nat) : Bool := decide (sw j = w) && decide (su j = u)
def zx_psd (lx : Nat → Nat → Nat) (pg : Nat → Nat) (sw su : Nat → Nat) (u w j : Nat) : Bool := decide (u ≤ su j) && (decide (su j ≤ u + zx_sp lx w) || decide (u + zx_sp lx w = pg 0)) && !zx_here sw su u w j
def zx_ag1 (lx : Nat → Nat → Nat) (pg : Nat → Nat) (sw su si : Nat → Nat) (u w j : Nat) : Bool := if si j = 1 then !zx_psd lx pg sw su u w j else !zx_here sw su u w j
def zx_agr (lx : Nat → Nat → Nat) (pg : Nat → Nat) (n : Nat) (sw su si : Nat → Nat) (u w : Nat) : Bool := zt_all n (zx_ag1 lx pg sw su si u w)
def zx_os (lx : Nat → Nat → Nat) (pg : Nat → Nat) (b : Bool) (n : Nat) (sw su si : Nat → Nat) (u w : Nat) : Bool := zx_fit lx pg u w && (!b || zx_agr lx pg n sw su si u w)
def zx_mm (I : zz_I) (lx : Nat → Nat → Nat) (pg : Nat → Nat) (n : Nat) (sw su si : Nat → Nat) : Prop := zx_lexM 5 2 I lx ∧ zx_pgM 14 0 I lx pg ∧ (∀ j, j < 8 → ∃ c : Nat, c < 3 ∧ I 5 j = nI c) ∧ zx_seenM I n sw su si
theorem zx_mm_fr {I J : zz_I} {lx : Nat → Nat → Nat} {pg : Nat → Nat} {n : Nat} {sw su si : Nat → Nat} (h : ∀ k j, k ≠ 25 → ¬ (k = 0 ∧ (j = 0 ∨ j = 33 ∨ j = 34)) → J k j = I k j) (hm : zx_mm I lx pg n sw su si) : zx_mm J lx pg n sw su si ∧ zx_g J 14 lx pg = zx_g I 14 lx pg := by
  obtain ⟨lM, pM, hk, hs⟩ := hm
  have m : ∀ k, k ≠ 25 → k ≠ 0 → J k = I k := fun k h2 h3 => funext fun j => h k j h2 (fun q => h3 q.1)
  have m0 : ∀ j, j ≠ 0 → j ≠ 33 → j ≠ 34 → J 0 j = I 0 j := fun j h1 h2 h3 => h 0 j (by omega) (by omega)
  refine ⟨⟨?_, ?_, ?_, ?_⟩, ?_⟩
  · unfold zx_lexM; rw [m0 5 (by omega) (by omega) (by omega), m 2 (by omega) (by omega), m (2 + 1) (by omega) (by omega), m (2 + 2) (by omega) (by omega), m (2 + 3) (by omega) (by omega), m (2 + 4) (by omega) (by omega)]; exact lM
  · unfold zx_pgM; rw [m 14 (by omega) (by omega)]; exact pM
  · rw [m 5 (by omega) (by omega)]; exact hk
  · unfold zx_seenM; rw [m0 24 (by omega) (by omega) (by omega), m 19 (by omega) (by omega), m 20 (by omega) (by omega), m 21 (by omega) (by omega)]; exact hs
  · funext a w
    unfold zx_g
    rw [m 14 (by omega) (by omega), m 5 (by omega) (by omega), m 6 (by omega) (by omega)]
theorem zs_agrees {I : zz_I} {L : zz_L} {lx : Nat → Nat → Nat} {pg : Nat → Nat} {n : Nat} {sw su si : Nat → Nat} {u w : Nat} {P : Int32 → Prop} (hl : zx_lexOK lx) (hp : zx_pgOK lx pg) (hm : zx_mm I lx pg n sw su si) (hw : w < lx 0 0) (hu : u < 2 ^ 20) (h : P (zb_i (zx_agr lx pg n sw su si u w))) : zp_X8_agrees 14 (nI w) (nI u) P I L := by
  obtain ⟨lM, pM, hk, hn6, e24, hj⟩ := hm
  have h8 := hl.1
  have h24 := hp.1
  have hsp := zx_sp_bd hl hw
  have e0 : I 14 (0 : Int32).toNatClampNeg = nI (pg 0) := pM.1
  refine zs_unitsOf hl lM hw ?_
  rw [nI_add]
  rintro _ rfl
  refine ⟨fun y5 y6 => ∃ i : Nat, i ≤ n ∧ y6 = nI i ∧ y5 = zb_i (zt_all i (zx_ag1 lx pg sw su si u w)), fun _ y6 => 7 - y6.toNatClampNeg, ⟨0, by omega, rfl, rfl⟩, ?_⟩
  rintro y5 y6 ⟨i, hi, rfl, rfl⟩
  unfold zp_X8_agrees_15b
  dsimp only
  rw [zn_cl (n := i) (by omega)]
  refine pk_le n i (fun c => ?_) (fun c => ⟨vp_in_nI (by omega) (by decide), ?_⟩) (hx := e24)
  · have : i = n := by omega
    subst this
    exact ⟨zb_bool _, h⟩
  obtain ⟨b1, b2, b3, e19, e20, e21⟩ := hj i c
  have nx : ∀ b : Bool, b = (zt_all i (zx_ag1 lx pg sw su si u w) && zx_ag1 lx pg sw su si u w i) → ∀ v132 : Int32, v132 = nI i + (1 : Int32) → (∃ i2 : Nat, i2 ≤ n ∧ v132 = nI i2 ∧ zb_i b = zb_i (zt_all i2 (zx_ag1 lx pg sw su si u w))) ∧ 7 - v132.toNatClampNeg < 7 - i := by
    rintro b eb _ rfl
    exact ⟨⟨i + 1, by omega, nI_1 i, by rw [eb]; rfl⟩, zz_down2 (n := 7) (by omega) (by omega)⟩
  have fin : ∀ hb pb : Bool, zx_ag1 lx pg sw su si u w i = (if si i = 1 then !pb else !hb) → zp_X8_agrees_94 (fun z5 z6 => (∃ i2 : Nat, i2 ≤ n ∧ z6 = nI i2 ∧ z5 = zb_i (zt_all i2 (zx_ag1 lx pg sw su si u w))) ∧ 7 - z6.toNatClampNeg < 7 - i) P 14 (nI w) (nI u) (nI (u + zx_sp lx w)) (zb_i (zt_all i (zx_ag1 lx pg sw su si u w))) (nI i) (zb_i hb) (zb_i pb) I L := by
    intro hb pb ea
    unfold zp_X8_agrees_94
    rw [zn_cl (n := i) (by omega), e21]
    refine zb_br (fun q => nx false (by rw [q]; rfl)) (fun q => ⟨vp_in_nI (by omega) (by decide), fun q2 => ?_, fun q2 => ?_⟩)
    · have s1 : si i ≠ 1 := fun z => q2 (by rw [z]; rfl)
      rw [if_neg s1] at ea
      exact zb_rb (fun q3 => nx false (by rw [q, ea, q3]; rfl)) (fun q3 => nx true (by rw [q, ea, q3]; rfl))
    · have s1 : si i = 1 := zn_j (j := 1) (by omega) (by decide) q2
      rw [if_pos s1] at ea
      exact zb_rb (fun q3 => nx false (by rw [q, ea, q3]; rfl)) (fun q3 => nx true (by rw [q, ea, q3]; rfl))
  have mid : ∀ hb : Bool, zx_here sw su u w i = hb → zp_X8_agrees_51 (fun z5 z6 => (∃ i2 : Nat, i2 ≤ n ∧ z6 = nI i2 ∧ z5 = zb_i (zt_all i2 (zx_ag1 lx pg sw su si u w))) ∧ 7 - z6.toNatClampNeg < 7 - i) P 14 (nI w) (nI u) (nI (u + zx_sp lx w)) (zb_i (zt_all i (zx_ag1 lx pg sw su si u w))) (nI i) (zb_i hb) I L := by
    intro hb eh
    have p84 : u ≤ su i → (su i ≤ u + zx_sp lx w ∨ u + zx_sp lx w = pg 0) → zp_X8_agrees_84 (fun z5 z6 => (∃ i2 : Nat, i2 ≤ n ∧ z6 = nI i2 ∧ z5 = zb_i (zt_all i2 (zx_ag1 lx pg sw su si u w))) ∧ 7 - z6.toNatClampNeg < 7 - i) P 14 (nI w) (nI u) (nI (u + zx_sp lx w)) (zb_i (zt_all i (zx_ag1 lx pg sw su si u w))) (nI i) (zb_i hb) I L := by
      intro c1 c2
      have ep : zx_psd lx pg sw su u w i = !hb := by
        unfold zx_psd
        rw [eh, decide_eq_true c1]
        have : (decide (su i ≤ u + zx_sp lx w) || decide (u + zx_sp lx w = pg 0)) = true := by
          rcases c2 with c2 | c2
          · rw [decide_eq_true c2]; rfl
          · rw [decide_eq_true c2, Bool.or_true]
        rw [this]; rfl
      unfold zp_X8_agrees_84
      have ea : zx_ag1 lx pg sw su si u w i = (if si i = 1 then !(!hb) else !hb) := by unfold zx_ag1; rw [ep, eh]
      refine zb_rb (fun q => ?_) (fun q => ?_)
      · subst q; exact fin true false ea
      · subst q; exact fin false true ea
    have p94 : ¬ (u ≤ su i ∧ (su i ≤ u + zx_sp lx w ∨ u + zx_sp lx w = pg 0)) → zp_X8_agrees_94 (fun z5 z6 => (∃ i2 : Nat, i2 ≤ n ∧ z6 = nI i2 ∧ z5 = zb_i (zt_all i2 (zx_ag1 lx pg sw su si u w))) ∧ 7 - z6.toNatClampNeg < 7 - i) P 14 (nI w) (nI u) (nI (u + zx_sp lx w)) (zb_i (zt_all i (zx_ag1 lx pg sw su si u w))) (nI i) (zb_i hb) (0 : Int32) I L := by
      intro c1
      have ep : zx_psd lx pg sw su u w i = false := by
        unfold zx_psd
        by_cases z1 : u ≤ su i
        · have z2 : ¬ su i ≤ u + zx_sp lx w := fun z => c1 ⟨z1, Or.inl z⟩
          have z3 : ¬ u + zx_sp lx w = pg 0 := fun z => c1 ⟨z1, Or.inr z⟩
          rw [decide_eq_false z2, decide_eq_false z3]; simp
        · rw [decide_eq_false z1]; rfl
      exact fin hb false (by unfold zx_ag1; rw [ep, eh])
    unfold zp_X8_agrees_51
    rw [zn_cl (n := i) (by omega), e20, e0]
    refine ⟨vp_in_nI (by omega) (by decide), ?_⟩
    refine pk_lt (su i) u (fun c1 => p94 (by omega)) (fun c1 => ⟨vp_in_nI (by omega) (by decide), ?_⟩)
    refine pk_le (su i) (u + zx_sp lx w) (fun c2 => p84 c1 (Or.inl c2)) (fun c2 => ⟨pk_in 0 43 (by decide), fun c3 => ?_, fun c3 => ?_⟩)
    · have : u + zx_sp lx w ≠ pg 0 := fun z => c3 (by rw [z])
      exact p94 (by omega)
    · exact p84 c1 (Or.inr (zn_j (by omega) (by omega) c3))
  rw [e19, e20]
  refine ⟨fun q => mid false ?_, fun q => ⟨vp_in_nI (by omega) (by decide), fun q2 => mid false ?_, fun q2 => mid true ?_⟩⟩
  · have : ¬ sw i = w := fun z => q (by rw [z])
    unfold zx_here; rw [decide_eq_false this]; rfl
  · have : ¬ su i = u := fun z => q2 (by rw [z])
    unfold zx_here; rw [decide_eq_false this, Bool.and_false]
  · have z1 : sw i = w := zn_j (by omega) (by omega) q
    have z2 : su i = u := zn_j (by omega) (by omega) q2
    unfold zx_here; rw [decide_eq_true z1, decide_eq_true z2]; rfl
theorem zs_fitsS {A B : Prop} {I : zz_I} {L : zz_L} {lx : Nat → Nat → Nat} {pg : Nat → Nat} {b : Bool} {n : Nat} {sw su si : Nat → Nat} {u w a : Nat} (hl : zx_lexOK lx) (hp : zx_pgOK lx pg) (hm : zx_mm I lx pg n sw su si) (hw : w < lx 0 0) (hu : u < 2 ^ 18) (ha : a ≤ 8) (f : (zx_os lx pg b n sw su si u w && zx_g I 14 lx pg a w) = false → A) (g : (zx_os lx pg b n sw su si u w && zx_g I 14 lx pg a w) = true → B) : zp_X8_fits 14 (nI w) (nI u) (nI a) (fun r => (r = 0 → A) ∧ (¬ r = 0 → (zb_i b = 0 → B) ∧ (¬ zb_i b = 0 → zp_X8_agrees 14 (nI w) (nI u) (fun r2 => (r2 = 0 → A) ∧ (¬ r2 = 0 → B)) I L))) I L := by
  unfold zx_os at f g
  refine zs_fits hl hp hm.1 hm.2.1 hm.2.2.1 hw hu ha (zb_br (fun q => f ?_) (fun q => ?_))
  · rw [Bool.and_comm (zx_fit lx pg u w), Bool.and_assoc, q, Bool.and_false]
  · rw [Bool.and_eq_true] at q
    rw [q.1, q.2, Bool.true_and, Bool.and_true] at f g
    refine zb_br (fun q2 => ?_) (fun q2 => ?_)
    · subst q2; exact g rfl
    · subst q2
      exact zs_agrees hl hp hm hw (by omega) (zb_br f g)
