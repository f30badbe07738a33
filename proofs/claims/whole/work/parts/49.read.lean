/-- behind a question nothing has changed that is kept -/
theorem zx_R_q {IC IC2 IM K : zz_I} {LC LC2 LM LM2 : zz_L} (hR : zx_R IC LC IM LM) (hC : ∀ k j, (k < 25 ∨ (28 < k ∧ k < 37) ∨ 47 < k) → IC2 k j = IC k j) (h45 : IC2 45 0 = 0 ∨ IC2 45 0 = 14016) (hM : ∀ k j, k ≠ 15 → k ≠ 25 → ¬ (k = 0 ∧ (j = 0 ∨ j = 33 ∨ j = 34)) → K k j = IM k j) (hL : LC2 0 12 = LM2 0 28) : zx_R IC2 LC2 K LM2 := by
  have c : ∀ k, (k < 25 ∨ (28 < k ∧ k < 37) ∨ 47 < k) → IC2 k = IC k := fun k hk => funext fun j => hC k j hk
  have m : ∀ k, k ≠ 15 → k ≠ 25 → k ≠ 0 → K k = IM k := fun k h1 h2 h3 => funext fun j => hM k j h1 h2 (fun q => h3 q.1)
  have m0 : ∀ j, j ≠ 0 → j ≠ 33 → j ≠ 34 → K 0 j = IM 0 j := fun j h1 h2 h3 => hM 0 j (by omega) (by omega) (by omega)
  obtain ⟨lx, pg, ⟨hl, hp, lC, lM, pC, pM⟩, ⟨d, nx, pgs, hh⟩, h1, h2, ⟨n, tx, ht⟩, ⟨q, sw, su, si, hs⟩, hz⟩ := hR
  refine ⟨lx, pg, ⟨hl, hp, ?_, ?_, ?_, ?_⟩, ⟨d, nx, pgs, ?_⟩, ?_, ?_, ⟨n, tx, ?_⟩, ⟨q, sw, su, si, ?_⟩, ?_⟩
  · unfold zx_lexC; rw [c 14 (by omega), c (14 + 1) (by omega), c (14 + 2) (by omega), c (14 + 3) (by omega), c (14 + 4) (by omega), c (14 + 5) (by omega), c (14 + 6) (by omega)]; exact lC
  · unfold zx_lexM; rw [m0 5 (by omega) (by omega) (by omega), m 2 (by omega) (by omega) (by omega), m (2 + 1) (by omega) (by omega) (by omega), m (2 + 2) (by omega) (by omega) (by omega), m (2 + 3) (by omega) (by omega) (by omega), m (2 + 4) (by omega) (by omega) (by omega)]; exact lM
  · unfold zx_pgC; rw [c 21 (by omega), c (21 + 1) (by omega), c (21 + 2) (by omega), c (21 + 3) (by omega)]; exact pC
  · unfold zx_pgM; rw [m 14 (by omega) (by omega) (by omega)]; exact pM
  · unfold zx_hist zx_pgM; rw [c 29 (by omega), c 30 (by omega), c 31 (by omega), c 32 (by omega), m0 21 (by omega) (by omega) (by omega), m 16 (by omega) (by omega) (by omega)]; exact hh
  · exact zx_slot_congr h1 (hC 0 10 (by omega)) (c 48 (by omega)) (c 49 (by omega)) (c 50 (by omega)) (c 51 (by omega)) (hM 18 0 (by omega) (by omega) (by omega)) (m 17 (by omega) (by omega) (by omega))
  · exact zx_slot_congr h2 (hC 0 11 (by omega)) (c 52 (by omega)) (c 53 (by omega)) (c 54 (by omega)) (c 55 (by omega)) (hM 18 1 (by omega) (by omega) (by omega)) (m 17 (by omega) (by omega) (by omega))
  · unfold zx_text; rw [hC 1 1 (by omega), c 2 (by omega), m0 2 (by omega) (by omega) (by omega), m 1 (by omega) (by omega) (by omega)]; exact ht
  · unfold zx_seen; rw [hC 33 3 (by omega), c 34 (by omega), c 35 (by omega), c 36 (by omega), m0 24 (by omega) (by omega) (by omega), m 19 (by omega) (by omega) (by omega), m 20 (by omega) (by omega) (by omega), m 21 (by omega) (by omega) (by omega)]; exact hs
  · obtain ⟨z1, z2, z3, z4, z5⟩ := hz
    refine ⟨hL, (hC 4 6 (by omega)).trans z2, h45, ?_, ?_⟩
    · rw [m 5 (by omega) (by omega) (by omega)]; exact z4
    · rw [m 10 (by omega) (by omega) (by omega)]; exact z5
theorem zo_14_ok : zo_14 zx_R := by
  intro IC LC IM LM hR
  obtain ⟨lx, pg, ⟨hl, hp, lC, lM, pC, pM⟩, -, -, -, -, -, ⟨z1, z2, z3, z4, z5⟩⟩ := id hR
  refine zs_countAll (by omega) hl hp lC pC (fun J M om' um hst => ?_)
  rintro _ rfl
  refine zs_all (lx := lx) (pg := pg) hl hp lM pM z4 (fun M2 hf2 => ⟨rfl, ?_⟩)
  obtain ⟨hf, hfL, -⟩ := hst
  refine zx_R_q hR (fun k j hk => hf k j (by omega)) (by rw [hf 45 0 (by omega)]; exact z3) (fun k j h1 h2 h3 => zu_k2 (by omega)) ?_
  rw [hfL 0 12 (by omega), hf2 0 28 (by omega)]; exact z1
