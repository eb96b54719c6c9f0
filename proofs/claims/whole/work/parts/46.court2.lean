/-! ===== court ===== -/
theorem RB_fr {w : List (Nat × Nat)} {C C' : ip_St} (hC : ip_Fr w C C') (u : [14, 15, 16, 21, 22, 23].all (unt w) = true) (h : RB C) : RB C' := by
  obtain ⟨u0, u1, u2, u3, u4, u5⟩ := all6 u
  intro j hj
  rcases (show j = 0 ∨ j = 1 ∨ j = 2 by omega) with rfl | rfl | rfl
  · rw [fr1 (c := 14 + 0) hC u0, fr1 (c := 21 + 0) hC u3]; exact h 0 hj
  · rw [fr1 (c := 14 + 1) hC u1, fr1 (c := 21 + 1) hC u4]; exact h 1 hj
  · rw [fr1 (c := 14 + 2) hC u2, fr1 (c := 21 + 2) hC u5]; exact h 2 hj
theorem RB_cg {C C' : ip_St} (h1 : C'.1 14 = C.1 14) (h2 : C'.1 15 = C.1 15) (h3 : C'.1 16 = C.1 16) (h4 : C'.1 21 = C.1 21) (h5 : C'.1 22 = C.1 22) (h6 : C'.1 23 = C.1 23) (h : RB C) : RB C' := by
  intro j hj
  rcases (show j = 0 ∨ j = 1 ∨ j = 2 by omega) with rfl | rfl | rfl
  · have := h 0 hj
    rw [← h1, ← h4] at this
    exact this
  · have := h 1 hj
    rw [← h2, ← h5] at this
    exact this
  · have := h 2 hj
    rw [← h3, ← h6] at this
    exact this
theorem op_court {N : Nat} {C M : ip_St} (h : Rel2 N C M) (hB : RB C) : ∃ r C' M', f_A_court C = some (r, C') ∧ f_M_court M = some (r, M') ∧ Rel2 (N + 1) C' M' ∧ RB C' := by
  obtain ⟨hT, ⟨len, l1, l2, l3, l4⟩, -, -⟩ := id h
  obtain ⟨r, C1, M1, g1, g2, g3, g4⟩ := scanCourt_eq (P := fun i => M.1 32 i) l1 l2 l3 l4 (fun _ _ => rfl)
  have fC := F_A_scanCourt g1
  have fM := F_M_faultOf g2
  have h1 : Rel2 N C1 M1 := (h.scrC (ip_Fr.mono (by decide) fC)).scrM (ip_Fr.mono (by decide) fM)
  have hB1 : RB C1 := RB_fr fC rfl hB
  have h1u : Rel2 (N + 1) C1 M1 := h1.up (by omega)
  have c01 : C1.1 0 1 = nI len := by rw [(fC 0 1 rfl).1]; exact l2
  have m02 : M1.1 30 2 = nI len := by rw [(fM 30 2 rfl).1]; exact l3
  have pc1 : ∀ i, i < len → C1.1 1 i = M.1 32 i := fun i hi => by rw [(fC 1 i rfl).1]; exact l4 i hi
  have pm1 : ∀ i, i < len → M1.1 32 i = M.1 32 i := fun i hi => (fM 32 i rfl).1
  unfold f_A_court f_M_court
  rw [g1, Option.bind_some, g2, Option.bind_some, c01, m02]
  by_cases hr : r < len
  · have hlt : nI r < nI len := (nI_ltI (by omega) (by omega)).mpr hr
    rw [if_pos hlt, if_pos hlt]
    exact ⟨_, _, _, rfl, rfl, h1u, hB1⟩
  · have hlt : ¬ nI r < nI len := fun z => hr ((nI_ltI (by omega) (by omega)).mp z)
    rw [if_neg hlt, if_neg hlt]
    rcases g4 with ⟨z1, z2⟩ | ⟨jn, j1, j2, j3, j4, j5, j6, j7⟩
    · rw [z1, z2, if_pos rfl, if_pos rfl]
      exact ⟨_, _, _, rfl, rfl, h1u, hB1⟩
    · have hLR := j7 (by omega)
      obtain ⟨a, l, l0, q1, q2, q3, q4, q5, q6, q7, q8⟩ := id hLR
      obtain ⟨w1, w2⟩ := whole_eq q4 q7 q8
      rw [j3, j4, if_neg (nI_ne0 (by omega) (by omega)), if_neg (nI_n1 (by omega)).1, ← w1]
      cases hw : f_R_isWhole C1 with
      | false =>
        rw [if_neg (by decide), if_neg (by decide)]
        exact ⟨_, _, _, rfl, rfl, h1u, hB1⟩
      | true =>
        have h29 := w2 hw
        obtain ⟨hT1, -, hX1, J1, cr, hJ1, hj1, hn1, d4, d5, d6, d7⟩ := id h1
        obtain ⟨lf, lrw⟩ := LawF_of (t := fun q => M.1 32 (8 * jn + q)) l1 hLR h29 (fun _ _ => rfl)
        have e8 : nI (8 * jn) / 8 = nI jn := by
          rw [show (8 : Int32) = nI 8 from rfl, pk_div (by omega) (by omega) (by omega)]
          congr 1
          omega
        rw [if_pos rfl, if_pos rfl, e8]
        obtain ⟨C3, M3, q, q', r1, r2, r3, r4, r5, r6, r7, r8⟩ := judges_loop (P := fun i => M.1 32 i) l1 j2 j5 j6 jn 0 ip_FU ip_FU (f_D_open_12 (nI jn) C1) (ip_upI M1 30 18 (nI jn)) (by omega) (by rw [FU_eq]; omega) (by rw [FU_eq]; omega) j3 (upI_same _ _ _ _) pc1 pm1 (fun j hj => absurd hj (Nat.not_lt_zero j)) (RB_cg (C := C1) rfl rfl rfl rfl rfl rfl hB1)
        rw [show nI 0 = (0 : Int32) from rfl] at r1 r2
        have c03 : C3.1 0 3 = nI jn := by rw [r7 0 3 (by omega)]; exact j3
        have c29 : C3.1 2 9 = 0 := by rw [r7 2 9 (by omega)]; exact h29
        have m18 : M3.1 30 18 = nI jn := by rw [r8 30 18 (by omega), upI_same]
        have m06 : M3.1 30 6 = nI (8 * jn) := by rw [r8 30 6 (by omega), upI_ne _ _ (by omega)]; exact j4
        have hH : C3.2 7 0 ||| C3.2 8 0 = C1.2 7 0 ||| C1.2 8 0 := by rw [r5]; rfl
        have hT3 : RT M3 := by
          intro k hk f hf
          rw [r6]
          exact hT1 k hk f hf
        obtain ⟨M4, y1, y2, y3, y4, y5⟩ := layLaw_eq (P := fun i => M.1 32 i) l1 j5 lrw hT3 (by rw [r8 30 2 (by omega), upI_ne _ _ (by omega)]; exact m02) (fun i hi => by rw [r8 32 i (by omega), upI_ne _ _ (by omega)]; exact pm1 i hi)
        have fY := F_M_layLaw y1
        have m48 : M4.1 30 18 = nI jn := by rw [(fY 30 18 rfl).1]; exact m18
        have jle : nI jn ≤ nI jn := (nI_leI (by omega) (by omega)).mpr (Nat.le_refl _)
        rw [r1, f_A_court_44, c03, if_pos jle, result_eq c29, Option.bind_some, r2, f_M_court_42, m18, if_pos jle, m06, y1, Option.bind_some, hH]
        refine ⟨nI jn, _, _, congrArg some (Prod.ext c03 rfl), congrArg some (Prod.ext m48 rfl), ?_, ?_⟩
        · have hcl : ∀ a b, ¬ (14 ≤ a ∧ a ≤ 16) → C3.1 a b = (f_D_open_12 (nI jn) C1).1 a b := r7
          refine ⟨?_, ⟨0, by omega, rfl, y4, fun k hk => absurd hk (Nat.not_lt_zero k)⟩, ?_, jn, cr + 1, j2, m48, ⟨?_, ?_, ?_, ?_, fun _ => ?_, ?_⟩, by omega, ?_, ?_, Or.inr ⟨rfl, ?_⟩⟩
          · intro k hk f hf
            show M4.2 31 (6 * k + f) = _
            rw [(fY 31 _ rfl).2]
            exact hT3 k hk f hf
          · have a26 : C3.1 26 = C1.1 26 := funext fun b => by rw [hcl 26 b (by omega)]; rfl
            have b26 : C3.2 26 = C1.2 26 := by rw [r5]; rfl
            unfold RX at hX1 ⊢
            show C3.2 26 3 = 0 ∨ ∃ k, k < 5 ∧ C3.1 26 2 = nI k ∧ C3.1 26 0 = nI (lfN k (C3.2 26 3) (C3.2 26 4)) ∧ C3.1 26 1 = lfF k (C3.2 26 3) (C3.2 26 4)
            rw [a26, b26]
            exact hX1
          · show C3.1 12 1 = nI jn
            rw [hcl 12 1 (by omega)]
            rfl
          · show C3.1 12 3 = 0
            rw [hcl 12 3 (by omega)]
            rfl
          · show C3.1 12 4 = 0
            rw [hcl 12 4 (by omega)]
            rfl
          · intro j hj
            obtain ⟨d, d1, d2, d3, d4⟩ := r3 j hj
            refine ⟨d, d1, d2, ?_, ?_⟩
            · rcases (show j = 0 ∨ j = 1 ∨ j = 2 by omega) with rfl | rfl | rfl
              · exact d3
              · exact d3
              · exact d3
            · have e42 : M4.1 42 = M3.1 42 := funext fun b => (fY 42 b rfl).1
              have e43 : M4.1 43 = M3.1 43 := funext fun b => (fY 43 b rfl).1
              have e44 : M4.1 44 = M3.1 44 := funext fun b => (fY 44 b rfl).1
              unfold jM at d4 ⊢
              rw [← e42, ← e43, ← e44] at d4
              exact d4
          · refine ⟨len - 8 * jn, by omega, y2, y3.symm, ?_⟩
            have k1 : C3.1 3 1 = C1.1 3 1 := by rw [hcl 3 1 (by omega)]; rfl
            have k2 : C3.1 3 2 = C1.1 3 2 := by rw [hcl 3 2 (by omega)]; rfl
            have k3 : C3.1 3 3 = C1.1 3 3 := by rw [hcl 3 3 (by omega)]; rfl
            have k4 : C3.1 3 4 = C1.1 3 4 := by rw [hcl 3 4 (by omega)]; rfl
            have lf2 := LawF_cg (t' := M4.1 41) (fun k hk => y5 k hk) lf
            rw [← k1, ← k2, ← k3, ← k4] at lf2
            exact lf2
          · refine ⟨0, by omega, ?_, rfl, fun i hi => absurd hi (Nat.not_lt_zero i)⟩
            show C3.1 12 6 = 0
            rw [hcl 12 6 (by omega)]
            rfl
          · show C3.1 0 7 + 1 = nI (cr + 1)
            rw [hcl 0 7 (by omega)]
            show C1.1 0 7 + 1 = _
            rw [d5, nI_1]
          · show M4.1 30 21 + 1 = nI (cr + 1)
            rw [(fY 30 21 rfl).1, r8 30 21 (by omega), upI_ne _ _ (by omega), d6, nI_1]
          · show M4.1 30 32 = -1 ∨ ∃ kc, kc < cr + 1 ∧ M4.1 30 32 = nI kc
            rw [(fY 30 32 rfl).1, r8 30 32 (by omega), upI_ne _ _ (by omega)]
            rcases d7 with ⟨-, -, z, -⟩ | ⟨-, z | ⟨kc, z1, z2⟩⟩
            · exact Or.inr ⟨cr, by omega, z⟩
            · exact Or.inl z
            · exact Or.inr ⟨kc, by omega, z2⟩
        · exact RB_cg (C := C3) rfl rfl rfl rfl rfl rfl r4
