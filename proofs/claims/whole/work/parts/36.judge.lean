/-! ===== strike; judge ===== -/
theorem RNow_M {C M M' : ip_St} {J : Nat} {w : List (Nat × Nat)} (hJ : J ≤ 3) (hn : RNow C M J) (h : ip_Fr w M M') (u1 : [42, 43, 44, 49, 41].all (unt w) = true) (u2 : slN w [16, 17, 19, 20, 29] = true) : RNow C M' J := RNow_fr (wc := []) hJ ip_Fr.rf h rfl u1 u2 hn
theorem strike_loop {C : ip_St} {J j : Nat} (h0 : j < J) (hJ : J ≤ 3) {d : JD} (hd : jok d) (hc : jC C (14 + j) d) : ∀ (e f n n' : Nat) (best most : Int32) (M : ip_St), f + e = 6 → e < n → e < n' → RT M → RNow C M J → jM M 42 43 44 j d → ∃ r M', f_A_strike_35 n (14 + j) (wy d) best most (nI f) C = some r ∧ f_M_strikeOf_24 n' (nI j) (wy d) best most (nI f) M = some (r, M') := by
  have hj3 : j < 3 := by omega
  intro e
  induction e with
  | zero =>
    intro f n n' best most M hf hn hn' hT hR hm
    obtain rfl : f = 6 := by omega
    obtain ⟨q, rfl⟩ : ∃ q, n = q + 1 := ⟨n - 1, by omega⟩
    obtain ⟨q', rfl⟩ : ∃ q, n' = q + 1 := ⟨n' - 1, by omega⟩
    rw [f_A_strike_35, if_pos (by decide), f_M_strikeOf_24, if_pos (by decide)]
    exact ⟨best, M, rfl, rfl⟩
  | succ e ih =>
    intro f n n' best most M hf hn hn' hT hR hm
    obtain ⟨q, rfl⟩ : ∃ q, n = q + 1 := ⟨n - 1, by omega⟩
    obtain ⟨q', rfl⟩ : ∃ q, n' = q + 1 := ⟨n' - 1, by omega⟩
    have hf6 : f < 6 := by omega
    have h6 : ¬ (6 : Int32) ≤ nI f := by rw [show (6 : Int32) = nI 6 from rfl, nI_leI (by omega) (by omega)]; omega
    obtain ⟨m, m1, m2, m3, -, -, -, -, l5⟩ := hR.2.2.2.2.1 (show 0 < J by omega)
    obtain ⟨M1, r1⟩ := l5 f hf6 M hT (fun k _ => rfl)
    have r1' : f_M_lawRow (nI m) (nI f) M = some (pin (C.2 17 0) f false, M1) := r1
    have fr := F_M_lawRow r1'
    have pn : f_A_pinned (C.2 17 0) (nI f) 0 = some (pin (C.2 17 0) f false) := pinned_eq _ hf6 false
    have hT1 : RT M1 := RT_fr fr rfl hT
    have hR1 : RNow C M1 J := RNow_M hJ hR fr rfl rfl
    have hm1 : jM M1 42 43 44 j d := by
      unfold jM at hm ⊢
      rw [fr1 (c := 42) fr rfl, fr1 (c := 43) fr rfl, fr1 (c := 44) fr rfl]
      exact hm
    rw [f_A_strike_35, if_neg h6, f_M_strikeOf_24, if_neg h6, pn, Option.bind_some, hc.1, freed_eq hd.1, Option.bind_some, i2, aI_at (n := 6) rfl (by omega), Option.bind_some, hm.1, m2, r1', Option.bind_some, freesRow_eq hd.1, Option.bind_some, ones_eq, Option.bind_some, bitCount_eq, nI_1]
    unfold f_M_strikeOf_77
    rw [nI_1]
    by_cases hle : nI (pc (wy d &&& fre d.1 (pin (C.2 17 0) f false))) ≤ most
    · rw [if_pos hle, if_pos hle, if_pos hle]
      exact ih (f + 1) q q' best most M1 (by omega) (by omega) (by omega) hT1 hR1 hm1
    · rw [if_neg hle, if_neg hle, if_neg hle]
      exact ih (f + 1) q q' _ _ M1 (by omega) (by omega) (by omega) hT1 hR1 hm1
theorem strike_eq {C M : ip_St} {J j : Nat} (hT : RT M) (hJ : J ≤ 3) (hn : RNow C M J) (hj : j < J) {d : JD} (hd : jok d) (hc : jC C (14 + j) d) (hm : jM M 42 43 44 j d) : ∃ r M', f_A_strike (14 + j) C = some r ∧ f_M_strikeOf (nI j) M = some (r, M') := by
  unfold f_A_strike f_M_strikeOf
  rw [worlds_eq hd hc, Option.bind_some, hc.1, freed_eq hd.1, Option.bind_some, waysOf_eq hT (by omega) hd hm, Option.bind_some, freesOf_eq (by omega) hd hm, Option.bind_some, ones_eq, Option.bind_some, bitCount_eq, law_eq hn (by omega)]
  exact strike_loop hj hJ hd hc 6 0 ip_FU ip_FU (-1) _ M rfl (by rw [FU_eq]; omega) (by rw [FU_eq]; omega) hT hn hm
theorem Rel2.view {N : Nat} {C C' M M' : ip_St} (h : Rel2 N C M) (hC : ip_Fr w_A_judge C C') (hX : RX C') (hM : ip_Fr wScrM M M') : Rel2 N C' M' := by
  refine Rel2.scrM ?_ hM
  obtain ⟨t, pg, -, J, cr, c1, c2, c3, c4, c5, c6, c7⟩ := h
  exact ⟨t, RPg_fr hC (ip_Fr.rf (w := [])) rfl rfl rfl rfl pg, hX, J, cr, c1, c2, RNow_fr c1 hC (ip_Fr.rf (w := [])) rfl rfl rfl c3, c4, by rw [(hC 0 7 rfl).1]; exact c5, c6, RIm_fr c1 hC (ip_Fr.rf (w := [])) rfl rfl rfl rfl rfl c7⟩
theorem rng_cs (p : Int32) (a b : Nat) (hab : a ≤ b) (hb : b + 1 < 2 ^ 31) : (∃ j, a ≤ j ∧ j ≤ b ∧ p = nI j ∧ inR p (nI a) (nI b) = true ∧ ¬ p < nI a ∧ ¬ nI (b + 1) ≤ p) ∨ (inR p (nI a) (nI b) = false ∧ (p < nI a ∨ (¬ p < nI a ∧ nI (b + 1) ≤ p))) := by
  by_cases h1 : p < nI a
  · right
    refine ⟨?_, Or.inl h1⟩
    unfold inR
    have : ¬ nI a ≤ p := nle32.mpr h1
    simp [this]
  · rcases pk_ix p hb with h | h | ⟨j, hj, rfl⟩
    · exfalso
      apply h1
      exact (neg_lt h (by omega)).1
    · right
      refine ⟨inR_big h hb _, Or.inr ⟨h1, h⟩⟩
    · left
      have h1' : ¬ j < a := fun z => h1 ((nI_ltI (by omega) (by omega)).mpr z)
      refine ⟨j, by omega, by omega, rfl, ?_, h1, ?_⟩
      · rw [inR_nI (by omega) (by omega) (by omega)]
        have a1 : a ≤ j := by omega
        have a2 : j ≤ b := by omega
        simp [a1, a2]
      · rw [nI_leI (by omega) (by omega)]
        omega
theorem told_eq {b v f : Nat} (hb : b < 64) (hv : v < 64) (hf : f < 6) : f_A_told (nI b) (nI v) (nI f) = kf b v f := by
  unfold f_A_told kf
  by_cases h : b.testBit f = true
  · rw [if_pos ((bit_nI hf hb).mpr h), if_pos h, nI_bit (by omega) (by omega)]
    rfl
  · rw [if_neg (fun z => h ((bit_nI hf hb).mp z)), if_neg h]
theorem six_sub (j f b : Nat) (x : Int32) (hx : x = nI b) : (6 : Int32) * nI j + nI (b + f) - x = nI (6 * j + f) := by
  rw [hx, show (6 : Int32) = nI 6 from rfl, pk_mul, nI_add, pk_sub (by omega)]
  congr 1
  omega
theorem tell77 {N : Nat} {C M : ip_St} (h : Rel2 N C M) {J j : Nat} (hJ : J ≤ 3) (hn : RNow C M J) (hj : j < J) (p : Int32) (h20 : f_M_in p.toInt64 20 25 = false) (h30 : f_M_in p.toInt64 30 35 = false) : ∃ r C' M', f_A_judge_77 (nI j) p (14 + j) C = some (r, C') ∧ f_M_tellJudge (nI j) p M = some (r, M') ∧ RX C' := by
  obtain ⟨hT, -, hX, -⟩ := id h
  obtain ⟨d, d1, d2, d3, d4⟩ := jd_get hn hj
  have hj3 : j < 3 := by omega
  have hl := law_eq hn (by omega)
  unfold f_A_judge_77 f_M_tellJudge
  rw [h20, h30, if_pos rfl, if_pos rfl]
  by_cases e0 : p = 0
  · rw [if_pos e0, if_pos e0, i2, aI_at (n := 6) rfl (by omega), Option.bind_some, d3.1, d4.1]
    exact ⟨_, _, _, rfl, rfl, hX⟩
  rw [if_neg e0, if_neg e0]
  by_cases e1 : p = 1
  · rw [if_pos e1, if_pos e1, worlds_eq d1 d3, Option.bind_some, waysOf_eq hT hj3 d1 d4, Option.bind_some, ones_eq, Option.bind_some, bitCount_eq]
    exact ⟨_, _, _, rfl, rfl, hX⟩
  rw [if_neg e1, if_neg e1]
  by_cases e2 : p = 2
  · rw [if_pos e2, if_pos e2, freeWays_eq d1 d3, Option.bind_some, waysOf_eq hT hj3 d1 d4, Option.bind_some, freesOf_eq hj3 d1 d4, Option.bind_some, ones_eq, Option.bind_some, bitCount_eq, hl]
    exact ⟨_, _, _, rfl, rfl, hX⟩
  rw [if_neg e2, if_neg e2]
  by_cases e3 : p = 3
  · rw [if_pos e3, if_pos e3, verdict_eq d1 d3, Option.bind_some, waysOf_eq hT hj3 d1 d4, Option.bind_some, freesOf_eq hj3 d1 d4, Option.bind_some, hl]
    exact ⟨_, _, _, rfl, rfl, hX⟩
  rw [if_neg e3, if_neg e3]
  obtain ⟨M', v, q4, q5, q6, q7, q8⟩ := leftM hT hJ hn hj d1 d2 d4
  by_cases e4 : p = 4
  · obtain ⟨C', c1, c2, c3, c4⟩ := prospect_eq d1 d2 d3 hX
    rw [if_pos e4, if_pos e4, e4, c1, Option.bind_some, q4, Option.bind_some, c2, hl]
    exact ⟨_, _, _, rfl, rfl, c4⟩
  rw [if_neg e4, if_neg e4]
  by_cases e5 : p = 5
  · obtain ⟨C', c1, c2, c3, c4⟩ := prospect_eq d1 d2 d3 hX
    rw [if_pos e5, if_pos e5, e5, c1, Option.bind_some, q5, Option.bind_some, c3, hl]
    exact ⟨_, _, _, rfl, rfl, c4⟩
  rw [if_neg e5, if_neg e5]
  by_cases e6 : p = 6
  · rw [if_pos e6, if_pos e6, e6, worlds_eq d1 d3, Option.bind_some, d3.1, freed_eq d1.1, Option.bind_some, hl, luck_eq d1.1 _ _ q7 q8, Option.bind_some, q6, Option.bind_some]
    exact ⟨_, _, _, rfl, rfl, hX⟩
  rw [if_neg e6, if_neg e6]
  by_cases e7 : p = 7
  · rw [if_pos e7, if_pos e7, heardMany_eq hj3 d4, Option.bind_some, d3.2.2.2.1, ibc_ck _ d1.2.2.2.1]
    exact ⟨_, _, _, rfl, rfl, hX⟩
  rw [if_neg e7, if_neg e7]
  by_cases e8 : p = 8
  · obtain ⟨r, M8, s1, s2⟩ := strike_eq hT hJ hn hj d1 d3 d4
    rw [if_pos e8, if_pos e8, s1, Option.bind_some, s2, Option.bind_some]
    exact ⟨_, _, _, rfl, rfl, hX⟩
  rw [if_neg e8, if_neg e8]
  obtain ⟨r9, -, k1, k2⟩ := kinds_eq hn hJ hj
  by_cases e9 : p = 9
  · rw [if_pos e9, if_pos e9, k1, Option.bind_some, k2, Option.bind_some]
    exact ⟨_, _, _, rfl, rfl, hX⟩
  rw [if_neg e9, if_neg e9]
  by_cases e10 : p = 10
  · obtain ⟨r, t1, t2⟩ := test_eq hn hJ hj
    rw [k1, Option.bind_some] at t1
    rw [if_pos e10, if_pos e10, k1, Option.bind_some, t1, Option.bind_some, t2, Option.bind_some]
    exact ⟨_, _, _, rfl, rfl, hX⟩
  rw [if_neg e10, if_neg e10]
  exact ⟨_, _, _, rfl, rfl, hX⟩
/-- of a judge that there is: what both tell -/
theorem tell_eq {N : Nat} {C M : ip_St} (h : Rel2 N C M) {J j : Nat} (hJ : J ≤ 3) (hM : M.1 30 18 = nI J) (hn : RNow C M J) (hj : j < J) (p : Int32) : ∃ r C' M', f_A_judge (nI j) p C = some (r, C') ∧ f_M_tellJudge (nI j) p M = some (r, M') ∧ Rel2 N C' M' ∧ ip_Fr w_M_tellJudge M M' ∧ ip_Fr w_A_judge C C' := by
  have hX := h.2.2.1
  have core : ∃ r C' M', f_A_judge (nI j) p C = some (r, C') ∧ f_M_tellJudge (nI j) p M = some (r, M') ∧ RX C' := by
    have hc : C.1 12 1 = nI J := hn.1
    obtain ⟨d, d1, d2, d3, d4⟩ := jd_get hn hj
    have hij : f_A_isJudge (nI j) C = true := by
      rcases judge_cs hJ hc hM (nI j) with ⟨j', -, -, q, -⟩ | ⟨q, -⟩
      · exact q
      · exfalso
        unfold f_A_isJudge at q
        rw [hc, if_neg (nI_pos (by omega)), if_neg (by rw [nI_leI (by omega) (by omega)]; omega)] at q
        cases q
    have i20 := in_R p 20 25 20 25 (by decide) (by decide)
    have i30 := in_R p 30 35 30 35 (by decide) (by decide)
    unfold f_A_judge
    rw [if_pos hij, aA13 j (by omega), Option.bind_some]
    rcases rng_cs p 20 25 (by omega) (by omega) with ⟨q, q1, q2, rfl, q3, q4, q5⟩ | ⟨q3, q4⟩
    · rw [if_neg (show ¬ nI q < 20 from q4), if_neg (show ¬ 26 ≤ nI q from q5)]
      obtain ⟨f, rfl⟩ : ∃ f, q = 20 + f := ⟨q - 20, by omega⟩
      have es : nI (20 + f) - 20 = nI f := by rw [show (20 : Int32) = nI 20 from rfl, pk_sub (by omega)]; congr 1; omega
      rw [es, d3.2.1, d3.2.2.1, told_eq d1.2.1 d1.2.2.1 (by omega)]
      refine ⟨_, _, M, rfl, ?_, hX⟩
      unfold f_M_tellJudge
      rw [i20, q3, if_neg (show ¬ (true = false) by decide), six_sub j f 20 20 rfl, aI_at (n := 18) rfl (by omega), Option.bind_some, d4.2.2.1 f (by omega)]
    · have h49 : (if p < 20 then f_A_judge_49 (nI j) p (14 + j) C else if 26 ≤ p then f_A_judge_49 (nI j) p (14 + j) C else some (f_A_told (C.1 (14 + j) 1) (C.1 (14 + j) 2) (p - 20), C)) = f_A_judge_49 (nI j) p (14 + j) C := by
        rcases q4 with q4 | ⟨q4, q5⟩
        · exact if_pos q4
        · rw [if_neg (show ¬ p < 20 from q4)]
          exact if_pos q5
      rw [h49]
      unfold f_A_judge_49
      rcases rng_cs p 30 35 (by omega) (by omega) with ⟨q, r1, r2, rfl, r3, r4, r5⟩ | ⟨r3, r4⟩
      · rw [if_neg (show ¬ nI q < 30 from r4), if_neg (show ¬ 36 ≤ nI q from r5)]
        obtain ⟨f, rfl⟩ : ∃ f, q = 30 + f := ⟨q - 30, by omega⟩
        have es : nI (30 + f) - 30 = nI f := by rw [show (30 : Int32) = nI 30 from rfl, pk_sub (by omega)]; congr 1; omega
        rw [es, d3.2.2.2.1, d3.2.2.2.2.1, told_eq d1.2.2.2.1 d1.2.2.2.2.1 (by omega)]
        refine ⟨_, _, M, rfl, ?_, hX⟩
        unfold f_M_tellJudge
        rw [i20, q3, if_pos rfl, i30, r3, if_neg (show ¬ (true = false) by decide), six_sub j f 30 30 rfl, aI_at (n := 18) rfl (by omega), Option.bind_some, d4.2.2.2 f (by omega)]
      · have h77 : (if p < 30 then f_A_judge_77 (nI j) p (14 + j) C else if 36 ≤ p then f_A_judge_77 (nI j) p (14 + j) C else some (f_A_told (C.1 (14 + j) 3) (C.1 (14 + j) 4) (p - 30), C)) = f_A_judge_77 (nI j) p (14 + j) C := by
          rcases r4 with r4 | ⟨r4, r5⟩
          · exact if_pos r4
          · rw [if_neg (show ¬ p < 30 from r4)]
            exact if_pos r5
        rw [h77]
        exact tell77 h hJ hn hj p (by rw [i20]; exact q3) (by rw [i30]; exact r3)
  obtain ⟨r, C', M', g1, g2, g3⟩ := core
  have f1 := F_A_judge g1
  have f2 := F_M_tellJudge g2
  exact ⟨r, C', M', g1, g2, h.view f1 g3 (ip_Fr.mono (by decide) f2), f2, f1⟩
theorem op_judge {N : Nat} {C M : ip_St} (h : Rel2 N C M) (p1 p2 : Int32) : ∃ r C' M', f_A_judge p1 p2 C = some (r, C') ∧ f_M_judge p1 p2 M = some (r, M') ∧ Rel2 N C' M' ∧ ip_Fr w_A_judge C C' := by
  obtain ⟨hT, -, -, J, cr, hJ, hj, hn, -⟩ := id h
  have hc : C.1 12 1 = nI J := hn.1
  rcases judge_cs hJ hc hj p1 with ⟨j, j1, rfl, j2, j3⟩ | ⟨j2, j3⟩
  · obtain ⟨r, C', M', g1, g2, g3, -, g4⟩ := tell_eq h hJ hj hn j1 p2
    refine ⟨r, C', M', g1, ?_, g3, g4⟩
    unfold f_M_judge
    rw [j3, if_neg (by decide), g2]
    rfl
  · unfold f_A_judge f_M_judge
    rw [j2, j3]
    exact ⟨_, _, _, rfl, rfl, h, ip_Fr.rf⟩
