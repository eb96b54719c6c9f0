/-! ===== parts of the relation that a call leaves as they were ===== -/
def unt (w : List (Nat × Nat)) (c : Nat) : Bool := w.all (fun q => !(Nat.beq q.1 c) && !(Nat.beq q.1 100))
theorem unt_wt {w : List (Nat × Nat)} {c : Nat} (h : unt w c = true) (k : Nat) : ip_wt w c k = false := by
  unfold unt at h
  unfold ip_wt
  rw [List.any_eq_false]
  intro q hq
  have h1 := List.all_eq_true.mp h q hq
  simp only [Bool.and_eq_true, Bool.not_eq_true'] at h1
  rw [h1.1, h1.2]
  simp
theorem fr1 {w : List (Nat × Nat)} {S S' : ip_St} (hf : ip_Fr w S S') {c : Nat} (h : unt w c = true) : S'.1 c = S.1 c := funext fun k => (hf c k (unt_wt h k)).1
theorem fr2 {w : List (Nat × Nat)} {S S' : ip_St} (hf : ip_Fr w S S') {c : Nat} (h : unt w c = true) : S'.2 c = S.2 c := funext fun k => (hf c k (unt_wt h k)).2
theorem all6 {p : Nat → Bool} {a b c d e f : Nat} (h : [a, b, c, d, e, f].all p = true) : p a = true ∧ p b = true ∧ p c = true ∧ p d = true ∧ p e = true ∧ p f = true := by simpa using h
theorem all5 {p : Nat → Bool} {a b c d e : Nat} (h : [a, b, c, d, e].all p = true) : p a = true ∧ p b = true ∧ p c = true ∧ p d = true ∧ p e = true := by simpa using h
def slN (w : List (Nat × Nat)) (ks : List Nat) : Bool := ks.all (fun k => !(ip_wt w 30 k))
theorem slN_e {w : List (Nat × Nat)} {a b c d e : Nat} (h : slN w [a, b, c, d, e] = true) : ip_wt w 30 a = false ∧ ip_wt w 30 b = false ∧ ip_wt w 30 c = false ∧ ip_wt w 30 d = false ∧ ip_wt w 30 e = false := by simpa [slN] using h
theorem RDk_fr {wc wm : List (Nat × Nat)} {C C' M M' : ip_St} {J b r kn hd sg T lm ln qs am sc : Nat} (hb : b = 12 ∨ b = 19) (hJ : J ≤ 3) (hC : ip_Fr wc C C') (hM : ip_Fr wm M M') (uC : [b, b + 2, b + 3, b + 4, b + 5, b + 6].all (unt wc) = true) (uM : [r, kn, hd, sg, T].all (unt wm) = true) (uS : slN wm [lm, ln, qs, am, sc] = true) (h : RDk C M J b r kn hd sg T lm ln qs am sc) : RDk C' M' J b r kn hd sg T lm ln qs am sc := by
  obtain ⟨q0, q2, q3, q4, q5, q6⟩ := all6 uC
  obtain ⟨m1, m2, m3, m4, m5⟩ := all5 uM
  obtain ⟨s1, s2, s3, s4, s5⟩ := slN_e uS
  have a0 := fr1 hC q0
  have a5 := fr1 hC q5
  have b5 := fr2 hC q5
  have a6 := fr1 hC q6
  have e1 := fr1 hM m1
  have e2 := fr1 hM m2
  have e3 := fr1 hM m3
  have e4 := fr1 hM m4
  have e5 := fr1 hM m5
  have g1 := (hM 30 lm s1).1
  have g2 := (hM 30 ln s2).2
  have g3 := (hM 30 qs s3).1
  have g4 := (hM 30 am s4).1
  have g5 := (hM 30 sc s5).1
  have hj : ∀ j, j < 3 → C'.1 (b + 2 + j) = C.1 (b + 2 + j) := by
    intro j hj
    rcases (show j = 0 ∨ j = 1 ∨ j = 2 by omega) with rfl | rfl | rfl
    · exact fr1 hC q2
    · exact fr1 hC q3
    · exact fr1 hC q4
  obtain ⟨x1, x2, x3, x4, x5, x6⟩ := h
  refine ⟨by rw [a0]; exact x1, by rw [a0, g4]; exact x2, by rw [a0, g3]; exact x3, ?_, fun h0 => ?_, ?_⟩
  · intro j hjJ
    obtain ⟨d, d1, d2, d3, d4⟩ := x4 j hjJ
    refine ⟨d, d1, d2, ?_, ?_⟩
    · unfold jC at d3 ⊢
      rw [hj j (by omega)]
      exact d3
    · unfold jM at d4 ⊢
      rw [e1, e2, e3]
      exact d4
  · have := x5 h0
    unfold RLaw at this ⊢
    rw [a5, b5, e5, g1, g2]
    exact this
  · unfold RSeen RSn1 at x6 ⊢
    rw [a0, a6, e4, g5]
    exact x6
theorem RNow_fr {wc wm : List (Nat × Nat)} {C C' M M' : ip_St} {J : Nat} (hJ : J ≤ 3) (hC : ip_Fr wc C C') (hM : ip_Fr wm M M') (uC : [12, 14, 15, 16, 17, 18].all (unt wc) = true) (uM : [42, 43, 44, 49, 41].all (unt wm) = true) (uS : slN wm [16, 17, 19, 20, 29] = true) (h : RNow C M J) : RNow C' M' J := RDk_fr (Or.inl rfl) hJ hC hM uC uM uS h
theorem RKep_fr {wc wm : List (Nat × Nat)} {C C' M M' : ip_St} {J : Nat} (hJ : J ≤ 3) (hC : ip_Fr wc C C') (hM : ip_Fr wm M M') (uC : [19, 21, 22, 23, 24, 25].all (unt wc) = true) (uM : [51, 52, 53, 54, 50].all (unt wm) = true) (uS : slN wm [36, 37, 33, 34, 35] = true) (h : RKep C M J) : RKep C' M' J := RDk_fr (Or.inr rfl) hJ hC hM uC uM uS h
theorem RIm_fr {wc wm : List (Nat × Nat)} {C C' M M' : ip_St} {J cr : Nat} (hJ : J ≤ 3) (hC : ip_Fr wc C C') (hM : ip_Fr wm M M') (uC : [19, 21, 22, 23, 24, 25].all (unt wc) = true) (uC2 : ip_wt wc 0 6 = false) (uM : [51, 52, 53, 54, 50].all (unt wm) = true) (uS : slN wm [36, 37, 33, 34, 35] = true) (uS2 : ip_wt wm 30 32 = false) (h : RIm C M J cr) : RIm C' M' J cr := by
  have g1 := (hC 0 6 uC2).1
  have g2 := (hM 30 32 uS2).1
  unfold RIm at h ⊢
  rw [g1, g2]
  rcases h with ⟨y1, y2, y3, y4⟩ | h
  · exact Or.inl ⟨y1, y2, y3, RKep_fr hJ hC hM uC uM uS y4⟩
  · exact Or.inr h
theorem RT_fr {wm : List (Nat × Nat)} {M M' : ip_St} (hM : ip_Fr wm M M') (u : unt wm 31 = true) (h : RT M) : RT M' := by
  unfold RT at h ⊢
  rw [fr2 hM u]
  exact h
theorem RX_fr {wc : List (Nat × Nat)} {C C' : ip_St} (hC : ip_Fr wc C C') (u : unt wc 26 = true) (h : RX C) : RX C' := by
  unfold RX at h ⊢
  rw [fr1 hC u, fr2 hC u]
  exact h
theorem RPg_fr {wc wm : List (Nat × Nat)} {C C' M M' : ip_St} (hC : ip_Fr wc C C') (hM : ip_Fr wm M M') (u1 : unt wc 1 = true) (u2 : ip_wt wc 0 1 = false) (u3 : unt wm 32 = true) (u4 : ip_wt wm 30 2 = false) (h : RPg C M) : RPg C' M' := by
  unfold RPg at h ⊢
  rw [fr1 hC u1, fr1 hM u3, (hC 0 1 u2).1, (hM 30 2 u4).1]
  exact h
/-! ===== letter, blank, forget, see, holds, as, ways, says ===== -/
def wPC : List (Nat × Nat) := [(0, 1), (1, 99)]
def wPM : List (Nat × Nat) := [(30, 2), (32, 99)]
theorem Rel2.page {N : Nat} {C C' M M' : ip_St} (h : Rel2 N C M) (hC : ip_Fr wPC C C') (hM : ip_Fr wPM M M') (hp : RPg C' M') : Rel2 N C' M' := by
  obtain ⟨t, -, x, J, cr, c1, c2, c3, c4, c5, c6, c7⟩ := h
  exact ⟨RT_fr hM rfl t, hp, RX_fr hC rfl x, J, cr, c1, by rw [(hM 30 18 rfl).1]; exact c2, RNow_fr c1 hC hM rfl rfl rfl c3, c4, by rw [(hC 0 7 rfl).1]; exact c5, by rw [(hM 30 21 rfl).1]; exact c6, RIm_fr c1 hC hM rfl rfl rfl rfl rfl c7⟩
theorem op_letter {N : Nat} {C M : ip_St} (h : Rel2 N C M) (p : Int32) : ∃ r C' M', f_A_letter p C = some (r, C') ∧ f_M_letter p M = some (r, M') ∧ Rel2 N C' M' := by
  obtain ⟨n, n1, n2, n3, n4⟩ := h.2.1
  unfold f_A_letter f_M_letter
  rw [show (1 : Int64) = (1 : Int32).toInt64 from rfl, show (126 : Int64) = (126 : Int32).toInt64 from rfl, in_wide]
  by_cases h1 : p < 1
  · have h2 : ¬ (1 : Int32) ≤ p := by
      rw [Int32.le_iff_toInt_le]
      rw [Int32.lt_iff_toInt_lt] at h1
      omega
    have h5 : inR p 1 126 = false := by simp [inR, h2]
    simp only [h1, h5, reduceCtorEq, ↓reduceIte]
    exact ⟨_, _, _, rfl, rfl, h⟩
  · have h1' : (1 : Int32) ≤ p := by
      rw [Int32.le_iff_toInt_le]
      rw [Int32.lt_iff_toInt_lt] at h1
      omega
    by_cases h3 : p ≤ 126
    · have h5 : inR p 1 126 = true := by unfold inR; rw [decide_eq_true h1', decide_eq_true h3]; rfl
      simp only [h1, h3, h5, n2, n3, ↓reduceIte]
      by_cases h4 : n = 56
      · subst h4
        have e1 : ¬ nI 56 < 56 := by decide
        have e2 : nI 56 = 56 := by decide
        simp only [e2, e1, Int32.lt_irrefl, ↓reduceIte]
        exact ⟨_, _, _, rfl, rfl, h⟩
      · have e1 : nI n < 56 := by rw [show (56 : Int32) = nI 56 from rfl, nI_ltI (by omega) (by omega)]; omega
        have e2 : ¬ nI n = 56 := by rw [show (56 : Int32) = nI 56 from rfl, nI_eq (by omega) (by omega)]; exact h4
        simp only [e1, e2, ↓reduceIte]
        rw [wI_at (n := 56) rfl (by omega), wI_at (n := 56) rfl (by omega)]
        simp only [Option.bind_some]
        refine ⟨nI (n + 1), ip_upI (ip_upI C 1 n p) 0 1 (nI (n + 1)), ip_upI (ip_upI M 32 n p) 30 2 (nI (n + 1)), ?_, ?_, ?_⟩
        · have e3 : (ip_upI C 1 n p).1 0 1 = nI n := by rw [upI_ne _ _ (by omega)]; exact n2
          rw [e3, nI_1, upI_same]
        · have e3 : (ip_upI M 32 n p).1 30 2 = nI n := by rw [upI_ne _ _ (by omega)]; exact n3
          rw [e3, nI_1, upI_same]
        · refine h.page (ip_Fr.upI rfl (ip_Fr.upI (ip_wa_wt rfl) ip_Fr.rf)) (ip_Fr.upI rfl (ip_Fr.upI (ip_wa_wt rfl) ip_Fr.rf)) ⟨n + 1, by omega, ?_, ?_, ?_⟩
          · simp [upI_f]
          · simp [upI_f]
          · intro k hk
            simp only [upI_f]
            by_cases hkn : k = n
            · simp [hkn]
            · simp [hkn, n4 k (by omega)]
    · have h5 : inR p 1 126 = false := by unfold inR; rw [decide_eq_false h3]; simp
      simp only [h1, h3, h5, reduceCtorEq, ↓reduceIte]
      exact ⟨_, _, _, rfl, rfl, h⟩
theorem op_blank {N : Nat} {C M : ip_St} (h : Rel2 N C M) : (f_A_blank C).1 = (f_M_blank M).1 ∧ Rel2 N (f_A_blank C).2 (f_M_blank M).2 := by
  obtain ⟨n, n1, n2, n3, n4⟩ := h.2.1
  unfold f_A_blank f_M_blank
  refine ⟨by rw [n2, n3], h.page (ip_Fr.upI rfl ip_Fr.rf) (ip_Fr.upI rfl ip_Fr.rf) ⟨0, by omega, ?_, ?_, fun k hk => absurd hk (Nat.not_lt_zero k)⟩⟩
  · simp [upI_f]; rfl
  · simp [upI_f]; rfl
def wSC : List (Nat × Nat) := [(12, 6), (18, 99)]
def wSM : List (Nat × Nat) := [(30, 29), (49, 99)]
theorem Rel2.seen {N : Nat} {C C' M M' : ip_St} (h : Rel2 N C M) (hC : ip_Fr wSC C C') (hM : ip_Fr wSM M M') (hp : RSeen C' M' 12 18 49 29) : Rel2 N C' M' := by
  obtain ⟨t, pg, x, J, cr, c1, c2, ⟨x1, x2, x3, x4, x5, x6⟩, c4, c5, c6, c7⟩ := h
  refine ⟨RT_fr hM rfl t, RPg_fr hC hM rfl rfl rfl rfl pg, RX_fr hC rfl x, J, cr, c1, by rw [(hM 30 18 rfl).1]; exact c2, ⟨by rw [(hC 12 1 rfl).1]; exact x1, by rw [(hC 12 3 rfl).1, (hM 30 20 rfl).1]; exact x2, by rw [(hC 12 4 rfl).1, (hM 30 19 rfl).1]; exact x3, ?_, fun h0 => ?_, hp⟩, c4, by rw [(hC 0 7 rfl).1]; exact c5, by rw [(hM 30 21 rfl).1]; exact c6, RIm_fr c1 hC hM rfl rfl rfl rfl rfl c7⟩
  · intro j hj
    obtain ⟨d, d1, d2, d3, d4⟩ := x4 j hj
    refine ⟨d, d1, d2, ?_, ?_⟩
    · have : C'.1 (12 + 2 + j) = C.1 (12 + 2 + j) := by
        rcases (show j = 0 ∨ j = 1 ∨ j = 2 by omega) with rfl | rfl | rfl
        · exact fr1 (c := 14) hC rfl
        · exact fr1 (c := 15) hC rfl
        · exact fr1 (c := 16) hC rfl
      unfold jC at d3 ⊢
      rw [this]
      exact d3
    · unfold jM at d4 ⊢
      rw [fr1 (c := 42) hM rfl, fr1 (c := 43) hM rfl, fr1 (c := 44) hM rfl]
      exact d4
  · have := x5 h0
    unfold RLaw at this ⊢
    rw [fr1 (c := 12 + 5) hC rfl, fr2 (c := 12 + 5) hC rfl, fr1 (c := 41) hM rfl, (hM 30 16 rfl).1, (hM 30 17 rfl).2]
    exact this
theorem op_forget {N : Nat} {C M : ip_St} (h : Rel2 N C M) : (f_A_forget C).1 = (f_M_forget M).1 ∧ Rel2 N (f_A_forget C).2 (f_M_forget M).2 := by
  obtain ⟨-, -, -, J, cr, -, -, ⟨-, -, -, -, -, s, s1, s2, s3, s4⟩, -⟩ := id h
  unfold f_A_forget f_M_forget
  refine ⟨by rw [s2, s3], h.seen (ip_Fr.upI rfl ip_Fr.rf) (ip_Fr.upI rfl ip_Fr.rf) ⟨0, by omega, ?_, ?_, fun k hk => absurd hk (Nat.not_lt_zero k)⟩⟩
  · simp [upI_f]; rfl
  · simp [upI_f]; rfl
theorem b2_nI (b : Bool) : b2 b = nI (if b then 1 else 0) := by cases b <;> rfl
theorem i4 (s k : Nat) : (4 : Int32) * nI s + nI k = nI (4 * s + k) := by rw [show (4 : Int32) = nI 4 from rfl, pk_mul, nI_add]
theorem op_see {N : Nat} {C M : ip_St} (h : Rel2 N C M) (p1 p2 p3 p4 : Int32) : ∃ r C' M', f_A_see p1 p2 p3 p4 C = some (r, C') ∧ f_M_see p1 p2 p3 p4 M = some (r, M') ∧ Rel2 N C' M' := by
  obtain ⟨-, -, -, J, cr, hJ, hj, ⟨hc, -, -, -, -, s, s1, s2, s3, s4⟩, -⟩ := id h
  unfold f_A_see f_M_see
  rcases judge_cs hJ hc hj p1 with ⟨j, j1, rfl, j2, j3⟩ | ⟨j2, j3⟩
  · simp only [j2, j3, reduceCtorEq, ↓reduceIte]
    rcases fact_cs p2 with ⟨f, f1, rfl, f2, f3⟩ | ⟨f2, f3⟩
    · simp only [f2, f3, ↓reduceIte]
      rcases ans_cs p3 with ⟨b, rfl, a2, a3⟩ | ⟨a2, a3⟩
      · simp only [a2, a3, reduceCtorEq, ↓reduceIte]
        rcases ans_cs p4 with ⟨e, rfl, e2, e3⟩ | ⟨e2, e3⟩
        · simp only [e2, e3, s2, s3, ↓reduceIte]
          by_cases h8 : s = 8
          · subst h8
            have q1 : ¬ nI 8 < 8 := by decide
            have q2 : nI 8 = 8 := by decide
            simp only [q2, Int32.lt_irrefl, ↓reduceIte]
            exact ⟨_, _, _, rfl, rfl, h⟩
          · have q1 : nI s < 8 := by rw [show (8 : Int32) = nI 8 from rfl, nI_ltI (by omega) (by omega)]; omega
            have q2 : ¬ nI s = 8 := by rw [show (8 : Int32) = nI 8 from rfl, nI_eq (by omega) (by omega)]; exact h8
            simp only [q1, q2, ↓reduceIte]
            have hk : f_D_keepSeen_12 (nI j) (nI f) (b2 b) (b2 e) C = some (ip_upI (ip_upI C 18 s (nI ((j * 6 + f) * 4 + (if b then 1 else 0) * 2 + (if e then 1 else 0)))) 12 6 (nI (s + 1))) := by
              unfold f_D_keepSeen_12
              rw [s2, if_neg (by rw [show (8 : Int32) = nI 8 from rfl, nI_leI (by omega) (by omega)]; omega), b2_nI, b2_nI, show (6 : Int32) = nI 6 from rfl, pk_mul, nI_add, show (4 : Int32) = nI 4 from rfl, pk_mul, show (2 : Int32) = nI 2 from rfl, pk_mul, nI_add, nI_add, wI_at (n := 8) rfl (by omega)]
              simp only [Option.bind_some]
              congr 1
              rw [upI_ne _ _ (by omega), s2, nI_1]
            rw [hk]
            simp only [Option.bind_some]
            have g1 : (4 : Int32) * nI s = nI (4 * s) := by rw [show (4 : Int32) = nI 4 from rfl, pk_mul]
            have u : ∀ (X : ip_St) (a : Nat) (v : Int32), (ip_upI X 49 a v).1 30 29 = X.1 30 29 := fun X a v => by rw [upI_ne _ _ (by omega)]
            have i41 : nI (4 * s) + 1 = nI (4 * s + 1) := nI_add _ 1
            have i42 : nI (4 * s) + 2 = nI (4 * s + 2) := nI_add _ 2
            have i43 : nI (4 * s) + 3 = nI (4 * s + 3) := nI_add _ 3
            have w0 : ∀ (X : ip_St) (v : Int32), ip_wI X 49 (nI (4 * s)) v = some (ip_upI X 49 (4 * s) v) := fun X v => wI_at (n := 32) rfl (by omega)
            have w1 : ∀ (X : ip_St) (v : Int32), ip_wI X 49 (nI (4 * s + 1)) v = some (ip_upI X 49 (4 * s + 1) v) := fun X v => wI_at (n := 32) rfl (by omega)
            have w2 : ∀ (X : ip_St) (v : Int32), ip_wI X 49 (nI (4 * s + 2)) v = some (ip_upI X 49 (4 * s + 2) v) := fun X v => wI_at (n := 32) rfl (by omega)
            have w3 : ∀ (X : ip_St) (v : Int32), ip_wI X 49 (nI (4 * s + 3)) v = some (ip_upI X 49 (4 * s + 3) v) := fun X v => wI_at (n := 32) rfl (by omega)
            simp only [g1, w0, Option.bind_some, u, s3, i41, w1, i42, w2, i43, w3, upI_same, nI_1]
            refine ⟨nI (s + 1), _, _, rfl, rfl, ?_⟩
            · refine h.seen (ip_Fr.upI rfl (ip_Fr.upI (ip_wa_wt rfl) ip_Fr.rf)) (ip_Fr.upI rfl (ip_Fr.upI (ip_wa_wt rfl) (ip_Fr.upI (ip_wa_wt rfl) (ip_Fr.upI (ip_wa_wt rfl) (ip_Fr.upI (ip_wa_wt rfl) ip_Fr.rf))))) ⟨s + 1, by omega, upI_same _ _ _ _, upI_same _ _ _ _, ?_⟩
              intro i hi
              by_cases his : i = s
              · subst his
                refine ⟨j, f, if b then 1 else 0, if e then 1 else 0, by omega, f1, by cases b <;> decide, by cases e <;> decide, ?_, ?_, ?_, ?_, ?_⟩
                · rw [upI_ne _ _ (by omega), upI_same]
                · simp only [upI_f]; simp
                · simp only [upI_f]; simp
                · simp only [upI_f]; simp [b2_nI]
                · simp only [upI_f]; simp [b2_nI]
              · obtain ⟨j', f', is', sd', q1, q2, q3, q4, q5, q6, q7, q8, q9⟩ := s4 i (by omega)
                refine ⟨j', f', is', sd', q1, q2, q3, q4, ?_, ?_, ?_, ?_, ?_⟩
                · rw [upI_ne _ _ (by omega), upI_ne _ _ (by omega)]; exact q5
                · rw [upI_ne _ _ (by omega), upI_ne _ _ (by omega), upI_ne _ _ (by omega), upI_ne _ _ (by omega), upI_ne _ _ (by omega)]; exact q6
                · rw [upI_ne _ _ (by omega), upI_ne _ _ (by omega), upI_ne _ _ (by omega), upI_ne _ _ (by omega), upI_ne _ _ (by omega)]; exact q7
                · rw [upI_ne _ _ (by omega), upI_ne _ _ (by omega), upI_ne _ _ (by omega), upI_ne _ _ (by omega), upI_ne _ _ (by omega)]; exact q8
                · rw [upI_ne _ _ (by omega), upI_ne _ _ (by omega), upI_ne _ _ (by omega), upI_ne _ _ (by omega), upI_ne _ _ (by omega)]; exact q9
        · simp only [e2, e3, reduceCtorEq, ↓reduceIte]
          exact ⟨_, _, _, rfl, rfl, h⟩
      · simp only [a2, a3, ↓reduceIte]
        exact ⟨_, _, _, rfl, rfl, h⟩
    · simp only [f2, f3, reduceCtorEq, ↓reduceIte]
      exact ⟨_, _, _, rfl, rfl, h⟩
  · simp only [j2, j3, ↓reduceIte]
    exact ⟨_, _, _, rfl, rfl, h⟩
