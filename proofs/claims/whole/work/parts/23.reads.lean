/-! ===== numbers in a range; holds, as, ways, says ===== -/
theorem nlt32 {a b : Int32} : ¬ a < b ↔ b ≤ a := by
  rw [Int32.lt_iff_toInt_lt, Int32.le_iff_toInt_le]
  omega
theorem nle32 {a b : Int32} : ¬ a ≤ b ↔ b < a := by
  rw [Int32.lt_iff_toInt_lt, Int32.le_iff_toInt_le]
  omega
theorem big_n {x : Int32} {n : Nat} (h : nI (n + 1) ≤ x) (hn : n + 1 < 2 ^ 31) : ¬ x ≤ nI n := by
  have h1 := nI_toInt hn
  have h2 := nI_toInt (show n < 2 ^ 31 by omega)
  rw [Int32.le_iff_toInt_le] at h ⊢
  omega
theorem num_cs (p : Int32) (n : Nat) (hn : n + 1 < 2 ^ 31) : (∃ j, j ≤ n ∧ p = nI j ∧ inR p (nI 0) (nI n) = true ∧ ¬ p < 0 ∧ p ≤ nI n ∧ p < nI (n + 1)) ∨ (inR p (nI 0) (nI n) = false ∧ (p < 0 ∨ (¬ p < 0 ∧ ¬ p ≤ nI n ∧ ¬ p < nI (n + 1) ∧ nI (n + 1) ≤ p ∧ nI n < p))) := by
  rcases pk_ix p hn with h | h | ⟨j, hj, rfl⟩
  · exact Or.inr ⟨inR_neg (a := 0) (by decide) h _, Or.inl h⟩
  · right
    refine ⟨inR_big h hn _, ?_⟩
    by_cases h0 : p < 0
    · exact Or.inl h0
    · have hb := big_n h hn
      exact Or.inr ⟨h0, hb, nlt32.mpr h, h, nle32.mp hb⟩
  · left
    refine ⟨j, by omega, rfl, ?_, nI_pos (by omega), ?_, ?_⟩
    · rw [inR_nI (by omega) (by omega) (by omega)]
      have : j ≤ n := by omega
      simp [this]
    · rw [nI_leI (by omega) (by omega)]; omega
    · rw [nI_ltI (by omega) (by omega)]; omega
theorem in_R (p : Int32) (a b : Nat) (x y : Int64) (hx : x = (nI a).toInt64) (hy : y = (nI b).toInt64) : f_M_in p.toInt64 x y = inR p (nI a) (nI b) := by
  rw [hx, hy, in_wide]
theorem world_cs (p : Int32) : (∃ w, w < 64 ∧ p = nI w ∧ f_A_isWorld p = true ∧ f_M_in p.toInt64 0 63 = true) ∨ (f_A_isWorld p = false ∧ f_M_in p.toInt64 0 63 = false) := by
  rw [in_R p 0 63 0 63 (by decide) (by decide)]
  unfold f_A_isWorld
  rcases num_cs p 63 (by decide) with ⟨j, h1, h2, h3, h4, h5, h6⟩ | ⟨h1, h2⟩
  · left
    refine ⟨j, by omega, h2, ?_, h3⟩
    rw [if_neg h4]
    exact if_neg (nle32.mpr h6)
  · right
    refine ⟨?_, h1⟩
    rcases h2 with h2 | ⟨h2, h3, h4, h5, h6⟩
    · rw [if_pos h2]
    · rw [if_neg h2]
      exact if_pos h5
theorem court_cs {C M : ip_St} {J : Nat} (hJ : J ≤ 3) (hC : C.1 12 1 = nI J) (hM : M.1 30 18 = nI J) : (J = 0 ∧ f_A_hasCourt C = false ∧ f_M_lacks M = true) ∨ (0 < J ∧ f_A_hasCourt C = true ∧ f_M_lacks M = false) := by
  unfold f_A_hasCourt f_M_lacks
  rw [hC, hM]
  rcases (show J = 0 ∨ J = 1 ∨ J = 2 ∨ J = 3 by omega) with rfl | rfl | rfl | rfl
  · exact Or.inl ⟨rfl, by decide, by decide⟩
  · exact Or.inr ⟨by decide, by decide, by decide⟩
  · exact Or.inr ⟨by decide, by decide, by decide⟩
  · exact Or.inr ⟨by decide, by decide, by decide⟩
theorem has_eq (x : Int64) {w : Nat} (hw : w < 64) : f_A_has x (nI w) = lb x w := by
  unfold f_A_has
  rw [lb_ushr1 x hw]
  cases lb x w <;> simp
theorem law_eq {C M : ip_St} {J : Nat} (hN : RNow C M J) (hJ : 0 < J) : C.2 17 0 = M.2 30 17 := by
  obtain ⟨-, -, -, -, x5, -⟩ := hN
  obtain ⟨m, m1, m2, m3, m4⟩ := x5 hJ
  exact m3
theorem jd_get {C M : ip_St} {J j : Nat} (hN : RNow C M J) (hj : j < J) : ∃ d : JD, jok d ∧ ¬ wy d = 0 ∧ jC C (14 + j) d ∧ jM M 42 43 44 j d := hN.2.2.2.1 j hj
theorem op_holds {N : Nat} {C M : ip_St} (h : Rel2 N C M) (p : Int32) : f_A_holds p C = f_M_holds p M := by
  obtain ⟨-, -, -, J, cr, hJ, hj, hn, -⟩ := id h
  have hc : C.1 12 1 = nI J := hn.1
  unfold f_A_holds f_M_holds
  rcases world_cs p with ⟨w, w1, rfl, w2, w3⟩ | ⟨w2, w3⟩
  · rw [if_pos w2, if_pos w3]
    rcases court_cs hJ hc hj with ⟨-, c1, c2⟩ | ⟨c0, c1, c2⟩
    · rw [c1, c2]
      simp
    · rw [c1, c2, law_eq hn c0, has_eq _ w1, lb_shr1 _ w1, toI32_ite]
      cases lb (M.2 30 17) w <;> simp
  · rw [w2, w3]
    simp
theorem as_ck (x k : Int32) (M : ip_St) (p1 : Int32) : (if f_A_isOfKind k x = false then some (-1) else some p1) = (if x = 0 then f_M_as_54 p1 M else (if x = k then f_M_as_54 p1 M else (if x = 3 then (if k = 4 then f_M_as_54 p1 M else f_M_as_58 p1 M) else f_M_as_58 p1 M))) := by
  unfold f_A_isOfKind f_M_as_54 f_M_as_58 f_M_as_59
  by_cases h1 : x = 0
  · simp [h1]
  · by_cases h2 : x = k
    · subst h2
      simp [h1]
    · by_cases h3 : x = 3
      · by_cases h4 : k = 4
        · simp [h1, h2, h3, h4]
        · subst h3
          simp [h2, h4]
      · simp [h1, h2, h3]
theorem op_as {N : Nat} {C M : ip_St} (h : Rel2 N C M) (p1 p2 : Int32) : ∃ r, f_A_as p1 p2 C = some r ∧ f_M_as p1 p2 M = some r := by
  obtain ⟨-, -, -, J, cr, hJ, hj, hn, -⟩ := id h
  have hc : C.1 12 1 = nI J := hn.1
  unfold f_A_as f_M_as
  rw [in_R p2 0 4 0 4 (by decide) (by decide)]
  rcases judge_cs hJ hc hj p1 with ⟨j, j1, rfl, j2, j3⟩ | ⟨j2, j3⟩
  · rw [if_pos j2, if_pos j3]
    obtain ⟨d, d1, d2, d3, d4⟩ := jd_get hn j1
    rcases num_cs p2 4 (by decide) with ⟨k, h1, h2, h3, h4, h5, h6⟩ | ⟨h1, h2⟩
    · rw [if_pos h3, if_neg h4, if_pos (show p2 < 5 from h6), aA13 j (by omega), i2, aI_at (n := 6) rfl (by omega), d4.1]
      simp only [Option.bind_some]
      rw [d3.1, as_ck p2 (nI d.1) M (nI j)]
      have : ∃ r, (if p2 = 0 then f_M_as_54 (nI j) M else (if p2 = nI d.1 then f_M_as_54 (nI j) M else (if p2 = 3 then (if nI d.1 = 4 then f_M_as_54 (nI j) M else f_M_as_58 (nI j) M) else f_M_as_58 (nI j) M))) = some r := by
        unfold f_M_as_54 f_M_as_58 f_M_as_59
        simp only [show ¬ (1 : Int32) = 0 by decide, if_true, if_false]
        repeat' split
        all_goals exact ⟨_, rfl⟩
      obtain ⟨r, hr⟩ := this
      exact ⟨r, hr, hr⟩
    · rw [h1]
      simp only [Bool.false_eq_true, if_false]
      rcases h2 with h2 | ⟨h2, h3, h4, h5, h6⟩
      · rw [if_pos h2]
        exact ⟨_, rfl, rfl⟩
      · rw [if_neg h2, if_neg (show ¬ p2 < 5 from h4)]
        exact ⟨_, rfl, rfl⟩
  · rw [j2, j3]
    exact ⟨_, rfl, rfl⟩
theorem op_ways {N : Nat} {C M : ip_St} (h : Rel2 N C M) (p : Int32) : ∃ r, f_A_ways p C = some r ∧ f_M_ways p M = some r := by
  obtain ⟨hT, -, -, J, cr, hJ, hj, hn, -⟩ := id h
  have hc : C.1 12 1 = nI J := hn.1
  unfold f_A_ways f_M_ways
  rcases judge_cs hJ hc hj p with ⟨j, j1, rfl, j2, j3⟩ | ⟨j2, j3⟩
  · obtain ⟨d, d1, d2, d3, d4⟩ := jd_get hn j1
    rw [j2, j3, aA13 j (by omega), waysOf_eq hT (by omega) d1 d4]
    simp only [Option.bind_some]
    rw [worlds_eq d1 d3]
    exact ⟨_, rfl, rfl⟩
  · rw [j2, j3]
    exact ⟨_, rfl, rfl⟩
theorem says_ck : ∀ k, k < 5 → ∀ w, w < 64 → (nI w &&& (nI (fixN k) ^^^ (-1))) ||| nI (ansN k) = nI (sayN k w) := by decide +kernel
theorem op_says {N : Nat} {C M : ip_St} (h : Rel2 N C M) (p1 p2 : Int32) : ∃ r, f_A_says p1 p2 C = some r ∧ f_M_says p1 p2 M = some r := by
  obtain ⟨hT, -, -, J, cr, hJ, hj, hn, -⟩ := id h
  have hc : C.1 12 1 = nI J := hn.1
  unfold f_A_says f_M_says
  rcases judge_cs hJ hc hj p1 with ⟨j, j1, rfl, j2, j3⟩ | ⟨j2, j3⟩
  · obtain ⟨d, d1, d2, d3, d4⟩ := jd_get hn j1
    rw [j2, j3]
    rcases world_cs p2 with ⟨w, w1, rfl, w2, w3⟩ | ⟨w2, w3⟩
    · rw [w2, w3, aA13 j (by omega), i2, aI_at (n := 6) rfl (by omega), d4.1]
      simp only [Option.bind_some, if_true, Bool.true_eq_false, if_false]
      rw [d3.1, cI56 d.1 d1.1, cI57 d.1 d1.1]
      simp only [Option.bind_some]
      rw [says_ck d.1 d1.1 w w1, saysBy_ck d.1 d1.1 w w1]
      exact ⟨_, rfl, rfl⟩
    · rw [w2, w3]
      exact ⟨_, rfl, rfl⟩
  · rw [j2, j3]
    exact ⟨_, rfl, rfl⟩
/-! ===== statute ===== -/
theorem or_0 (x : Int32) : x ||| 0 = x := by
  apply Int32.toBitVec_inj.mp
  simp
theorem flip_inv : ∀ f, f < 6 → ∀ w, w < 64 → (w ^^^ 2 ^ f) ^^^ 2 ^ f = w := by decide +kernel
theorem mat_lb (x : Int64) {f w : Nat} (hf : f < 6) (hw : w < 64) : lb ((ip_lushr (x &&& rw0 f) (nI (2 ^ f))) &&& (rw0 f ^^^ (-1))) w = (!(w.testBit f) && lb x (w ^^^ 2 ^ f)) := by
  obtain ⟨h1, h2⟩ := flip_a f hf w hw
  rw [lb_and, lb_not _ hw, lb_rw_ck f hf w hw, lb_lushr _ h2, lb_and]
  cases hb : w.testBit f with
  | true => simp
  | false =>
    obtain ⟨a1, a2, a3⟩ := flip_b f hf w hw hb
    rw [a1, lb_rw_ck f hf _ a2, a3]
    simp
theorem mat_iff (x : Int64) {f : Nat} (hf : f < 6) : trn x f = x ↔ (ip_lushr (x &&& rw0 f) (nI (2 ^ f))) &&& (rw0 f ^^^ (-1)) = x &&& (rw0 f ^^^ (-1)) := by
  constructor
  · intro h
    apply lb_ext
    intro w hw
    rw [mat_lb x hf hw, lb_and, lb_not _ hw, lb_rw_ck f hf w hw]
    have h1 : lb (trn x f) w = lb x w := by rw [h]
    rw [lb_trn x hf hw] at h1
    rw [h1, Bool.and_comm]
  · intro h
    have key : ∀ w, w < 64 → w.testBit f = false → lb x (w ^^^ 2 ^ f) = lb x w := by
      intro w hw hb
      have h1 : lb ((ip_lushr (x &&& rw0 f) (nI (2 ^ f))) &&& (rw0 f ^^^ (-1))) w = lb (x &&& (rw0 f ^^^ (-1))) w := by rw [h]
      rw [mat_lb x hf hw, lb_and, lb_not _ hw, lb_rw_ck f hf w hw, hb] at h1
      simpa using h1
    apply lb_ext
    intro w hw
    rw [lb_trn x hf hw]
    cases hb : w.testBit f with
    | false => exact key w hw hb
    | true =>
      have h1 := key (w ^^^ 2 ^ f) (flip_a f hf w hw).1 (by rw [flip_bit f hf w hw, hb]; rfl)
      rw [flip_inv f hf w hw] at h1
      exact h1.symm
theorem matters_loop {M : ip_St} (hT : RT M) : ∀ (e f n n' : Nat) (acc : Int32), f + e = 6 → e < n → e < n' → ∃ r, f_A_matters_4 n (M.2 30 17) acc (nI f) = some r ∧ f_M_matters_4 n' acc (nI f) M = some r := by
  intro e
  induction e with
  | zero =>
    intro f n n' acc hf hn hn'
    obtain rfl : f = 6 := by omega
    obtain ⟨m, rfl⟩ : ∃ m, n = m + 1 := ⟨n - 1, by omega⟩
    obtain ⟨m', rfl⟩ : ∃ m, n' = m + 1 := ⟨n' - 1, by omega⟩
    rw [f_A_matters_4, if_pos (by decide), f_M_matters_4, if_pos (by decide)]
    exact ⟨_, rfl, rfl⟩
  | succ e ih =>
    intro f n n' acc hf hn hn'
    obtain ⟨m, rfl⟩ : ∃ m, n = m + 1 := ⟨n - 1, by omega⟩
    obtain ⟨m', rfl⟩ : ∃ m, n' = m + 1 := ⟨n' - 1, by omega⟩
    have hf6 : f < 6 := by omega
    have h6 : ¬ (6 : Int32) ≤ nI f := by rw [show (6 : Int32) = nI 6 from rfl, nI_leI (by omega) (by omega)]; omega
    rw [f_A_matters_4, if_neg h6, f_M_matters_4, if_neg h6, turned_eq _ hf6, rowOf_eq hT hf6, shl_ck f hf6]
    simp only [Option.bind_some]
    rw [nI_1]
    by_cases hq : trn (M.2 30 17) f = M.2 30 17
    · rw [if_pos hq, if_pos ((mat_iff _ hf6).mp hq), or_0]
      exact ih (f + 1) m m' acc (by omega) (by omega) (by omega)
    · rw [if_neg hq, if_neg (fun q => hq ((mat_iff _ hf6).mpr q))]
      exact ih (f + 1) m m' _ (by omega) (by omega) (by omega)
theorem matters_eq {M : ip_St} (hT : RT M) : ∃ r, f_A_matters (M.2 30 17) = some r ∧ f_M_matters M = some r := matters_loop hT 6 0 ip_FU ip_FU 0 rfl (by decide) (by decide)
theorem lettersIn_loop {M : ip_St} {m : Nat} (hm : m ≤ 56) (hM : M.1 30 16 = nI m) (lo hi : Int32) : ∀ (e k n : Nat), k + e = m → e < n → f_M_lettersIn_5 n lo hi (nI (ctR (M.1 41) lo hi k)) (nI k) M = some (nI (ctR (M.1 41) lo hi m)) := by
  intro e
  induction e with
  | zero =>
    intro k n hk hn
    obtain rfl : k = m := by omega
    obtain ⟨q, rfl⟩ : ∃ q, n = q + 1 := ⟨n - 1, by omega⟩
    rw [f_M_lettersIn_5, hM, if_pos (by rw [nI_leI (by omega) (by omega)]; omega)]
  | succ e ih =>
    intro k n hk hn
    obtain ⟨q, rfl⟩ : ∃ q, n = q + 1 := ⟨n - 1, by omega⟩
    have ih' := ih (k + 1) q (by omega) (by omega)
    rw [f_M_lettersIn_5, hM, if_neg (by rw [nI_leI (by omega) (by omega)]; omega), aI_at (n := 56) rfl (by omega)]
    simp only [Option.bind_some]
    rw [in_wide, nI_1]
    have hc : ctR (M.1 41) lo hi (k + 1) = ctR (M.1 41) lo hi k + (if inR (M.1 41 k) lo hi = true then 1 else 0) := rfl
    cases hb : inR (M.1 41 k) lo hi with
    | false =>
      rw [hb] at hc
      simp only [Bool.false_eq_true, if_false, Nat.add_zero] at hc
      rw [if_pos rfl, show nI (ctR (M.1 41) lo hi k) + 0 = nI (ctR (M.1 41) lo hi k + 0) from nI_add _ 0, Nat.add_zero, ← hc]
      exact ih'
    | true =>
      rw [hb] at hc
      simp only [if_true] at hc
      rw [if_neg (by simp), nI_1, ← hc]
      exact ih'
theorem lettersIn_eq {M : ip_St} {m : Nat} (hm : m ≤ 56) (hM : M.1 30 16 = nI m) (lo hi : Int32) : f_M_lettersIn lo hi M = some (nI (ctR (M.1 41) lo hi m)) := lettersIn_loop hm hM lo hi m 0 ip_FU (by omega) (by have : ip_FU = 1000 := rfl; omega)
theorem deep_loop {M : ip_St} {m : Nat} (hm : m ≤ 56) (hM : M.1 30 16 = nI m) : ∀ (e k n : Nat), k + e = m → e < n → f_M_deep_6 n (dpp (M.1 41) k).1 (dpp (M.1 41) k).2 (nI k) M = some (dpp (M.1 41) m).2 := by
  intro e
  induction e with
  | zero =>
    intro k n hk hn
    obtain rfl : k = m := by omega
    obtain ⟨q, rfl⟩ : ∃ q, n = q + 1 := ⟨n - 1, by omega⟩
    rw [f_M_deep_6, hM, if_pos (by rw [nI_leI (by omega) (by omega)]; omega)]
  | succ e ih =>
    intro k n hk hn
    obtain ⟨q, rfl⟩ : ∃ q, n = q + 1 := ⟨n - 1, by omega⟩
    have ih' := ih (k + 1) q (by omega) (by omega)
    have step : ∀ v : Int32, v = (if M.1 41 k = 40 then 1 else if M.1 41 k = 91 then 1 else if M.1 41 k = 41 then -1 else if M.1 41 k = 93 then -1 else 0) → f_M_deep_68 (f_M_deep_6 q) (dpp (M.1 41) k).2 (nI k) (dpp (M.1 41) k).1 v M = some (dpp (M.1 41) m).2 := by
      intro v hv
      unfold f_M_deep_68
      have hd : dpp (M.1 41) (k + 1) = ((dpp (M.1 41) k).1 + v, if (dpp (M.1 41) k).2 < (dpp (M.1 41) k).1 + v then (dpp (M.1 41) k).1 + v else (dpp (M.1 41) k).2) := by rw [hv]; rfl
      rw [hd] at ih'
      rw [nI_1]
      by_cases hle : (dpp (M.1 41) k).1 + v ≤ (dpp (M.1 41) k).2
      · rw [if_pos hle]
        rw [if_neg (nlt32.mpr hle)] at ih'
        exact ih'
      · rw [if_neg hle]
        rw [if_pos (nle32.mp hle)] at ih'
        exact ih'
    rw [f_M_deep_6, hM, if_neg (by rw [nI_leI (by omega) (by omega)]; omega), aI_at (n := 56) rfl (by omega)]
    simp only [Option.bind_some]
    unfold f_M_deep_37 f_M_deep_63
    by_cases h1 : M.1 41 k = 40
    · rw [if_pos h1]
      exact step 1 (by rw [if_pos h1])
    · rw [if_neg h1]
      by_cases h2 : M.1 41 k = 91
      · rw [if_pos h2]
        exact step 1 (by rw [if_neg h1, if_pos h2])
      · rw [if_neg h2]
        by_cases h3 : M.1 41 k = 41
        · rw [if_pos h3]
          exact step (-1) (by rw [if_neg h1, if_neg h2, if_pos h3])
        · rw [if_neg h3]
          by_cases h4 : M.1 41 k = 93
          · rw [if_pos h4]
            exact step (-1) (by rw [if_neg h1, if_neg h2, if_neg h3, if_pos h4])
          · rw [if_neg h4]
            exact step 0 (by rw [if_neg h1, if_neg h2, if_neg h3, if_neg h4])
theorem deep_eq {M : ip_St} {m : Nat} (hm : m ≤ 56) (hM : M.1 30 16 = nI m) : f_M_deep M = some (dpp (M.1 41) m).2 := deep_loop hm hM m 0 ip_FU (by omega) (by have : ip_FU = 1000 := rfl; omega)
theorem tellLaw_eq {C M : ip_St} {J : Nat} (hT : RT M) (hn : RNow C M J) (hJ : 0 < J) {p : Int32} {k : Nat} (hk : k ≤ 5) (hp : p = nI k) : ∃ r, (if p = 0 then some (f_G_bitCount (C.2 17 0)) else (if p = 1 then ((f_A_matters (C.2 17 0)).bind fun zv6 => some zv6) else (if p = 2 then some (C.1 17 1) else (if p = 3 then some (C.1 17 2) else (if p = 4 then some (C.1 17 3) else some (C.1 17 4)))))) = some r ∧ f_M_tellLaw p M = some r := by
  obtain ⟨-, -, -, -, x5, -⟩ := hn
  obtain ⟨m, m1, m2, m3, l1, l2, l3, l4, -⟩ := x5 hJ
  have m3' : C.2 17 0 = M.2 30 17 := m3
  have l1' : C.1 17 1 = nI (ctR (M.1 41) 97 102 m) := l1
  have l2' : C.1 17 2 = nI (ctR (M.1 41) 33 33 m) := l2
  have l3' : C.1 17 3 = nI (ctR (M.1 41) 49 51 m) := l3
  have l4' : C.1 17 4 = (dpp (M.1 41) m).2 := l4
  rw [m3', l1', l2', l3', l4']
  unfold f_M_tellLaw
  obtain ⟨r, r1, r2⟩ := matters_eq hT
  rw [r1, r2, lettersIn_eq m1 m2, lettersIn_eq m1 m2, lettersIn_eq m1 m2, deep_eq m1 m2, ones_eq, bitCount_eq]
  simp only [Option.bind_some]
  repeat' split
  all_goals exact ⟨_, rfl, rfl⟩
theorem op_statute {N : Nat} {C M : ip_St} (h : Rel2 N C M) (p : Int32) : ∃ r, f_A_statute p C = some r ∧ f_M_statute p M = some r := by
  obtain ⟨hT, -, -, J, cr, hJ, hj, hn, -⟩ := id h
  have hc : C.1 12 1 = nI J := hn.1
  unfold f_A_statute f_M_statute
  rw [in_R p 0 5 0 5 (by decide) (by decide)]
  rcases num_cs p 5 (by decide) with ⟨k, h1, h2, h3, h4, h5, h6⟩ | ⟨h1, h2⟩
  · rw [if_pos h3, if_neg h4, if_pos (show p ≤ 5 from h5)]
    rcases court_cs hJ hc hj with ⟨-, c1, c2⟩ | ⟨c0, c1, c2⟩
    · rw [c1, c2]
      exact ⟨_, rfl, rfl⟩
    · rw [c1, c2]
      obtain ⟨r, r1, r2⟩ := tellLaw_eq hT hn c0 h1 h2
      refine ⟨r, ?_, ?_⟩
      · rw [if_pos rfl]
        exact r1
      · rw [if_pos rfl, r2]
        rfl
  · rw [h1]
    simp only [Bool.false_eq_true, if_false]
    rcases h2 with h2 | ⟨h2, h3, h4, h5, h6⟩
    · rw [if_pos h2]
      exact ⟨_, rfl, rfl⟩
    · rw [if_neg h2, if_neg (show ¬ p ≤ 5 from h3)]
      exact ⟨_, rfl, rfl⟩
