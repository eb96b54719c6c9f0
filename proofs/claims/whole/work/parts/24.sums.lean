/-! ===== odds ===== -/
theorem irem_nI {a d : Nat} (ha : a < 2 ^ 31) (h0 : 0 < d) (hd : d < 2 ^ 31) : ip_irem (nI a) (nI d) = nI (a % d) := pk_rem ha h0 hd
theorem commonPart_loop {a b : Nat} (ha : a ≤ 64) (hb : b ≤ 64) (hb0 : 0 < b) : ∀ (k n : Nat), Nat.gcd a b ≤ k → k ≤ 64 → k < n → f_A_commonPart_2 n (nI a) (nI b) (nI k) = some (nI (Nat.gcd a b)) := by
  have hg : 0 < Nat.gcd a b := Nat.gcd_pos_of_pos_right a hb0
  intro k
  induction k with
  | zero =>
    intro n h
    omega
  | succ k ih =>
    intro n h hk hn
    obtain ⟨m, rfl⟩ : ∃ m, n = m + 1 := ⟨n - 1, by omega⟩
    rw [f_A_commonPart_2]
    by_cases h1 : k = 0
    · subst h1
      rw [if_pos (by decide)]
      have : Nat.gcd a b = 1 := by omega
      rw [this]
      rfl
    · rw [if_neg (by rw [show (1 : Int32) = nI 1 from rfl, nI_leI (by omega) (by omega)]; omega), if_neg (nI_ne0 (by omega) (by omega)), irem_nI (by omega) (by omega) (by omega), irem_nI (by omega) (by omega) (by omega), pk_m1]
      by_cases hd1 : a % (k + 1) = 0
      · rw [hd1, if_pos (show nI 0 = 0 from rfl), if_neg (nI_ne0 (by omega) (by omega))]
        by_cases hd2 : b % (k + 1) = 0
        · rw [hd2, if_pos (show nI 0 = 0 from rfl)]
          have h3 : (k + 1) ∣ Nat.gcd a b := Nat.dvd_gcd (Nat.dvd_of_mod_eq_zero hd1) (Nat.dvd_of_mod_eq_zero hd2)
          have h4 := Nat.le_of_dvd hg h3
          have h5 : Nat.gcd a b = k + 1 := by omega
          rw [h5]
        · have hlt : b % (k + 1) < k + 1 := Nat.mod_lt _ (by omega)
          rw [if_neg (nI_ne0 (by omega) (by omega))]
          have hne : Nat.gcd a b ≠ k + 1 := fun q => hd2 (Nat.mod_eq_zero_of_dvd (q ▸ Nat.gcd_dvd_right a b))
          exact ih m (by omega) (by omega) (by omega)
      · have hlt : a % (k + 1) < k + 1 := Nat.mod_lt _ (by omega)
        rw [if_neg (nI_ne0 (by omega) (by omega))]
        have hne : Nat.gcd a b ≠ k + 1 := fun q => hd1 (Nat.mod_eq_zero_of_dvd (q ▸ Nat.gcd_dvd_left a b))
        exact ih m (by omega) (by omega) (by omega)
theorem FU_eq : ip_FU = 1000 := rfl
theorem commonPart_eq {a b : Nat} (ha : a ≤ 64) (hb : b ≤ 64) (hb0 : 0 < b) : f_A_commonPart (nI a) (nI b) = some (nI (Nat.gcd a b)) := commonPart_loop ha hb hb0 b ip_FU (Nat.le_of_dvd hb0 (Nat.gcd_dvd_right a b)) hb (by rw [FU_eq]; omega)
theorem common_loop : ∀ (n x y : Nat), x ≤ 64 → y ≤ 64 → y < n → f_M_common_4 n (nI x) (nI y) = some (nI (Nat.gcd x y)) := by
  intro n
  induction n with
  | zero =>
    intro x y _ _ h
    omega
  | succ n ih =>
    intro x y hx hy hn
    rw [f_M_common_4]
    by_cases h0 : y = 0
    · subst h0
      rw [if_pos (by decide), Nat.gcd_zero_right]
    · rw [if_neg (nI_nle (by omega) (by omega)), if_neg (nI_ne0 (by omega) (by omega)), irem_nI (by omega) (by omega) (by omega)]
      have hlt : x % y < y := Nat.mod_lt _ (by omega)
      rw [ih y (x % y) hy (by omega) (by omega), Nat.gcd_comm x y, Nat.gcd_rec y x, Nat.gcd_comm]
theorem common_eq {x y : Nat} (hx : x ≤ 64) (hy : y ≤ 64) : f_M_common (nI x) (nI y) = some (nI (Nat.gcd x y)) := common_loop ip_FU x y hx hy (by rw [FU_eq]; omega)
theorem freeWays_eq {C : ip_St} {c : Nat} {d : JD} (hd : jok d) (hc : jC C c d) : f_A_freeWays c C = some (wy d &&& fre d.1 (C.2 17 0)) := by
  unfold f_A_freeWays
  rw [worlds_eq hd hc]
  simp only [Option.bind_some]
  rw [hc.1, freed_eq hd.1]
  rfl
theorem pc_pos {x : Int64} (h : ¬ x = 0) : 0 < pc x := by
  rcases Nat.eq_zero_or_pos (pc x) with q | q
  · exact absurd (pc_zero.mp q) h
  · exact q
theorem odds_core {C M : ip_St} {J j : Nat} (hT : RT M) (hJ : J ≤ 3) (hn : RNow C M J) (hj : j < J) (p2 : Int32) : ∃ r, ((f_A_freeWays (14 + j) C).bind fun zv6 => ((f_J_worlds (14 + j) C).bind fun zv8 => ((f_A_commonPart (f_G_bitCount zv6) (f_G_bitCount zv8)).bind fun zv10 => (if p2 = 0 then (if zv10 = 0 then none else some ((f_G_bitCount zv6) / zv10)) else (if zv10 = 0 then none else some ((f_G_bitCount zv8) / zv10)))))) = some r ∧ f_M_oddsOf (nI j) p2 M = some r := by
  obtain ⟨d, d1, d2, d3, d4⟩ := jd_get hn hj
  unfold f_M_oddsOf
  have hb0 := pc_pos d2
  have hg : 0 < Nat.gcd (pc (wy d &&& fre d.1 (M.2 30 17))) (pc (wy d)) := Nat.gcd_pos_of_pos_right _ hb0
  have hg2 : Nat.gcd (pc (wy d &&& fre d.1 (M.2 30 17))) (pc (wy d)) ≤ 64 := Nat.le_trans (Nat.le_of_dvd hb0 (Nat.gcd_dvd_right _ _)) (pc_le _)
  have hg3 : ¬ nI (Nat.gcd (pc (wy d &&& fre d.1 (M.2 30 17))) (pc (wy d))) = 0 := nI_ne0 hg (by omega)
  rw [freeWays_eq d1 d3, worlds_eq d1 d3, waysOf_eq hT (by omega) d1 d4, freesOf_eq (by omega) d1 d4, law_eq hn (by omega)]
  simp only [Option.bind_some]
  rw [ones_eq, ones_eq, bitCount_eq, bitCount_eq]
  simp only [Option.bind_some]
  rw [commonPart_eq (pc_le _) (pc_le _) hb0, common_eq (pc_le _) (pc_le _), Nat.gcd_comm (pc (wy d)) _]
  simp only [Option.bind_some, if_neg hg3]
  split
  · exact ⟨_, rfl, rfl⟩
  · exact ⟨_, rfl, rfl⟩
theorem op_odds {N : Nat} {C M : ip_St} (h : Rel2 N C M) (p1 p2 : Int32) : ∃ r, f_A_odds p1 p2 C = some r ∧ f_M_odds p1 p2 M = some r := by
  obtain ⟨hT, -, -, J, cr, hJ, hj, hn, -⟩ := id h
  have hc : C.1 12 1 = nI J := hn.1
  unfold f_A_odds f_M_odds
  rw [in_R p2 0 1 0 1 (by decide) (by decide)]
  rcases judge_cs hJ hc hj p1 with ⟨j, j1, rfl, j2, j3⟩ | ⟨j2, j3⟩
  · rw [if_pos j2, if_pos j3]
    rcases num_cs p2 1 (by decide) with ⟨k, h1, h2, h3, h4, h5, h6⟩ | ⟨h1, h2⟩
    · rw [h3, if_neg h4, if_pos (show p2 ≤ 1 from h5), aA13 j (by omega)]
      simp only [Option.bind_some, Bool.true_eq_false, if_false]
      obtain ⟨r, r1, r2⟩ := odds_core hT hJ hn j1 p2
      exact ⟨r, r1, by rw [r2]; rfl⟩
    · rw [h1, if_pos rfl]
      rcases h2 with h2 | ⟨h2, h3, h4, h5, h6⟩
      · rw [if_pos h2]
        exact ⟨_, rfl, rfl⟩
      · rw [if_neg h2, if_neg (show ¬ p2 ≤ 1 from h3)]
        exact ⟨_, rfl, rfl⟩
  · rw [j2, j3]
    exact ⟨_, rfl, rfl⟩
/-! ===== verdicts, sums, count ===== -/
theorem sub_iff (x y : Int64) : x &&& y = x ↔ x &&& (y ^^^ (-1)) = 0 := by
  constructor
  · intro h
    rw [lb_zero]
    intro w hw
    have h1 : lb (x &&& y) w = lb x w := by rw [h]
    rw [lb_and] at h1
    rw [lb_and, lb_not _ hw]
    cases hx : lb x w <;> cases hy : lb y w <;> simp_all
  · intro h
    rw [lb_zero] at h
    apply lb_ext
    intro w hw
    have h1 := h w hw
    rw [lb_and, lb_not _ hw] at h1
    rw [lb_and]
    cases hx : lb x w <;> cases hy : lb y w <;> simp_all
theorem verdict_eq {C : ip_St} {c : Nat} {d : JD} (hd : jok d) (hc : jC C c d) : f_A_verdict c C = some (f_M_verdictBy (wy d) (fre d.1 (C.2 17 0))) := by
  unfold f_A_verdict f_M_verdictBy
  rw [worlds_eq hd hc]
  simp only [Option.bind_some]
  rw [hc.1, freed_eq hd.1]
  simp only [Option.bind_some]
  by_cases h1 : wy d &&& fre d.1 (C.2 17 0) = wy d
  · rw [if_pos h1, if_pos ((sub_iff _ _).mp h1)]
  · rw [if_neg h1, if_neg (fun q => h1 ((sub_iff _ _).mpr q))]
    split
    · rfl
    · rfl
theorem many_loop {M : ip_St} {j b v : Nat} (hj : j < 3) (hM : ∀ f, f < 6 → M.1 43 (6 * j + f) = kf b v f) : ∀ (e f n : Nat), f + e = 6 → e < n → f_M_knownMany_4 n (nI j) (nI (ct (fun k => b.testBit k) f)) (nI f) M = some (nI (p6 b)) := by
  intro e
  induction e with
  | zero =>
    intro f n hf hn
    obtain rfl : f = 6 := by omega
    obtain ⟨m, rfl⟩ : ∃ m, n = m + 1 := ⟨n - 1, by omega⟩
    rw [f_M_knownMany_4, if_pos (by decide)]
    rfl
  | succ e ih =>
    intro f n hf hn
    obtain ⟨m, rfl⟩ : ∃ m, n = m + 1 := ⟨n - 1, by omega⟩
    have ih' := ih (f + 1) m (by omega) (by omega)
    rw [f_M_knownMany_4, if_neg (by rw [show (6 : Int32) = nI 6 from rfl, nI_leI (by omega) (by omega)]; omega), i6, aI_at (n := 18) rfl (by omega), hM f (by omega)]
    simp only [Option.bind_some]
    have hc : ct (fun k => b.testBit k) (f + 1) = ct (fun k => b.testBit k) f + (if b.testBit f = true then 1 else 0) := rfl
    rw [hc] at ih'
    rw [nI_1 f]
    by_cases hk : kf b v f = -1
    · rw [if_pos hk]
      rw [kf_neg] at hk
      rw [hk] at ih'
      simp only [Bool.false_eq_true, if_false] at ih'
      rw [show nI (ct (fun k => b.testBit k) f) + 0 = nI (ct (fun k => b.testBit k) f + 0) from nI_add _ 0]
      exact ih'
    · rw [if_neg hk]
      rw [kf_neg] at hk
      have hk2 : b.testBit f = true := by simpa using hk
      rw [hk2] at ih'
      simp only [if_true] at ih'
      rw [nI_1]
      exact ih'
theorem knownMany_eq {M : ip_St} {j : Nat} {d : JD} (hj : j < 3) (hm : jM M 42 43 44 j d) : f_M_knownMany (nI j) M = some (nI (p6 d.2.2.1)) := many_loop hj hm.2.2.1 6 0 ip_FU rfl (by decide)
theorem manyh_loop {M : ip_St} {j b v : Nat} (hj : j < 3) (hM : ∀ f, f < 6 → M.1 44 (6 * j + f) = kf b v f) : ∀ (e f n : Nat), f + e = 6 → e < n → f_M_heardMany_4 n (nI j) (nI (ct (fun k => b.testBit k) f)) (nI f) M = some (nI (p6 b)) := by
  intro e
  induction e with
  | zero =>
    intro f n hf hn
    obtain rfl : f = 6 := by omega
    obtain ⟨m, rfl⟩ : ∃ m, n = m + 1 := ⟨n - 1, by omega⟩
    rw [f_M_heardMany_4, if_pos (by decide)]
    rfl
  | succ e ih =>
    intro f n hf hn
    obtain ⟨m, rfl⟩ : ∃ m, n = m + 1 := ⟨n - 1, by omega⟩
    have ih' := ih (f + 1) m (by omega) (by omega)
    rw [f_M_heardMany_4, if_neg (by rw [show (6 : Int32) = nI 6 from rfl, nI_leI (by omega) (by omega)]; omega), i6, aI_at (n := 18) rfl (by omega), hM f (by omega)]
    simp only [Option.bind_some]
    have hc : ct (fun k => b.testBit k) (f + 1) = ct (fun k => b.testBit k) f + (if b.testBit f = true then 1 else 0) := rfl
    rw [hc] at ih'
    rw [nI_1 f]
    by_cases hk : kf b v f = -1
    · rw [if_pos hk]
      rw [kf_neg] at hk
      rw [hk] at ih'
      simp only [Bool.false_eq_true, if_false] at ih'
      rw [show nI (ct (fun k => b.testBit k) f) + 0 = nI (ct (fun k => b.testBit k) f + 0) from nI_add _ 0]
      exact ih'
    · rw [if_neg hk]
      rw [kf_neg] at hk
      have hk2 : b.testBit f = true := by simpa using hk
      rw [hk2] at ih'
      simp only [if_true] at ih'
      rw [nI_1]
      exact ih'
theorem heardMany_eq {M : ip_St} {j : Nat} {d : JD} (hj : j < 3) (hm : jM M 42 43 44 j d) : f_M_heardMany (nI j) M = some (nI (p6 d.2.2.2.2.1)) := manyh_loop hj hm.2.2.2 6 0 ip_FU rfl (by decide)
theorem Jle {J j : Nat} (hJ : J ≤ 3) (hj : j ≤ 3) : nI J ≤ nI j ↔ J ≤ j := nI_leI (by omega) (by omega)
theorem sumKnown_loop {C M : ip_St} {J : Nat} (hJ : J ≤ 3) (hM : M.1 30 18 = nI J) (hn : RNow C M J) : ∀ (e j n n' : Nat) (acc : Int32), j + e = J → e < n → e < n' → ∃ r, f_A_sumKnown_4 n acc (nI j) C = some r ∧ f_M_knownAll_4 n' acc (nI j) M = some r := by
  have hc : C.1 12 1 = nI J := hn.1
  intro e
  induction e with
  | zero =>
    intro j n n' acc hj h1 h2
    obtain ⟨m, rfl⟩ : ∃ m, n = m + 1 := ⟨n - 1, by omega⟩
    obtain ⟨m', rfl⟩ : ∃ m, n' = m + 1 := ⟨n' - 1, by omega⟩
    rw [f_A_sumKnown_4, f_M_knownAll_4, hc, hM, if_pos ((Jle hJ (by omega)).mpr (by omega)), if_pos ((Jle hJ (by omega)).mpr (by omega))]
    exact ⟨_, rfl, rfl⟩
  | succ e ih =>
    intro j n n' acc hj h1 h2
    obtain ⟨m, rfl⟩ : ∃ m, n = m + 1 := ⟨n - 1, by omega⟩
    obtain ⟨m', rfl⟩ : ∃ m, n' = m + 1 := ⟨n' - 1, by omega⟩
    obtain ⟨d, d1, d2, d3, d4⟩ := jd_get hn (show j < J by omega)
    rw [f_A_sumKnown_4, f_M_knownAll_4, hc, hM, if_neg (fun q => by have := (Jle hJ (by omega)).mp q; omega), if_neg (fun q => by have := (Jle hJ (by omega)).mp q; omega), aA13 j (by omega), knownMany_eq (by omega) d4]
    simp only [Option.bind_some]
    rw [d3.2.1, ibc_ck _ d1.2.1, nI_1]
    exact ih (j + 1) m m' _ (by omega) (by omega) (by omega)
theorem sumHeard_loop {C M : ip_St} {J : Nat} (hJ : J ≤ 3) (hM : M.1 30 18 = nI J) (hn : RNow C M J) : ∀ (e j n n' : Nat) (acc : Int32), j + e = J → e < n → e < n' → ∃ r, f_A_sumHeard_4 n acc (nI j) C = some r ∧ f_M_heardAll_4 n' acc (nI j) M = some r := by
  have hc : C.1 12 1 = nI J := hn.1
  intro e
  induction e with
  | zero =>
    intro j n n' acc hj h1 h2
    obtain ⟨m, rfl⟩ : ∃ m, n = m + 1 := ⟨n - 1, by omega⟩
    obtain ⟨m', rfl⟩ : ∃ m, n' = m + 1 := ⟨n' - 1, by omega⟩
    rw [f_A_sumHeard_4, f_M_heardAll_4, hc, hM, if_pos ((Jle hJ (by omega)).mpr (by omega)), if_pos ((Jle hJ (by omega)).mpr (by omega))]
    exact ⟨_, rfl, rfl⟩
  | succ e ih =>
    intro j n n' acc hj h1 h2
    obtain ⟨m, rfl⟩ : ∃ m, n = m + 1 := ⟨n - 1, by omega⟩
    obtain ⟨m', rfl⟩ : ∃ m, n' = m + 1 := ⟨n' - 1, by omega⟩
    obtain ⟨d, d1, d2, d3, d4⟩ := jd_get hn (show j < J by omega)
    rw [f_A_sumHeard_4, f_M_heardAll_4, hc, hM, if_neg (fun q => by have := (Jle hJ (by omega)).mp q; omega), if_neg (fun q => by have := (Jle hJ (by omega)).mp q; omega), aA13 j (by omega), heardMany_eq (by omega) d4]
    simp only [Option.bind_some]
    rw [d3.2.2.2.1, ibc_ck _ d1.2.2.2.1, nI_1]
    exact ih (j + 1) m m' _ (by omega) (by omega) (by omega)
theorem sumWays_loop {C M : ip_St} {J : Nat} (hT : RT M) (hJ : J ≤ 3) (hM : M.1 30 18 = nI J) (hn : RNow C M J) : ∀ (e j n n' : Nat) (acc : Int32), j + e = J → e < n → e < n' → ∃ r, f_A_sumWays_4 n acc (nI j) C = some r ∧ f_M_waysAll_4 n' acc (nI j) M = some r := by
  have hc : C.1 12 1 = nI J := hn.1
  intro e
  induction e with
  | zero =>
    intro j n n' acc hj h1 h2
    obtain ⟨m, rfl⟩ : ∃ m, n = m + 1 := ⟨n - 1, by omega⟩
    obtain ⟨m', rfl⟩ : ∃ m, n' = m + 1 := ⟨n' - 1, by omega⟩
    rw [f_A_sumWays_4, f_M_waysAll_4, hc, hM, if_pos ((Jle hJ (by omega)).mpr (by omega)), if_pos ((Jle hJ (by omega)).mpr (by omega))]
    exact ⟨_, rfl, rfl⟩
  | succ e ih =>
    intro j n n' acc hj h1 h2
    obtain ⟨m, rfl⟩ : ∃ m, n = m + 1 := ⟨n - 1, by omega⟩
    obtain ⟨m', rfl⟩ : ∃ m, n' = m + 1 := ⟨n' - 1, by omega⟩
    obtain ⟨d, d1, d2, d3, d4⟩ := jd_get hn (show j < J by omega)
    rw [f_A_sumWays_4, f_M_waysAll_4, hc, hM, if_neg (fun q => by have := (Jle hJ (by omega)).mp q; omega), if_neg (fun q => by have := (Jle hJ (by omega)).mp q; omega), aA13 j (by omega), waysOf_eq hT (by omega) d1 d4]
    simp only [Option.bind_some]
    rw [worlds_eq d1 d3, ones_eq]
    simp only [Option.bind_some]
    rw [bitCount_eq, nI_1]
    exact ih (j + 1) m m' _ (by omega) (by omega) (by omega)
theorem verdicts_loop {C M : ip_St} {J : Nat} (hT : RT M) (hJ : J ≤ 3) (hM : M.1 30 18 = nI J) (hn : RNow C M J) (v : Int32) : ∀ (e j n n' : Nat) (acc : Int32), j + e = J → e < n → e < n' → ∃ r, f_A_countVerdicts_4 n v acc (nI j) C = some r ∧ f_M_verdicts_4 n' v acc (nI j) M = some r := by
  have hc : C.1 12 1 = nI J := hn.1
  intro e
  induction e with
  | zero =>
    intro j n n' acc hj h1 h2
    obtain ⟨m, rfl⟩ : ∃ m, n = m + 1 := ⟨n - 1, by omega⟩
    obtain ⟨m', rfl⟩ : ∃ m, n' = m + 1 := ⟨n' - 1, by omega⟩
    rw [f_A_countVerdicts_4, f_M_verdicts_4, hc, hM, if_pos ((Jle hJ (by omega)).mpr (by omega)), if_pos ((Jle hJ (by omega)).mpr (by omega))]
    exact ⟨_, rfl, rfl⟩
  | succ e ih =>
    intro j n n' acc hj h1 h2
    obtain ⟨m, rfl⟩ : ∃ m, n = m + 1 := ⟨n - 1, by omega⟩
    obtain ⟨m', rfl⟩ : ∃ m, n' = m + 1 := ⟨n' - 1, by omega⟩
    obtain ⟨d, d1, d2, d3, d4⟩ := jd_get hn (show j < J by omega)
    rw [f_A_countVerdicts_4, f_M_verdicts_4, hc, hM, if_neg (fun q => by have := (Jle hJ (by omega)).mp q; omega), if_neg (fun q => by have := (Jle hJ (by omega)).mp q; omega), aA13 j (by omega), waysOf_eq hT (by omega) d1 d4, freesOf_eq (by omega) d1 d4]
    simp only [Option.bind_some]
    rw [verdict_eq d1 d3, law_eq hn (by omega), nI_1]
    simp only [Option.bind_some]
    by_cases hv : f_M_verdictBy (wy d) (fre d.1 (M.2 30 17)) = v
    · rw [if_pos hv, if_pos hv]
      exact ih (j + 1) m m' _ (by omega) (by omega) (by omega)
    · rw [if_neg hv, if_neg hv]
      exact ih (j + 1) m m' _ (by omega) (by omega) (by omega)
theorem count_eq {N : Nat} {C M : ip_St} (h : Rel2 N C M) (p : Int32) : ∃ r, f_A_count p C = some r ∧ f_M_countOf p M = some r := by
  obtain ⟨hT, ⟨pn, p1, p2, p3, -⟩, -, J, cr, hJ, hj, hn, -, c5, c6, -⟩ := id h
  have hc : C.1 12 1 = nI J := hn.1
  have ha : C.1 12 3 = M.1 30 20 := hn.2.1
  have hq : C.1 12 4 = M.1 30 19 := hn.2.2.1
  obtain ⟨-, -, -, -, -, s, s1, s2, s3, -⟩ := id hn
  have s2' : C.1 12 6 = nI s := s2
  obtain ⟨r2, a2, b2⟩ := sumWays_loop hT hJ hj hn J 0 ip_FU ip_FU 0 (by omega) (by rw [FU_eq]; omega) (by rw [FU_eq]; omega)
  obtain ⟨r3, a3, b3⟩ := verdicts_loop hT hJ hj hn 1 J 0 ip_FU ip_FU 0 (by omega) (by rw [FU_eq]; omega) (by rw [FU_eq]; omega)
  obtain ⟨r4, a4, b4⟩ := verdicts_loop hT hJ hj hn 2 J 0 ip_FU ip_FU 0 (by omega) (by rw [FU_eq]; omega) (by rw [FU_eq]; omega)
  obtain ⟨r6, a6, b6⟩ := sumHeard_loop hJ hj hn J 0 ip_FU ip_FU 0 (by omega) (by rw [FU_eq]; omega) (by rw [FU_eq]; omega)
  obtain ⟨r7, a7, b7⟩ := sumKnown_loop hJ hj hn J 0 ip_FU ip_FU 0 (by omega) (by rw [FU_eq]; omega) (by rw [FU_eq]; omega)
  have a2' : f_A_sumWays C = some r2 := a2
  have b2' : f_M_waysAll M = some r2 := b2
  have a3' : f_A_countVerdicts 1 C = some r3 := a3
  have b3' : f_M_verdicts 1 M = some r3 := b3
  have a4' : f_A_countVerdicts 2 C = some r4 := a4
  have b4' : f_M_verdicts 2 M = some r4 := b4
  have a6' : f_A_sumHeard C = some r6 := a6
  have b6' : f_M_heardAll M = some r6 := b6
  have a7' : f_A_sumKnown C = some r7 := a7
  have b7' : f_M_knownAll M = some r7 := b7
  have hl : ∃ r1, (if f_A_hasCourt C = false then some 0 else some (f_G_bitCount (C.2 17 0))) = some r1 ∧ (if f_M_lacks M = false then ((f_M_ones (M.2 30 17)).bind fun zv4 => some zv4) else some 0) = some r1 := by
    rcases court_cs hJ hc hj with ⟨-, c1, c2⟩ | ⟨c0, c1, c2⟩
    · rw [c1, c2]
      exact ⟨0, rfl, rfl⟩
    · rw [c1, c2, law_eq hn c0, ones_eq, bitCount_eq]
      exact ⟨_, rfl, rfl⟩
  obtain ⟨r1, l1, l2⟩ := hl
  unfold f_A_count f_M_countOf
  rw [l1, l2, a2', b2', a3', a4', a6', b6', a7', b7', hc, hj, ha, hq, s2', s3, p2, p3, c5, c6]
  by_cases e0 : p = 0
  · subst e0; exact ⟨_, rfl, rfl⟩
  by_cases e1 : p = 1
  · subst e1; exact ⟨_, rfl, rfl⟩
  by_cases e2 : p = 2
  · subst e2; exact ⟨_, rfl, rfl⟩
  by_cases e3 : p = 3
  · subst e3
    rw [show (3 : Int32) - 2 = 1 from rfl, b3']
    exact ⟨_, rfl, rfl⟩
  by_cases e4 : p = 4
  · subst e4
    rw [show (4 : Int32) - 2 = 2 from rfl, b4']
    exact ⟨_, rfl, rfl⟩
  simp only [if_neg e0, if_neg e1, if_neg e2, if_neg e3, if_neg e4]
  simp only [Option.bind_some]
  repeat' split
  all_goals exact ⟨_, rfl, rfl⟩
theorem op_count {N : Nat} {C M : ip_St} (h : Rel2 N C M) (p : Int32) : ∃ r, f_A_count p C = some r ∧ f_M_count p M = some r := by
  obtain ⟨r, h1, h2⟩ := count_eq h p
  exact ⟨r, h1, by unfold f_M_count; rw [h2]; rfl⟩
/-! ===== bench ===== -/
theorem tell1_eq {M : ip_St} {j : Nat} {d : JD} (hT : RT M) (hj : j < 3) (hd : jok d) (hm : jM M 42 43 44 j d) : f_M_tellJudge (nI j) 1 M = some (nI (pc (wy d)), M) := by
  unfold f_M_tellJudge
  rw [if_pos (by decide), if_pos (by decide), if_neg (by decide), if_pos rfl, waysOf_eq hT hj hd hm]
  simp only [Option.bind_some]
  rw [ones_eq]
  rfl
theorem tell2_eq {M : ip_St} {j : Nat} {d : JD} (hT : RT M) (hj : j < 3) (hd : jok d) (hm : jM M 42 43 44 j d) : f_M_tellJudge (nI j) 2 M = some (nI (pc (wy d &&& fre d.1 (M.2 30 17))), M) := by
  unfold f_M_tellJudge
  rw [if_pos (by decide), if_pos (by decide), if_neg (by decide), if_neg (by decide), if_pos rfl, waysOf_eq hT hj hd hm, freesOf_eq hj hd hm]
  simp only [Option.bind_some]
  rw [ones_eq]
  rfl
theorem bench_loop {C M : ip_St} {J : Nat} (hT : RT M) (hJ : J ≤ 3) (hM : M.1 30 18 = nI J) (hn : RNow C M J) : ∀ (e j n n' b x y : Nat) (d : JD), j + e = J → e < n → e < n' → b < j → jok d → ¬ wy d = 0 → jM M 42 43 44 b d → ((x = pc (wy d &&& fre d.1 (M.2 30 17)) ∧ y = pc (wy d)) ∨ (x = 0 ∧ y = 1 ∧ pc (wy d &&& fre d.1 (M.2 30 17)) = 0)) → ∃ r, f_A_bench_19 n (nI b) (nI x) (nI y) (nI j) C = some r ∧ f_M_benchOf_4 n' (nI b) (nI j) M = some (r, M) := by
  have hc : C.1 12 1 = nI J := hn.1
  intro e
  induction e with
  | zero =>
    intro j n n' b x y d hj h1 h2 hb g1 g2 g3 g4
    obtain ⟨m, rfl⟩ : ∃ m, n = m + 1 := ⟨n - 1, by omega⟩
    obtain ⟨m', rfl⟩ : ∃ m, n' = m + 1 := ⟨n' - 1, by omega⟩
    rw [f_A_bench_19, f_M_benchOf_4, hc, hM, if_pos ((Jle hJ (by omega)).mpr (by omega)), if_pos ((Jle hJ (by omega)).mpr (by omega))]
    exact ⟨_, rfl, rfl⟩
  | succ e ih =>
    intro j n n' b x y d hj h1 h2 hb g1 g2 g3 g4
    obtain ⟨m, rfl⟩ : ∃ m, n = m + 1 := ⟨n - 1, by omega⟩
    obtain ⟨m', rfl⟩ : ∃ m, n' = m + 1 := ⟨n' - 1, by omega⟩
    obtain ⟨d', d1, d2, d3, d4⟩ := jd_get hn (show j < J by omega)
    rw [f_A_bench_19, f_M_benchOf_4, hc, hM, if_neg (fun q => by have := (Jle hJ (by omega)).mp q; omega), if_neg (fun q => by have := (Jle hJ (by omega)).mp q; omega), aA13 j (by omega), tell2_eq hT (by omega) d1 d4]
    simp only [Option.bind_some]
    rw [freeWays_eq d1 d3, worlds_eq d1 d3, tell1_eq hT (by omega) g1 g3, law_eq hn (by omega)]
    simp only [Option.bind_some]
    rw [tell2_eq hT (by omega) g1 g3]
    simp only [Option.bind_some]
    rw [tell1_eq hT (by omega) d1 d4]
    simp only [Option.bind_some]
    rw [bitCount_eq, bitCount_eq, pk_mul, pk_mul, pk_mul, pk_mul, nI_1]
    have k1 := pc_le (wy d' &&& fre d'.1 (M.2 30 17))
    have k2 := pc_le (wy d')
    have k3 := pc_le (wy d &&& fre d.1 (M.2 30 17))
    have k4 := pc_le (wy d)
    have k5 := pc_pos g2
    have bnd : ∀ u v : Nat, u ≤ 64 → v ≤ 64 → u * v < 2 ^ 31 := fun u v hu hv => Nat.lt_of_le_of_lt (Nat.mul_le_mul hu hv) (by decide)
    have hx : x ≤ 64 ∧ y ≤ 64 := by omega
    have same : (pc (wy d' &&& fre d'.1 (M.2 30 17)) * y ≤ x * pc (wy d')) ↔ (pc (wy d' &&& fre d'.1 (M.2 30 17)) * pc (wy d) ≤ pc (wy d &&& fre d.1 (M.2 30 17)) * pc (wy d')) := by
      rcases g4 with ⟨rfl, rfl⟩ | ⟨rfl, rfl, q⟩
      · exact Iff.rfl
      · rw [q, Nat.zero_mul, Nat.mul_one]
        constructor
        · intro w
          have : pc (wy d' &&& fre d'.1 (M.2 30 17)) = 0 := by omega
          rw [this, Nat.zero_mul]
          exact Nat.le_refl 0
        · intro w
          rcases Nat.eq_zero_or_pos (pc (wy d' &&& fre d'.1 (M.2 30 17))) with z | z
          · omega
          · have := Nat.mul_pos z k5
            omega
    by_cases hle : pc (wy d' &&& fre d'.1 (M.2 30 17)) * y ≤ x * pc (wy d')
    · rw [if_pos ((nI_leI (bnd _ _ k1 hx.2) (bnd _ _ hx.1 k2)).mpr hle), if_pos ((nI_leI (bnd _ _ k1 k4) (bnd _ _ k3 k2)).mpr (same.mp hle))]
      exact ih (j + 1) m m' b x y d (by omega) (by omega) (by omega) (by omega) g1 g2 g3 g4
    · rw [if_neg (fun q => hle ((nI_leI (bnd _ _ k1 hx.2) (bnd _ _ hx.1 k2)).mp q)), if_neg (fun q => hle (same.mpr ((nI_leI (bnd _ _ k1 k4) (bnd _ _ k3 k2)).mp q)))]
      exact ih (j + 1) m m' j _ _ d' (by omega) (by omega) (by omega) (by omega) d1 d2 d4 (Or.inl ⟨rfl, rfl⟩)
theorem benchOf_eq {C M : ip_St} {J : Nat} (hT : RT M) (hJ : J ≤ 3) (hM : M.1 30 18 = nI J) (hn : RNow C M J) (h0 : 0 < J) : ∃ r, f_A_bench_19 ip_FU 0 0 1 0 C = some r ∧ f_M_benchOf M = some (r, M) := by
  have hc : C.1 12 1 = nI J := hn.1
  obtain ⟨d, d1, d2, d3, d4⟩ := jd_get hn h0
  have d3' : jC C 14 d := d3
  have e1 : f_A_bench_19 ip_FU 0 0 1 0 C = f_A_bench_19 (999 + 1) (nI 0) (nI 0) (nI 1) (nI 0) C := rfl
  rw [e1, f_A_bench_19, hc, if_neg (fun q => by have := (Jle hJ (by omega)).mp q; omega), aA13 0 (by omega)]
  simp only [Option.bind_some]
  rw [freeWays_eq d1 d3, worlds_eq d1 d3, law_eq hn h0]
  simp only [Option.bind_some]
  rw [bitCount_eq, bitCount_eq, pk_mul, pk_mul, nI_1]
  have k1 := pc_le (wy d &&& fre d.1 (M.2 30 17))
  have e2 : f_M_benchOf M = f_M_benchOf_4 ip_FU (nI 0) (nI 1) M := rfl
  rw [e2]
  by_cases hle : pc (wy d &&& fre d.1 (M.2 30 17)) * 1 ≤ 0 * pc (wy d)
  · rw [if_pos ((nI_leI (by omega) (by omega)).mpr hle)]
    exact bench_loop hT hJ hM hn (J - 1) 1 999 ip_FU 0 0 1 d (by omega) (by omega) (by rw [FU_eq]; omega) (by omega) d1 d2 d4 (Or.inr ⟨rfl, rfl, by omega⟩)
  · rw [if_neg (fun q => hle ((nI_leI (by omega) (by omega)).mp q))]
    exact bench_loop hT hJ hM hn (J - 1) 1 999 ip_FU 0 _ _ d (by omega) (by omega) (by rw [FU_eq]; omega) (by omega) d1 d2 d4 (Or.inl ⟨rfl, rfl⟩)
theorem bench_eq {N : Nat} {C M : ip_St} (h : Rel2 N C M) : ∃ r, f_A_bench C = some r ∧ f_M_bench M = some (r, M) := by
  obtain ⟨hT, -, -, J, cr, hJ, hj, hn, -⟩ := id h
  have hc : C.1 12 1 = nI J := hn.1
  unfold f_A_bench f_M_bench
  rcases court_cs hJ hc hj with ⟨-, c1, c2⟩ | ⟨c0, c1, c2⟩
  · rw [c1, c2]
    exact ⟨_, rfl, rfl⟩
  · rw [c1, c2]
    obtain ⟨r, r1, r2⟩ := benchOf_eq hT hJ hj hn c0
    refine ⟨r, ?_, ?_⟩
    · rw [if_pos rfl]
      exact r1
    · rw [if_pos rfl, r2]
      rfl
