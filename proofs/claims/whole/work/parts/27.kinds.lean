/-! ===== kinds left, the best test ===== -/
theorem answer_ck : ∀ k, k < 5 → ∀ f, f < 6 → ∀ b, b < 2 → f_A_answer (nI k) (nI f) (nI b) = some (f_M_saidBy (nI k) (nI f) (nI b)) := by decide +kernel
theorem seen_ck : ∀ j, j < 3 → ∀ f, f < 6 → ∀ is, is < 2 → ∀ sd, sd < 2 → nI ((j * 6 + f) * 4 + is * 2 + sd) / 4 / 6 = nI j ∧ ip_irem (nI ((j * 6 + f) * 4 + is * 2 + sd) / 4) 6 = nI f ∧ f_A_bit (nI ((j * 6 + f) * 4 + is * 2 + sd)) 1 = nI is ∧ f_A_bit (nI ((j * 6 + f) * 4 + is * 2 + sd)) 0 = nI sd := by decide +kernel
def en (M : ip_St) (k j i : Nat) : Bool := !(decide (M.1 49 (4 * i) = nI j)) || decide (f_M_saidBy (nI k) (M.1 49 (4 * i + 1)) (M.1 49 (4 * i + 2)) = M.1 49 (4 * i + 3))
def enA (M : ip_St) (k j : Nat) : Nat → Nat → Bool
  | 0, _ => true
  | e + 1, i => en M k j i && enA M k j e (i + 1)
theorem couldBe_loop {C M : ip_St} {s k j : Nat} (hk : k < 5) (hj : j < 3) (hs : s ≤ 8) (hC : C.1 12 6 = nI s) (hE : ∀ i, i < s → RSn1 C M 18 49 i) : ∀ (e i n : Nat), i + e = s → e < n → f_D_couldBe_12_2 n (nI j) (nI k) (nI i) C = some (enA M k j e i) := by
  intro e
  induction e with
  | zero =>
    intro i n hi hn
    obtain ⟨m, rfl⟩ : ∃ m, n = m + 1 := ⟨n - 1, by omega⟩
    rw [f_D_couldBe_12_2, hC, if_pos (by rw [nI_leI (by omega) (by omega)]; omega)]
    rfl
  | succ e ih =>
    intro i n hi hn
    obtain ⟨m, rfl⟩ : ∃ m, n = m + 1 := ⟨n - 1, by omega⟩
    have ih' := ih (i + 1) m (by omega) (by omega)
    obtain ⟨j', f, is, sd, q1, q2, q3, q4, q5, q6, q7, q8, q9⟩ := hE i (by omega)
    obtain ⟨t1, t2, t3, t4⟩ := seen_ck j' q1 f q2 is q3 sd q4
    rw [f_D_couldBe_12_2, hC, if_neg (by rw [nI_leI (by omega) (by omega)]; omega), aI_at (n := 8) rfl (by omega), q5]
    simp only [Option.bind_some]
    unfold f_D_couldBe_12_34
    rw [aI_at (n := 8) rfl (by omega), q5, nI_1, t1]
    simp only [Option.bind_some]
    rw [t2, t3, t4, answer_ck k hk f q2 is q3]
    simp only [Option.bind_some]
    simp only [enA]
    unfold en
    rw [q6, q7, q8, q9]
    by_cases h1 : nI j' = nI j
    · rw [if_pos h1, if_neg (by decide), decide_eq_true h1]
      by_cases h2 : f_M_saidBy (nI k) (nI f) (nI is) = nI sd
      · rw [if_pos h2, decide_eq_true h2]
        exact ih'
      · rw [if_neg h2, decide_eq_false h2]
        rfl
    · rw [if_neg h1, if_pos trivial, decide_eq_false h1]
      exact ih'
theorem kindsOf_in {M : ip_St} {s k j : Nat} (k4 : Int32 → Int32 → Int32 → ip_St → Option Int32) (acc : Int32) (hs : s ≤ 8) (hM : M.1 30 29 = nI s) : ∀ (e i n : Nat) (m : Bool), i + e = s → e < n → f_M_kindsOf_15 k4 n (nI j) acc (nI k) (b2 m) (nI (4 * i)) M = k4 (nI j) (acc ||| (if m && enA M k j e i then ip_ishl 1 (nI k) else 0)) (nI (k + 1)) M := by
  intro e
  induction e with
  | zero =>
    intro i n m hi hn
    obtain ⟨q, rfl⟩ : ∃ q, n = q + 1 := ⟨n - 1, by omega⟩
    rw [f_M_kindsOf_15, hM, show (4 : Int32) = nI 4 from rfl, pk_mul, if_pos (by rw [nI_leI (by omega) (by omega)]; omega), nI_1]
    cases m
    · rw [if_pos (by decide)]
      rfl
    · rw [if_neg (by decide)]
      rfl
  | succ e ih =>
    intro i n m hi hn
    obtain ⟨q, rfl⟩ : ∃ q, n = q + 1 := ⟨n - 1, by omega⟩
    have ih' := fun z => ih (i + 1) q z (by omega) (by omega)
    have n4 : nI (4 * i) + nI 4 = nI (4 * (i + 1)) := nI_add (4 * i) 4
    have n1 : nI (4 * i) + 1 = nI (4 * i + 1) := nI_add (4 * i) 1
    have n2 : nI (4 * i) + 2 = nI (4 * i + 2) := nI_add (4 * i) 2
    have n3 : nI (4 * i) + 3 = nI (4 * i + 3) := nI_add (4 * i) 3
    rw [f_M_kindsOf_15, hM, show (4 : Int32) = nI 4 from rfl, pk_mul, if_neg (by rw [nI_leI (by omega) (by omega)]; omega), n4]
    cases m
    · rw [if_pos (by decide)]
      exact ih' false
    · rw [if_neg (by decide), aI_at (n := 32) rfl (by omega)]
      simp only [Option.bind_some]
      rw [n1, n2, n3, aI_at (n := 32) rfl (by omega), aI_at (n := 32) rfl (by omega), aI_at (n := 32) rfl (by omega)]
      simp only [Option.bind_some]
      have ex : enA M k j (e + 1) i = (en M k j i && enA M k j e (i + 1)) := rfl
      rw [ex]
      unfold en
      by_cases h1 : M.1 49 (4 * i) = nI j
      · rw [if_pos h1, decide_eq_true h1]
        by_cases h2 : f_M_saidBy (nI k) (M.1 49 (4 * i + 1)) (M.1 49 (4 * i + 2)) = M.1 49 (4 * i + 3)
        · rw [if_pos h2, decide_eq_true h2]
          exact ih' true
        · rw [if_neg h2, decide_eq_false h2]
          exact ih' false
      · rw [if_neg h1, decide_eq_false h1]
        exact ih' true
theorem kinds_loop {C M : ip_St} {s j : Nat} (hj : j < 3) (hs : s ≤ 8) (hC : C.1 12 6 = nI s) (hM : M.1 30 29 = nI s) (hE : ∀ i, i < s → RSn1 C M 18 49 i) : ∀ (e k n n' a : Nat), k + e = 5 → e < n → e < n' → a < 2 ^ k → ∃ r, r < 32 ∧ f_A_kindsLeft_4 n (nI j) (nI a) (nI k) C = some (nI r) ∧ f_M_kindsOf_4 n' (nI j) (nI a) (nI k) M = some (nI r) := by
  intro e
  induction e with
  | zero =>
    intro k n n' a hk hn hn' ha
    obtain rfl : k = 5 := by omega
    obtain ⟨m, rfl⟩ : ∃ m, n = m + 1 := ⟨n - 1, by omega⟩
    obtain ⟨m', rfl⟩ : ∃ m, n' = m + 1 := ⟨n' - 1, by omega⟩
    rw [f_A_kindsLeft_4, if_pos (by decide), f_M_kindsOf_4, if_pos (by decide)]
    exact ⟨a, ha, rfl, rfl⟩
  | succ e ih =>
    intro k n n' a hk hn hn' ha
    obtain ⟨m, rfl⟩ : ∃ m, n = m + 1 := ⟨n - 1, by omega⟩
    obtain ⟨m', rfl⟩ : ∃ m, n' = m + 1 := ⟨n' - 1, by omega⟩
    have h5 : ¬ (5 : Int32) ≤ nI k := by rw [show (5 : Int32) = nI 5 from rfl, nI_leI (by omega) (by omega)]; omega
    have cb : f_D_couldBe_12 (nI j) (nI k) C = some (enA M k j s 0) := couldBe_loop (by omega) hj hs hC hE s 0 ip_FU (by omega) (by rw [FU_eq]; omega)
    have ki := kindsOf_in (M := M) (k := k) (j := j) (f_M_kindsOf_4 m') (nI a) hs hM s 0 ip_FU true (by omega) (by rw [FU_eq]; omega)
    have ki' : f_M_kindsOf_15 (f_M_kindsOf_4 m') ip_FU (nI j) (nI a) (nI k) 1 0 M = f_M_kindsOf_4 m' (nI j) (nI a ||| (if enA M k j s 0 then ip_ishl 1 (nI k) else 0)) (nI (k + 1)) M := ki
    rw [f_A_kindsLeft_4, if_neg h5, f_M_kindsOf_4, if_neg h5, cb, ki', Option.bind_some, nI_1, shl_ck k (by omega), nI_or]
    have hp : 2 ^ k < 2 ^ (k + 1) := Nat.pow_lt_pow_right (by decide) (by omega)
    cases hb : enA M k j s 0
    · rw [if_pos rfl, if_neg (by decide), or_0]
      exact ih (k + 1) m m' a (by omega) (by omega) (by omega) (by omega)
    · rw [if_neg (by decide), if_pos rfl, nI_or]
      exact ih (k + 1) m m' _ (by omega) (by omega) (by omega) (Nat.or_lt_two_pow (by omega) hp)
theorem kinds_eq {C M : ip_St} {J j : Nat} (hn : RNow C M J) (hJ : J ≤ 3) (hj : j < J) : ∃ r, r < 32 ∧ f_A_kindsLeft (nI j) C = some (nI r) ∧ f_M_kindsOf (nI j) M = some (nI r) := by
  obtain ⟨-, -, -, -, -, s, s1, s2, s3, s4⟩ := hn
  exact kinds_loop (by omega) s1 s2 s3 s4 5 0 ip_FU ip_FU 0 (by omega) (by rw [FU_eq]; omega) (by rw [FU_eq]; omega) (by decide)
def S00 : ip_St := (fun _ _ => 0, fun _ _ => 0)
theorem test_in {k15 : Int32 → Int32 → Int32 → Int32 → ip_St → Option Int32} (hk : ∀ a b c d S, k15 a b c d S = k15 a b c d S00) : ∀ (n : Nat) (x2 x3 x4 x5 x6 x7 x8 : Int32) (S : ip_St), f_M_testOf_35 k15 n x2 x3 x4 x5 x6 x7 x8 S = f_M_testOf_35 k15 n x2 x3 x4 x5 x6 x7 x8 S00 := by
  intro n
  induction n with
  | zero => intros; rfl
  | succ n ih =>
    intro x2 x3 x4 x5 x6 x7 x8 S
    have h118 : ∀ a b c d e, f_M_testOf_118 k15 a b c d e S = f_M_testOf_118 k15 a b c d e S00 := by
      intro a b c d e
      unfold f_M_testOf_118
      rw [hk _ _ _ _ S, hk _ _ _ _ S]
    have h103 : ∀ a b c d e, f_M_testOf_103 k15 a b c d e S = f_M_testOf_103 k15 a b c d e S00 := by
      intro a b c d e
      unfold f_M_testOf_103
      rw [h118, h118]
    rw [f_M_testOf_35, f_M_testOf_35, h103, h103, ih]
theorem test_st : ∀ (n : Nat) (x2 x3 x4 x5 : Int32) (S : ip_St), f_M_testOf_15 n x2 x3 x4 x5 S = f_M_testOf_15 n x2 x3 x4 x5 S00 := by
  intro n
  induction n with
  | zero => intros; rfl
  | succ n ih =>
    intro x2 x3 x4 x5 S
    rw [f_M_testOf_15, f_M_testOf_15, test_in ih]
theorem test_ck : ∀ b, b < 32 → f_M_testOf_15 ip_FU (nI b) (-1) 6 0 S00 = f_A_bestTest (nI b) ∧ (f_A_bestTest (nI b)).isSome = true := by decide +kernel
theorem test_eq {C M : ip_St} {J j : Nat} (hn : RNow C M J) (hJ : J ≤ 3) (hj : j < J) : ∃ r, ((f_A_kindsLeft (nI j) C).bind fun zv23 => f_A_bestTest zv23) = some r ∧ f_M_testOf (nI j) M = some r := by
  obtain ⟨b, b1, b2, b3⟩ := kinds_eq hn hJ hj
  unfold f_M_testOf
  obtain ⟨t1, t2⟩ := test_ck b b1
  obtain ⟨r, hr⟩ := Option.isSome_iff_exists.mp t2
  refine ⟨r, ?_, ?_⟩
  · rw [b2, Option.bind_some]
    exact hr
  · rw [b3, Option.bind_some, test_st, t1]
    exact hr
