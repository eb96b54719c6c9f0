/-! ===== copies of rows; image, restore ===== -/
theorem cp_41_50 : ∀ (e i n : Nat) (S : ip_St), i + e = 56 → e < n → ∃ S', f_M_copy_41_50_2 n (nI i) S = some S' ∧ S'.2 = S.2 ∧ ∀ a b, S'.1 a b = if a = 50 ∧ i ≤ b ∧ b < 56 then S.1 41 b else S.1 a b := by
  intro e
  induction e with
  | zero =>
    intro i n S hi hn
    obtain rfl : i = 56 := by omega
    obtain ⟨m, rfl⟩ : ∃ m, n = m + 1 := ⟨n - 1, by omega⟩
    rw [f_M_copy_41_50_2, if_pos (by decide)]
    exact ⟨S, rfl, rfl, fun a b => by rw [if_neg (by omega)]⟩
  | succ e ih =>
    intro i n S hi hn
    obtain ⟨m, rfl⟩ : ∃ m, n = m + 1 := ⟨n - 1, by omega⟩
    rw [f_M_copy_41_50_2, if_neg (by rw [show (56 : Int32) = nI 56 from rfl, nI_leI (by omega) (by omega)]; omega), aI_at (n := 56) rfl (by omega), Option.bind_some, wI_at (n := 56) rfl (by omega), Option.bind_some, nI_1]
    obtain ⟨S', h1, h2, h3⟩ := ih (i + 1) m (ip_upI S 50 i (S.1 41 i)) (by omega) (by omega)
    refine ⟨S', h1, h2, fun a b => ?_⟩
    rw [h3 a b, upI_ne _ _ (show ¬ (41 = 50 ∧ b = i) by omega), upI_f]
    by_cases g1 : a = 50 ∧ i + 1 ≤ b ∧ b < 56
    · rw [if_pos g1, if_pos (by omega)]
    · rw [if_neg g1]
      by_cases g2 : a = 50 ∧ b = i
      · rw [if_pos g2, if_pos (by omega), g2.2]
      · rw [if_neg g2, if_neg (by omega)]
theorem cpe_41_50 (S : ip_St) : ∃ S', f_M_copy_41_50 S = some S' ∧ S'.2 = S.2 ∧ ∀ a b, S'.1 a b = if a = 50 ∧ 0 ≤ b ∧ b < 56 then S.1 41 b else S.1 a b := cp_41_50 56 0 ip_FU S rfl (by rw [FU_eq]; omega)
theorem cp_42_51 : ∀ (e i n : Nat) (S : ip_St), i + e = 6 → e < n → ∃ S', f_M_copy_42_51_2 n (nI i) S = some S' ∧ S'.2 = S.2 ∧ ∀ a b, S'.1 a b = if a = 51 ∧ i ≤ b ∧ b < 6 then S.1 42 b else S.1 a b := by
  intro e
  induction e with
  | zero =>
    intro i n S hi hn
    obtain rfl : i = 6 := by omega
    obtain ⟨m, rfl⟩ : ∃ m, n = m + 1 := ⟨n - 1, by omega⟩
    rw [f_M_copy_42_51_2, if_pos (by decide)]
    exact ⟨S, rfl, rfl, fun a b => by rw [if_neg (by omega)]⟩
  | succ e ih =>
    intro i n S hi hn
    obtain ⟨m, rfl⟩ : ∃ m, n = m + 1 := ⟨n - 1, by omega⟩
    rw [f_M_copy_42_51_2, if_neg (by rw [show (6 : Int32) = nI 6 from rfl, nI_leI (by omega) (by omega)]; omega), aI_at (n := 6) rfl (by omega), Option.bind_some, wI_at (n := 6) rfl (by omega), Option.bind_some, nI_1]
    obtain ⟨S', h1, h2, h3⟩ := ih (i + 1) m (ip_upI S 51 i (S.1 42 i)) (by omega) (by omega)
    refine ⟨S', h1, h2, fun a b => ?_⟩
    rw [h3 a b, upI_ne _ _ (show ¬ (42 = 51 ∧ b = i) by omega), upI_f]
    by_cases g1 : a = 51 ∧ i + 1 ≤ b ∧ b < 6
    · rw [if_pos g1, if_pos (by omega)]
    · rw [if_neg g1]
      by_cases g2 : a = 51 ∧ b = i
      · rw [if_pos g2, if_pos (by omega), g2.2]
      · rw [if_neg g2, if_neg (by omega)]
theorem cpe_42_51 (S : ip_St) : ∃ S', f_M_copy_42_51 S = some S' ∧ S'.2 = S.2 ∧ ∀ a b, S'.1 a b = if a = 51 ∧ 0 ≤ b ∧ b < 6 then S.1 42 b else S.1 a b := cp_42_51 6 0 ip_FU S rfl (by rw [FU_eq]; omega)
theorem cp_43_52 : ∀ (e i n : Nat) (S : ip_St), i + e = 18 → e < n → ∃ S', f_M_copy_43_52_2 n (nI i) S = some S' ∧ S'.2 = S.2 ∧ ∀ a b, S'.1 a b = if a = 52 ∧ i ≤ b ∧ b < 18 then S.1 43 b else S.1 a b := by
  intro e
  induction e with
  | zero =>
    intro i n S hi hn
    obtain rfl : i = 18 := by omega
    obtain ⟨m, rfl⟩ : ∃ m, n = m + 1 := ⟨n - 1, by omega⟩
    rw [f_M_copy_43_52_2, if_pos (by decide)]
    exact ⟨S, rfl, rfl, fun a b => by rw [if_neg (by omega)]⟩
  | succ e ih =>
    intro i n S hi hn
    obtain ⟨m, rfl⟩ : ∃ m, n = m + 1 := ⟨n - 1, by omega⟩
    rw [f_M_copy_43_52_2, if_neg (by rw [show (18 : Int32) = nI 18 from rfl, nI_leI (by omega) (by omega)]; omega), aI_at (n := 18) rfl (by omega), Option.bind_some, wI_at (n := 18) rfl (by omega), Option.bind_some, nI_1]
    obtain ⟨S', h1, h2, h3⟩ := ih (i + 1) m (ip_upI S 52 i (S.1 43 i)) (by omega) (by omega)
    refine ⟨S', h1, h2, fun a b => ?_⟩
    rw [h3 a b, upI_ne _ _ (show ¬ (43 = 52 ∧ b = i) by omega), upI_f]
    by_cases g1 : a = 52 ∧ i + 1 ≤ b ∧ b < 18
    · rw [if_pos g1, if_pos (by omega)]
    · rw [if_neg g1]
      by_cases g2 : a = 52 ∧ b = i
      · rw [if_pos g2, if_pos (by omega), g2.2]
      · rw [if_neg g2, if_neg (by omega)]
theorem cpe_43_52 (S : ip_St) : ∃ S', f_M_copy_43_52 S = some S' ∧ S'.2 = S.2 ∧ ∀ a b, S'.1 a b = if a = 52 ∧ 0 ≤ b ∧ b < 18 then S.1 43 b else S.1 a b := cp_43_52 18 0 ip_FU S rfl (by rw [FU_eq]; omega)
theorem cp_44_53 : ∀ (e i n : Nat) (S : ip_St), i + e = 18 → e < n → ∃ S', f_M_copy_44_53_2 n (nI i) S = some S' ∧ S'.2 = S.2 ∧ ∀ a b, S'.1 a b = if a = 53 ∧ i ≤ b ∧ b < 18 then S.1 44 b else S.1 a b := by
  intro e
  induction e with
  | zero =>
    intro i n S hi hn
    obtain rfl : i = 18 := by omega
    obtain ⟨m, rfl⟩ : ∃ m, n = m + 1 := ⟨n - 1, by omega⟩
    rw [f_M_copy_44_53_2, if_pos (by decide)]
    exact ⟨S, rfl, rfl, fun a b => by rw [if_neg (by omega)]⟩
  | succ e ih =>
    intro i n S hi hn
    obtain ⟨m, rfl⟩ : ∃ m, n = m + 1 := ⟨n - 1, by omega⟩
    rw [f_M_copy_44_53_2, if_neg (by rw [show (18 : Int32) = nI 18 from rfl, nI_leI (by omega) (by omega)]; omega), aI_at (n := 18) rfl (by omega), Option.bind_some, wI_at (n := 18) rfl (by omega), Option.bind_some, nI_1]
    obtain ⟨S', h1, h2, h3⟩ := ih (i + 1) m (ip_upI S 53 i (S.1 44 i)) (by omega) (by omega)
    refine ⟨S', h1, h2, fun a b => ?_⟩
    rw [h3 a b, upI_ne _ _ (show ¬ (44 = 53 ∧ b = i) by omega), upI_f]
    by_cases g1 : a = 53 ∧ i + 1 ≤ b ∧ b < 18
    · rw [if_pos g1, if_pos (by omega)]
    · rw [if_neg g1]
      by_cases g2 : a = 53 ∧ b = i
      · rw [if_pos g2, if_pos (by omega), g2.2]
      · rw [if_neg g2, if_neg (by omega)]
theorem cpe_44_53 (S : ip_St) : ∃ S', f_M_copy_44_53 S = some S' ∧ S'.2 = S.2 ∧ ∀ a b, S'.1 a b = if a = 53 ∧ 0 ≤ b ∧ b < 18 then S.1 44 b else S.1 a b := cp_44_53 18 0 ip_FU S rfl (by rw [FU_eq]; omega)
theorem cp_49_54 : ∀ (e i n : Nat) (S : ip_St), i + e = 32 → e < n → ∃ S', f_M_copy_49_54_2 n (nI i) S = some S' ∧ S'.2 = S.2 ∧ ∀ a b, S'.1 a b = if a = 54 ∧ i ≤ b ∧ b < 32 then S.1 49 b else S.1 a b := by
  intro e
  induction e with
  | zero =>
    intro i n S hi hn
    obtain rfl : i = 32 := by omega
    obtain ⟨m, rfl⟩ : ∃ m, n = m + 1 := ⟨n - 1, by omega⟩
    rw [f_M_copy_49_54_2, if_pos (by decide)]
    exact ⟨S, rfl, rfl, fun a b => by rw [if_neg (by omega)]⟩
  | succ e ih =>
    intro i n S hi hn
    obtain ⟨m, rfl⟩ : ∃ m, n = m + 1 := ⟨n - 1, by omega⟩
    rw [f_M_copy_49_54_2, if_neg (by rw [show (32 : Int32) = nI 32 from rfl, nI_leI (by omega) (by omega)]; omega), aI_at (n := 32) rfl (by omega), Option.bind_some, wI_at (n := 32) rfl (by omega), Option.bind_some, nI_1]
    obtain ⟨S', h1, h2, h3⟩ := ih (i + 1) m (ip_upI S 54 i (S.1 49 i)) (by omega) (by omega)
    refine ⟨S', h1, h2, fun a b => ?_⟩
    rw [h3 a b, upI_ne _ _ (show ¬ (49 = 54 ∧ b = i) by omega), upI_f]
    by_cases g1 : a = 54 ∧ i + 1 ≤ b ∧ b < 32
    · rw [if_pos g1, if_pos (by omega)]
    · rw [if_neg g1]
      by_cases g2 : a = 54 ∧ b = i
      · rw [if_pos g2, if_pos (by omega), g2.2]
      · rw [if_neg g2, if_neg (by omega)]
theorem cpe_49_54 (S : ip_St) : ∃ S', f_M_copy_49_54 S = some S' ∧ S'.2 = S.2 ∧ ∀ a b, S'.1 a b = if a = 54 ∧ 0 ≤ b ∧ b < 32 then S.1 49 b else S.1 a b := cp_49_54 32 0 ip_FU S rfl (by rw [FU_eq]; omega)
theorem cp_50_41 : ∀ (e i n : Nat) (S : ip_St), i + e = 56 → e < n → ∃ S', f_M_copy_50_41_2 n (nI i) S = some S' ∧ S'.2 = S.2 ∧ ∀ a b, S'.1 a b = if a = 41 ∧ i ≤ b ∧ b < 56 then S.1 50 b else S.1 a b := by
  intro e
  induction e with
  | zero =>
    intro i n S hi hn
    obtain rfl : i = 56 := by omega
    obtain ⟨m, rfl⟩ : ∃ m, n = m + 1 := ⟨n - 1, by omega⟩
    rw [f_M_copy_50_41_2, if_pos (by decide)]
    exact ⟨S, rfl, rfl, fun a b => by rw [if_neg (by omega)]⟩
  | succ e ih =>
    intro i n S hi hn
    obtain ⟨m, rfl⟩ : ∃ m, n = m + 1 := ⟨n - 1, by omega⟩
    rw [f_M_copy_50_41_2, if_neg (by rw [show (56 : Int32) = nI 56 from rfl, nI_leI (by omega) (by omega)]; omega), aI_at (n := 56) rfl (by omega), Option.bind_some, wI_at (n := 56) rfl (by omega), Option.bind_some, nI_1]
    obtain ⟨S', h1, h2, h3⟩ := ih (i + 1) m (ip_upI S 41 i (S.1 50 i)) (by omega) (by omega)
    refine ⟨S', h1, h2, fun a b => ?_⟩
    rw [h3 a b, upI_ne _ _ (show ¬ (50 = 41 ∧ b = i) by omega), upI_f]
    by_cases g1 : a = 41 ∧ i + 1 ≤ b ∧ b < 56
    · rw [if_pos g1, if_pos (by omega)]
    · rw [if_neg g1]
      by_cases g2 : a = 41 ∧ b = i
      · rw [if_pos g2, if_pos (by omega), g2.2]
      · rw [if_neg g2, if_neg (by omega)]
theorem cpe_50_41 (S : ip_St) : ∃ S', f_M_copy_50_41 S = some S' ∧ S'.2 = S.2 ∧ ∀ a b, S'.1 a b = if a = 41 ∧ 0 ≤ b ∧ b < 56 then S.1 50 b else S.1 a b := cp_50_41 56 0 ip_FU S rfl (by rw [FU_eq]; omega)
theorem cp_51_42 : ∀ (e i n : Nat) (S : ip_St), i + e = 6 → e < n → ∃ S', f_M_copy_51_42_2 n (nI i) S = some S' ∧ S'.2 = S.2 ∧ ∀ a b, S'.1 a b = if a = 42 ∧ i ≤ b ∧ b < 6 then S.1 51 b else S.1 a b := by
  intro e
  induction e with
  | zero =>
    intro i n S hi hn
    obtain rfl : i = 6 := by omega
    obtain ⟨m, rfl⟩ : ∃ m, n = m + 1 := ⟨n - 1, by omega⟩
    rw [f_M_copy_51_42_2, if_pos (by decide)]
    exact ⟨S, rfl, rfl, fun a b => by rw [if_neg (by omega)]⟩
  | succ e ih =>
    intro i n S hi hn
    obtain ⟨m, rfl⟩ : ∃ m, n = m + 1 := ⟨n - 1, by omega⟩
    rw [f_M_copy_51_42_2, if_neg (by rw [show (6 : Int32) = nI 6 from rfl, nI_leI (by omega) (by omega)]; omega), aI_at (n := 6) rfl (by omega), Option.bind_some, wI_at (n := 6) rfl (by omega), Option.bind_some, nI_1]
    obtain ⟨S', h1, h2, h3⟩ := ih (i + 1) m (ip_upI S 42 i (S.1 51 i)) (by omega) (by omega)
    refine ⟨S', h1, h2, fun a b => ?_⟩
    rw [h3 a b, upI_ne _ _ (show ¬ (51 = 42 ∧ b = i) by omega), upI_f]
    by_cases g1 : a = 42 ∧ i + 1 ≤ b ∧ b < 6
    · rw [if_pos g1, if_pos (by omega)]
    · rw [if_neg g1]
      by_cases g2 : a = 42 ∧ b = i
      · rw [if_pos g2, if_pos (by omega), g2.2]
      · rw [if_neg g2, if_neg (by omega)]
theorem cpe_51_42 (S : ip_St) : ∃ S', f_M_copy_51_42 S = some S' ∧ S'.2 = S.2 ∧ ∀ a b, S'.1 a b = if a = 42 ∧ 0 ≤ b ∧ b < 6 then S.1 51 b else S.1 a b := cp_51_42 6 0 ip_FU S rfl (by rw [FU_eq]; omega)
theorem cp_52_43 : ∀ (e i n : Nat) (S : ip_St), i + e = 18 → e < n → ∃ S', f_M_copy_52_43_2 n (nI i) S = some S' ∧ S'.2 = S.2 ∧ ∀ a b, S'.1 a b = if a = 43 ∧ i ≤ b ∧ b < 18 then S.1 52 b else S.1 a b := by
  intro e
  induction e with
  | zero =>
    intro i n S hi hn
    obtain rfl : i = 18 := by omega
    obtain ⟨m, rfl⟩ : ∃ m, n = m + 1 := ⟨n - 1, by omega⟩
    rw [f_M_copy_52_43_2, if_pos (by decide)]
    exact ⟨S, rfl, rfl, fun a b => by rw [if_neg (by omega)]⟩
  | succ e ih =>
    intro i n S hi hn
    obtain ⟨m, rfl⟩ : ∃ m, n = m + 1 := ⟨n - 1, by omega⟩
    rw [f_M_copy_52_43_2, if_neg (by rw [show (18 : Int32) = nI 18 from rfl, nI_leI (by omega) (by omega)]; omega), aI_at (n := 18) rfl (by omega), Option.bind_some, wI_at (n := 18) rfl (by omega), Option.bind_some, nI_1]
    obtain ⟨S', h1, h2, h3⟩ := ih (i + 1) m (ip_upI S 43 i (S.1 52 i)) (by omega) (by omega)
    refine ⟨S', h1, h2, fun a b => ?_⟩
    rw [h3 a b, upI_ne _ _ (show ¬ (52 = 43 ∧ b = i) by omega), upI_f]
    by_cases g1 : a = 43 ∧ i + 1 ≤ b ∧ b < 18
    · rw [if_pos g1, if_pos (by omega)]
    · rw [if_neg g1]
      by_cases g2 : a = 43 ∧ b = i
      · rw [if_pos g2, if_pos (by omega), g2.2]
      · rw [if_neg g2, if_neg (by omega)]
theorem cpe_52_43 (S : ip_St) : ∃ S', f_M_copy_52_43 S = some S' ∧ S'.2 = S.2 ∧ ∀ a b, S'.1 a b = if a = 43 ∧ 0 ≤ b ∧ b < 18 then S.1 52 b else S.1 a b := cp_52_43 18 0 ip_FU S rfl (by rw [FU_eq]; omega)
theorem cp_53_44 : ∀ (e i n : Nat) (S : ip_St), i + e = 18 → e < n → ∃ S', f_M_copy_53_44_2 n (nI i) S = some S' ∧ S'.2 = S.2 ∧ ∀ a b, S'.1 a b = if a = 44 ∧ i ≤ b ∧ b < 18 then S.1 53 b else S.1 a b := by
  intro e
  induction e with
  | zero =>
    intro i n S hi hn
    obtain rfl : i = 18 := by omega
    obtain ⟨m, rfl⟩ : ∃ m, n = m + 1 := ⟨n - 1, by omega⟩
    rw [f_M_copy_53_44_2, if_pos (by decide)]
    exact ⟨S, rfl, rfl, fun a b => by rw [if_neg (by omega)]⟩
  | succ e ih =>
    intro i n S hi hn
    obtain ⟨m, rfl⟩ : ∃ m, n = m + 1 := ⟨n - 1, by omega⟩
    rw [f_M_copy_53_44_2, if_neg (by rw [show (18 : Int32) = nI 18 from rfl, nI_leI (by omega) (by omega)]; omega), aI_at (n := 18) rfl (by omega), Option.bind_some, wI_at (n := 18) rfl (by omega), Option.bind_some, nI_1]
    obtain ⟨S', h1, h2, h3⟩ := ih (i + 1) m (ip_upI S 44 i (S.1 53 i)) (by omega) (by omega)
    refine ⟨S', h1, h2, fun a b => ?_⟩
    rw [h3 a b, upI_ne _ _ (show ¬ (53 = 44 ∧ b = i) by omega), upI_f]
    by_cases g1 : a = 44 ∧ i + 1 ≤ b ∧ b < 18
    · rw [if_pos g1, if_pos (by omega)]
    · rw [if_neg g1]
      by_cases g2 : a = 44 ∧ b = i
      · rw [if_pos g2, if_pos (by omega), g2.2]
      · rw [if_neg g2, if_neg (by omega)]
theorem cpe_53_44 (S : ip_St) : ∃ S', f_M_copy_53_44 S = some S' ∧ S'.2 = S.2 ∧ ∀ a b, S'.1 a b = if a = 44 ∧ 0 ≤ b ∧ b < 18 then S.1 53 b else S.1 a b := cp_53_44 18 0 ip_FU S rfl (by rw [FU_eq]; omega)
theorem cp_54_49 : ∀ (e i n : Nat) (S : ip_St), i + e = 32 → e < n → ∃ S', f_M_copy_54_49_2 n (nI i) S = some S' ∧ S'.2 = S.2 ∧ ∀ a b, S'.1 a b = if a = 49 ∧ i ≤ b ∧ b < 32 then S.1 54 b else S.1 a b := by
  intro e
  induction e with
  | zero =>
    intro i n S hi hn
    obtain rfl : i = 32 := by omega
    obtain ⟨m, rfl⟩ : ∃ m, n = m + 1 := ⟨n - 1, by omega⟩
    rw [f_M_copy_54_49_2, if_pos (by decide)]
    exact ⟨S, rfl, rfl, fun a b => by rw [if_neg (by omega)]⟩
  | succ e ih =>
    intro i n S hi hn
    obtain ⟨m, rfl⟩ : ∃ m, n = m + 1 := ⟨n - 1, by omega⟩
    rw [f_M_copy_54_49_2, if_neg (by rw [show (32 : Int32) = nI 32 from rfl, nI_leI (by omega) (by omega)]; omega), aI_at (n := 32) rfl (by omega), Option.bind_some, wI_at (n := 32) rfl (by omega), Option.bind_some, nI_1]
    obtain ⟨S', h1, h2, h3⟩ := ih (i + 1) m (ip_upI S 49 i (S.1 54 i)) (by omega) (by omega)
    refine ⟨S', h1, h2, fun a b => ?_⟩
    rw [h3 a b, upI_ne _ _ (show ¬ (54 = 49 ∧ b = i) by omega), upI_f]
    by_cases g1 : a = 49 ∧ i + 1 ≤ b ∧ b < 32
    · rw [if_pos g1, if_pos (by omega)]
    · rw [if_neg g1]
      by_cases g2 : a = 49 ∧ b = i
      · rw [if_pos g2, if_pos (by omega), g2.2]
      · rw [if_neg g2, if_neg (by omega)]
theorem cpe_54_49 (S : ip_St) : ∃ S', f_M_copy_54_49 S = some S' ∧ S'.2 = S.2 ∧ ∀ a b, S'.1 a b = if a = 49 ∧ 0 ≤ b ∧ b < 32 then S.1 54 b else S.1 a b := cp_54_49 32 0 ip_FU S rfl (by rw [FU_eq]; omega)
theorem cpA_18_25 : ∀ (e i n : Nat) (S : ip_St), i + e = 8 → e < n → ∃ S', f_D_take_19_12_65 n (nI i) S = some S' ∧ S'.2 = S.2 ∧ ∀ a b, S'.1 a b = if a = 19 ∧ b = 6 then S.1 12 6 else if a = 25 ∧ i ≤ b ∧ b < 8 then S.1 18 b else S.1 a b := by
  intro e
  induction e with
  | zero =>
    intro i n S hi hn
    obtain rfl : i = 8 := by omega
    obtain ⟨m, rfl⟩ : ∃ m, n = m + 1 := ⟨n - 1, by omega⟩
    rw [f_D_take_19_12_65, if_pos (by decide)]
    refine ⟨_, rfl, rfl, fun a b => ?_⟩
    rw [upI_f]
    by_cases g : a = 19 ∧ b = 6
    · rw [if_pos g, if_pos g]
    · rw [if_neg g, if_neg g, if_neg (by omega)]
  | succ e ih =>
    intro i n S hi hn
    obtain ⟨m, rfl⟩ : ∃ m, n = m + 1 := ⟨n - 1, by omega⟩
    rw [f_D_take_19_12_65, if_neg (by rw [show (8 : Int32) = nI 8 from rfl, nI_leI (by omega) (by omega)]; omega), aI_at (n := 8) rfl (by omega), Option.bind_some, wI_at (n := 8) rfl (by omega), Option.bind_some, nI_1]
    obtain ⟨S', h1, h2, h3⟩ := ih (i + 1) m (ip_upI S 25 i (S.1 18 i)) (by omega) (by omega)
    refine ⟨S', h1, h2, fun a b => ?_⟩
    rw [h3 a b, upI_ne _ _ (show ¬ (18 = 25 ∧ b = i) by omega), upI_ne _ _ (show ¬ (12 = 25 ∧ 6 = i) by omega), upI_f]
    by_cases g : a = 19 ∧ b = 6
    · rw [if_pos g, if_pos g]
    · rw [if_neg g, if_neg g]
      by_cases g1 : a = 25 ∧ i + 1 ≤ b ∧ b < 8
      · rw [if_pos g1, if_pos (by omega)]
      · rw [if_neg g1]
        by_cases g2 : a = 25 ∧ b = i
        · rw [if_pos g2, if_pos (by omega), g2.2]
        · rw [if_neg g2, if_neg (by omega)]
theorem cpA_25_18 : ∀ (e i n : Nat) (S : ip_St), i + e = 8 → e < n → ∃ S', f_D_take_12_19_65 n (nI i) S = some S' ∧ S'.2 = S.2 ∧ ∀ a b, S'.1 a b = if a = 12 ∧ b = 6 then S.1 19 6 else if a = 18 ∧ i ≤ b ∧ b < 8 then S.1 25 b else S.1 a b := by
  intro e
  induction e with
  | zero =>
    intro i n S hi hn
    obtain rfl : i = 8 := by omega
    obtain ⟨m, rfl⟩ : ∃ m, n = m + 1 := ⟨n - 1, by omega⟩
    rw [f_D_take_12_19_65, if_pos (by decide)]
    refine ⟨_, rfl, rfl, fun a b => ?_⟩
    rw [upI_f]
    by_cases g : a = 12 ∧ b = 6
    · rw [if_pos g, if_pos g]
    · rw [if_neg g, if_neg g, if_neg (by omega)]
  | succ e ih =>
    intro i n S hi hn
    obtain ⟨m, rfl⟩ : ∃ m, n = m + 1 := ⟨n - 1, by omega⟩
    rw [f_D_take_12_19_65, if_neg (by rw [show (8 : Int32) = nI 8 from rfl, nI_leI (by omega) (by omega)]; omega), aI_at (n := 8) rfl (by omega), Option.bind_some, wI_at (n := 8) rfl (by omega), Option.bind_some, nI_1]
    obtain ⟨S', h1, h2, h3⟩ := ih (i + 1) m (ip_upI S 18 i (S.1 25 i)) (by omega) (by omega)
    refine ⟨S', h1, h2, fun a b => ?_⟩
    rw [h3 a b, upI_ne _ _ (show ¬ (25 = 18 ∧ b = i) by omega), upI_ne _ _ (show ¬ (19 = 18 ∧ 6 = i) by omega), upI_f]
    by_cases g : a = 12 ∧ b = 6
    · rw [if_pos g, if_pos g]
    · rw [if_neg g, if_neg g]
      by_cases g1 : a = 18 ∧ i + 1 ≤ b ∧ b < 8
      · rw [if_pos g1, if_pos (by omega)]
      · rw [if_neg g1]
        by_cases g2 : a = 18 ∧ b = i
        · rw [if_pos g2, if_pos (by omega), g2.2]
        · rw [if_neg g2, if_neg (by omega)]
theorem cp_fr {w : List (Nat × Nat)} {S S' : ip_St} {Y X i L : Nat} (hw : ip_wa w Y = true) (h2 : S'.2 = S.2) (h : ∀ a b, S'.1 a b = if a = Y ∧ i ≤ b ∧ b < L then S.1 X b else S.1 a b) : ip_Fr w S S' := by
  intro a b hab
  refine ⟨?_, by rw [h2]⟩
  rw [h a b, if_neg]
  rintro ⟨rfl, -⟩
  have := ip_wa_wt (k := b) hw
  rw [this] at hab
  cases hab
theorem Jtake_eq {S : ip_St} {p q : Nat} (hne : ¬ q = p) (hb : ip_isB (S.1 q 5) = true) : ∃ S', f_J_take p q S = some S' ∧ S'.2 = S.2 ∧ ∀ a b, S'.1 a b = if a = p ∧ 0 ≤ b ∧ b < 6 then S.1 q b else S.1 a b := by
  have u : ∀ (X : ip_St) (k b : Nat) (v : Int32), (ip_upI X p k v).1 q b = X.1 q b := fun X k b v => upI_ne _ _ (fun z => hne z.1)
  unfold f_J_take
  simp only [u]
  rw [hb]
  refine ⟨_, rfl, rfl, fun a b => ?_⟩
  simp only [upI_f]
  by_cases ha : a = p
  · subst ha
    simp only [true_and]
    by_cases h6 : b < 6
    · rw [if_pos (show 0 ≤ b ∧ b < 6 by omega)]
      rcases (show b = 0 ∨ b = 1 ∨ b = 2 ∨ b = 3 ∨ b = 4 ∨ b = 5 by omega) with rfl | rfl | rfl | rfl | rfl | rfl <;> simp
    · rw [if_neg (show ¬ (0 ≤ b ∧ b < 6) by omega), if_neg (by omega), if_neg (by omega), if_neg (by omega), if_neg (by omega), if_neg (by omega), if_neg (by omega)]
  · simp [ha]
/-- fields that are booleans -/
def RB (C : ip_St) : Prop := ∀ j, j < 3 → ip_isB (C.1 (14 + j) 5) = true ∧ ip_isB (C.1 (21 + j) 5) = true
theorem LawF_cg {t t' : Nat → Int32} {m : Nat} {h : Int64} {a b c d : Int32} (he : ∀ k, k < m → t' k = t k) (hl : LawF t m h a b c d) : LawF t' m h a b c d := by
  obtain ⟨l1, l2, l3, l4, l5⟩ := hl
  have hc : ∀ lo hi, ctR t' lo hi m = ctR t lo hi m := fun lo hi => ct_cong (fun k hk => by rw [he k hk])
  have hd : ∀ k, k ≤ m → dpp t' k = dpp t k := by
    intro k
    induction k with
    | zero => intro _; rfl
    | succ k ih =>
      intro hk
      simp only [dpp]
      rw [ih (by omega), he k (by omega)]
  refine ⟨by rw [hc]; exact l1, by rw [hc]; exact l2, by rw [hc]; exact l3, by rw [hd m (Nat.le_refl m)]; exact l4, fun f hf M hT hM => l5 f hf M hT (fun k hk => by rw [hM k hk, he k hk])⟩
theorem RDk_cp {C C' M M' : ip_St} {J b r kn hd sg T lm ln qs am sc b' r' kn' hd' sg' T' lm' ln' qs' am' sc' : Nat} (hJ : J ≤ 3) (h : RDk C M J b r kn hd sg T lm ln qs am sc) (c1 : C'.1 b' 1 = C.1 b 1) (c3 : C'.1 b' 3 = C.1 b 3) (c4 : C'.1 b' 4 = C.1 b 4) (c6 : C'.1 b' 6 = C.1 b 6) (cj : ∀ j, j < 3 → ∀ k, k < 6 → C'.1 (b' + 2 + j) k = C.1 (b + 2 + j) k) (l0 : C'.2 (b' + 5) 0 = C.2 (b + 5) 0) (l1 : C'.1 (b' + 5) 1 = C.1 (b + 5) 1) (l2 : C'.1 (b' + 5) 2 = C.1 (b + 5) 2) (l3 : C'.1 (b' + 5) 3 = C.1 (b + 5) 3) (l4 : C'.1 (b' + 5) 4 = C.1 (b + 5) 4) (cs : ∀ i, i < 8 → C'.1 (b' + 6) i = C.1 (b + 6) i) (mr : ∀ k, k < 6 → M'.1 r' k = M.1 r k) (mk : ∀ k, k < 18 → M'.1 kn' k = M.1 kn k) (mh : ∀ k, k < 18 → M'.1 hd' k = M.1 hd k) (ms : ∀ k, k < 32 → M'.1 sg' k = M.1 sg k) (mT : ∀ k, k < 56 → M'.1 T' k = M.1 T k) (m1 : M'.1 30 lm' = M.1 30 lm) (m2 : M'.2 30 ln' = M.2 30 ln) (m3 : M'.1 30 qs' = M.1 30 qs) (m4 : M'.1 30 am' = M.1 30 am) (m5 : M'.1 30 sc' = M.1 30 sc) : RDk C' M' J b' r' kn' hd' sg' T' lm' ln' qs' am' sc' := by
  obtain ⟨x1, x2, x3, x4, x5, s, s1, s2, s3, s4⟩ := h
  refine ⟨by rw [c1]; exact x1, by rw [c3, m4]; exact x2, by rw [c4, m3]; exact x3, fun j hj => ?_, fun h0 => ?_, s, s1, by rw [c6]; exact s2, by rw [m5]; exact s3, fun i hi => ?_⟩
  · obtain ⟨d, d1, d2, ⟨a0, a1, a2, a3, a4, a5⟩, b0, b1, b2, b3⟩ := x4 j hj
    have hj3 : j < 3 := by omega
    have cc := cj j hj3
    refine ⟨d, d1, d2, ⟨?_, ?_, ?_, ?_, ?_, ?_⟩, ?_, ?_, fun f hf => ?_, fun f hf => ?_⟩
    · rw [cc 0 (by omega)]; exact a0
    · rw [cc 1 (by omega)]; exact a1
    · rw [cc 2 (by omega)]; exact a2
    · rw [cc 3 (by omega)]; exact a3
    · rw [cc 4 (by omega)]; exact a4
    · rw [cc 5 (by omega)]; exact a5
    · rw [mr _ (by omega)]; exact b0
    · rw [mr _ (by omega)]; exact b1
    · rw [mk _ (by omega)]; exact b2 f hf
    · rw [mh _ (by omega)]; exact b3 f hf
  · obtain ⟨m, g1, g2, g3, g4⟩ := x5 h0
    refine ⟨m, g1, by rw [m1]; exact g2, by rw [l0, m2]; exact g3, ?_⟩
    rw [l0, l1, l2, l3, l4]
    exact LawF_cg (fun k hk => mT k (by omega)) g4
  · obtain ⟨j, f, is, sd, q1, q2, q3, q4, q5, q6, q7, q8, q9⟩ := s4 i hi
    refine ⟨j, f, is, sd, q1, q2, q3, q4, ?_, ?_, ?_, ?_, ?_⟩
    · rw [cs i (by omega)]; exact q5
    · rw [ms _ (by omega)]; exact q6
    · rw [ms _ (by omega)]; exact q7
    · rw [ms _ (by omega)]; exact q8
    · rw [ms _ (by omega)]; exact q9
def wTk19 : List (Nat × Nat) := [(19, 1), (19, 3), (19, 4), (19, 6), (21, 99), (22, 99), (23, 99), (24, 0), (24, 1), (24, 2), (24, 3), (24, 4), (25, 99)]
theorem take_19_12 {C : ip_St} (hB : RB C) : ∃ C', f_D_take_19_12 C = some C' ∧ ip_Fr wTk19 C C' ∧ C'.1 19 1 = C.1 12 1 ∧ C'.1 19 3 = C.1 12 3 ∧ C'.1 19 4 = C.1 12 4 ∧ C'.1 19 6 = C.1 12 6 ∧ (∀ j, j < 3 → ∀ k, k < 6 → C'.1 (21 + j) k = C.1 (14 + j) k) ∧ C'.2 24 0 = C.2 17 0 ∧ C'.1 24 1 = C.1 17 1 ∧ C'.1 24 2 = C.1 17 2 ∧ C'.1 24 3 = C.1 17 3 ∧ C'.1 24 4 = C.1 17 4 ∧ ∀ i, i < 8 → C'.1 25 i = C.1 18 i := by
  have B0 : ip_isB (C.1 14 5) = true := (hB 0 (by omega)).1
  have B1 : ip_isB (C.1 15 5) = true := (hB 1 (by omega)).1
  have B2 : ip_isB (C.1 16 5) = true := (hB 2 (by omega)).1
  obtain ⟨S1, a1, a2, a3⟩ := Jtake_eq (S := C) (p := 21) (q := 14) (by omega) B0
  obtain ⟨S2, b1, b2, b3⟩ := Jtake_eq (S := S1) (p := 22) (q := 15) (by omega) (by rw [a3, if_neg (by omega)]; exact B1)
  obtain ⟨S3, c1, c2, c3⟩ := Jtake_eq (S := S2) (p := 23) (q := 16) (by omega) (by rw [b3, if_neg (by omega), a3, if_neg (by omega)]; exact B2)
  obtain ⟨S5, e1, e2, e3⟩ := cpA_18_25 8 0 ip_FU (ip_upI (ip_upI (f_L_take_24_17 (ip_upI S3 19 1 (S3.1 12 1))) 19 3 ((f_L_take_24_17 (ip_upI S3 19 1 (S3.1 12 1))).1 12 3)) 19 4 ((ip_upI (f_L_take_24_17 (ip_upI S3 19 1 (S3.1 12 1))) 19 3 ((f_L_take_24_17 (ip_upI S3 19 1 (S3.1 12 1))).1 12 3)).1 12 4)) rfl (by rw [FU_eq]; omega)
  have run : f_D_take_19_12 C = some S5 := by
    show f_D_take_19_12_2 (999 + 1) (nI 0) C = _
    rw [f_D_take_19_12_2, if_neg (by decide), aA20 0 (by omega), Option.bind_some, aA13 0 (by omega), Option.bind_some, show 21 + 0 = 21 from rfl, show 14 + 0 = 14 from rfl, a1, Option.bind_some, nI_1, show (999 : Nat) = 998 + 1 from rfl]
    rw [f_D_take_19_12_2, if_neg (by decide), aA20 1 (by omega), Option.bind_some, aA13 1 (by omega), Option.bind_some, show 21 + 1 = 22 from rfl, show 14 + 1 = 15 from rfl, b1, Option.bind_some, nI_1, show (998 : Nat) = 997 + 1 from rfl]
    rw [f_D_take_19_12_2, if_neg (by decide), aA20 2 (by omega), Option.bind_some, aA13 2 (by omega), Option.bind_some, show 21 + 2 = 23 from rfl, show 14 + 2 = 16 from rfl, c1, Option.bind_some, nI_1, show (997 : Nat) = 996 + 1 from rfl]
    rw [f_D_take_19_12_2, if_pos (by decide)]
    exact e1
  have f1 : ip_Fr wTk19 C S3 := ip_Fr.trans (cp_fr rfl a2 a3) (ip_Fr.trans (cp_fr rfl b2 b3) (cp_fr rfl c2 c3))
  have f2 : ip_Fr wTk19 C (ip_upI (ip_upI (f_L_take_24_17 (ip_upI S3 19 1 (S3.1 12 1))) 19 3 ((f_L_take_24_17 (ip_upI S3 19 1 (S3.1 12 1))).1 12 3)) 19 4 ((ip_upI (f_L_take_24_17 (ip_upI S3 19 1 (S3.1 12 1))) 19 3 ((f_L_take_24_17 (ip_upI S3 19 1 (S3.1 12 1))).1 12 3)).1 12 4)) := by
    unfold f_L_take_24_17
    exact ip_Fr.upI rfl (ip_Fr.upI rfl (ip_Fr.upI rfl (ip_Fr.upI rfl (ip_Fr.upI rfl (ip_Fr.upI rfl (ip_Fr.upL rfl (ip_Fr.upI rfl f1)))))))
  have f3 : ip_Fr wTk19 C S5 := by
    intro a b hab
    have := f2 a b hab
    refine ⟨?_, by rw [e2]; exact this.2⟩
    rw [e3 a b, if_neg, if_neg]
    · exact this.1
    · rintro ⟨rfl, -⟩
      have z := ip_wa_wt (w := wTk19) (k := b) (c := 25) rfl
      rw [z] at hab
      cases hab
    · rintro ⟨rfl, rfl⟩
      cases hab
  have g : ∀ k, S3.1 12 k = C.1 12 k := fun k => by rw [c3, if_neg (by omega), b3, if_neg (by omega), a3, if_neg (by omega)]
  have gl : ∀ k, S3.1 17 k = C.1 17 k := fun k => by rw [c3, if_neg (by omega), b3, if_neg (by omega), a3, if_neg (by omega)]
  have gs : ∀ k, S3.1 18 k = C.1 18 k := fun k => by rw [c3, if_neg (by omega), b3, if_neg (by omega), a3, if_neg (by omega)]
  have gl2 : S3.2 = C.2 := by rw [c2, b2, a2]
  refine ⟨S5, run, f3, ?_, ?_, ?_, ?_, fun j hj k hk => ?_, ?_, ?_, ?_, ?_, ?_, fun i hi => ?_⟩
  · rw [e3, if_neg (by omega), if_neg (by omega)]
    simp [f_L_take_24_17, upI_f, upL_1, g]
  · rw [e3, if_neg (by omega), if_neg (by omega)]
    simp [f_L_take_24_17, upI_f, upL_1, g]
  · rw [e3, if_neg (by omega), if_neg (by omega)]
    simp [f_L_take_24_17, upI_f, upL_1, g]
  · rw [e3, if_pos (by omega)]
    simp [f_L_take_24_17, upI_f, upL_1, g]
  · rw [e3, if_neg (by omega), if_neg (by omega)]
    rcases (show j = 0 ∨ j = 1 ∨ j = 2 by omega) with rfl | rfl | rfl
    · simp [f_L_take_24_17, upI_f, upL_1, c3, b3, a3, hk]
    · simp [f_L_take_24_17, upI_f, upL_1, c3, b3, a3, hk]
    · simp [f_L_take_24_17, upI_f, upL_1, c3, b3, a3, hk]
  · rw [e2]
    simp [f_L_take_24_17, upI_2, upL_f, gl2]
  · rw [e3, if_neg (by omega), if_neg (by omega)]
    simp [f_L_take_24_17, upI_f, upL_1, gl]
  · rw [e3, if_neg (by omega), if_neg (by omega)]
    simp [f_L_take_24_17, upI_f, upL_1, gl]
  · rw [e3, if_neg (by omega), if_neg (by omega)]
    simp [f_L_take_24_17, upI_f, upL_1, gl]
  · rw [e3, if_neg (by omega), if_neg (by omega)]
    simp [f_L_take_24_17, upI_f, upL_1, gl]
  · rw [e3, if_neg (by omega), if_pos (by omega)]
    simp [f_L_take_24_17, upI_f, upL_1, gs]
def wTk12 : List (Nat × Nat) := [(12, 1), (12, 3), (12, 4), (12, 6), (14, 99), (15, 99), (16, 99), (17, 0), (17, 1), (17, 2), (17, 3), (17, 4), (18, 99)]
theorem take_12_19 {C : ip_St} (hB : RB C) : ∃ C', f_D_take_12_19 C = some C' ∧ ip_Fr wTk12 C C' ∧ C'.1 12 1 = C.1 19 1 ∧ C'.1 12 3 = C.1 19 3 ∧ C'.1 12 4 = C.1 19 4 ∧ C'.1 12 6 = C.1 19 6 ∧ (∀ j, j < 3 → ∀ k, k < 6 → C'.1 (14 + j) k = C.1 (21 + j) k) ∧ C'.2 17 0 = C.2 24 0 ∧ C'.1 17 1 = C.1 24 1 ∧ C'.1 17 2 = C.1 24 2 ∧ C'.1 17 3 = C.1 24 3 ∧ C'.1 17 4 = C.1 24 4 ∧ ∀ i, i < 8 → C'.1 18 i = C.1 25 i := by
  have B0 : ip_isB (C.1 21 5) = true := (hB 0 (by omega)).2
  have B1 : ip_isB (C.1 22 5) = true := (hB 1 (by omega)).2
  have B2 : ip_isB (C.1 23 5) = true := (hB 2 (by omega)).2
  obtain ⟨S1, a1, a2, a3⟩ := Jtake_eq (S := C) (p := 14) (q := 21) (by omega) B0
  obtain ⟨S2, b1, b2, b3⟩ := Jtake_eq (S := S1) (p := 15) (q := 22) (by omega) (by rw [a3, if_neg (by omega)]; exact B1)
  obtain ⟨S3, c1, c2, c3⟩ := Jtake_eq (S := S2) (p := 16) (q := 23) (by omega) (by rw [b3, if_neg (by omega), a3, if_neg (by omega)]; exact B2)
  obtain ⟨S5, e1, e2, e3⟩ := cpA_25_18 8 0 ip_FU (ip_upI (ip_upI (f_L_take_17_24 (ip_upI S3 12 1 (S3.1 19 1))) 12 3 ((f_L_take_17_24 (ip_upI S3 12 1 (S3.1 19 1))).1 19 3)) 12 4 ((ip_upI (f_L_take_17_24 (ip_upI S3 12 1 (S3.1 19 1))) 12 3 ((f_L_take_17_24 (ip_upI S3 12 1 (S3.1 19 1))).1 19 3)).1 19 4)) rfl (by rw [FU_eq]; omega)
  have run : f_D_take_12_19 C = some S5 := by
    show f_D_take_12_19_2 (999 + 1) (nI 0) C = _
    rw [f_D_take_12_19_2, if_neg (by decide), aA13 0 (by omega), Option.bind_some, aA20 0 (by omega), Option.bind_some, show 14 + 0 = 14 from rfl, show 21 + 0 = 21 from rfl, a1, Option.bind_some, nI_1, show (999 : Nat) = 998 + 1 from rfl]
    rw [f_D_take_12_19_2, if_neg (by decide), aA13 1 (by omega), Option.bind_some, aA20 1 (by omega), Option.bind_some, show 14 + 1 = 15 from rfl, show 21 + 1 = 22 from rfl, b1, Option.bind_some, nI_1, show (998 : Nat) = 997 + 1 from rfl]
    rw [f_D_take_12_19_2, if_neg (by decide), aA13 2 (by omega), Option.bind_some, aA20 2 (by omega), Option.bind_some, show 14 + 2 = 16 from rfl, show 21 + 2 = 23 from rfl, c1, Option.bind_some, nI_1, show (997 : Nat) = 996 + 1 from rfl]
    rw [f_D_take_12_19_2, if_pos (by decide)]
    exact e1
  have f1 : ip_Fr wTk12 C S3 := ip_Fr.trans (cp_fr rfl a2 a3) (ip_Fr.trans (cp_fr rfl b2 b3) (cp_fr rfl c2 c3))
  have f2 : ip_Fr wTk12 C (ip_upI (ip_upI (f_L_take_17_24 (ip_upI S3 12 1 (S3.1 19 1))) 12 3 ((f_L_take_17_24 (ip_upI S3 12 1 (S3.1 19 1))).1 19 3)) 12 4 ((ip_upI (f_L_take_17_24 (ip_upI S3 12 1 (S3.1 19 1))) 12 3 ((f_L_take_17_24 (ip_upI S3 12 1 (S3.1 19 1))).1 19 3)).1 19 4)) := by
    unfold f_L_take_17_24
    exact ip_Fr.upI rfl (ip_Fr.upI rfl (ip_Fr.upI rfl (ip_Fr.upI rfl (ip_Fr.upI rfl (ip_Fr.upI rfl (ip_Fr.upL rfl (ip_Fr.upI rfl f1)))))))
  have f3 : ip_Fr wTk12 C S5 := by
    intro a b hab
    have := f2 a b hab
    refine ⟨?_, by rw [e2]; exact this.2⟩
    rw [e3 a b, if_neg, if_neg]
    · exact this.1
    · rintro ⟨rfl, -⟩
      have z := ip_wa_wt (w := wTk12) (k := b) (c := 18) rfl
      rw [z] at hab
      cases hab
    · rintro ⟨rfl, rfl⟩
      cases hab
  have g : ∀ k, S3.1 19 k = C.1 19 k := fun k => by rw [c3, if_neg (by omega), b3, if_neg (by omega), a3, if_neg (by omega)]
  have gl : ∀ k, S3.1 24 k = C.1 24 k := fun k => by rw [c3, if_neg (by omega), b3, if_neg (by omega), a3, if_neg (by omega)]
  have gs : ∀ k, S3.1 25 k = C.1 25 k := fun k => by rw [c3, if_neg (by omega), b3, if_neg (by omega), a3, if_neg (by omega)]
  have gl2 : S3.2 = C.2 := by rw [c2, b2, a2]
  refine ⟨S5, run, f3, ?_, ?_, ?_, ?_, fun j hj k hk => ?_, ?_, ?_, ?_, ?_, ?_, fun i hi => ?_⟩
  · rw [e3, if_neg (by omega), if_neg (by omega)]
    simp [f_L_take_17_24, upI_f, upL_1, g]
  · rw [e3, if_neg (by omega), if_neg (by omega)]
    simp [f_L_take_17_24, upI_f, upL_1, g]
  · rw [e3, if_neg (by omega), if_neg (by omega)]
    simp [f_L_take_17_24, upI_f, upL_1, g]
  · rw [e3, if_pos (by omega)]
    simp [f_L_take_17_24, upI_f, upL_1, g]
  · rw [e3, if_neg (by omega), if_neg (by omega)]
    rcases (show j = 0 ∨ j = 1 ∨ j = 2 by omega) with rfl | rfl | rfl
    · simp [f_L_take_17_24, upI_f, upL_1, c3, b3, a3, hk]
    · simp [f_L_take_17_24, upI_f, upL_1, c3, b3, a3, hk]
    · simp [f_L_take_17_24, upI_f, upL_1, c3, b3, a3, hk]
  · rw [e2]
    simp [f_L_take_17_24, upI_2, upL_f, gl2]
  · rw [e3, if_neg (by omega), if_neg (by omega)]
    simp [f_L_take_17_24, upI_f, upL_1, gl]
  · rw [e3, if_neg (by omega), if_neg (by omega)]
    simp [f_L_take_17_24, upI_f, upL_1, gl]
  · rw [e3, if_neg (by omega), if_neg (by omega)]
    simp [f_L_take_17_24, upI_f, upL_1, gl]
  · rw [e3, if_neg (by omega), if_neg (by omega)]
    simp [f_L_take_17_24, upI_f, upL_1, gl]
  · rw [e3, if_neg (by omega), if_pos (by omega)]
    simp [f_L_take_17_24, upI_f, upL_1, gs]
theorem imageM {M : ip_St} (hl : f_M_lacks M = false) : ∃ M', f_M_image M = some (M.1 30 19, M') ∧ ip_Fr w_M_image M M' ∧ (∀ k, k < 6 → M'.1 51 k = M.1 42 k) ∧ (∀ k, k < 18 → M'.1 52 k = M.1 43 k) ∧ (∀ k, k < 18 → M'.1 53 k = M.1 44 k) ∧ (∀ k, k < 32 → M'.1 54 k = M.1 49 k) ∧ (∀ k, k < 56 → M'.1 50 k = M.1 41 k) ∧ M'.1 30 36 = M.1 30 16 ∧ M'.2 30 37 = M.2 30 17 ∧ M'.1 30 33 = M.1 30 19 ∧ M'.1 30 34 = M.1 30 20 ∧ M'.1 30 35 = M.1 30 29 ∧ M'.1 30 32 = M.1 30 21 := by
  obtain ⟨M1, p1, p2, p3⟩ := cpe_41_50 M
  obtain ⟨M2, q1, q2, q3⟩ := cpe_42_51 M1
  obtain ⟨M3, r1, r2, r3⟩ := cpe_43_52 M2
  obtain ⟨M4, s1, s2, s3⟩ := cpe_44_53 M3
  obtain ⟨M5, u1, u2, u3⟩ := cpe_49_54 M4
  unfold f_M_image
  rw [hl, if_pos rfl, p1, Option.bind_some, q1, Option.bind_some, r1, Option.bind_some, s1, Option.bind_some, u1, Option.bind_some]
  have m5 : ∀ k, M5.1 30 k = M.1 30 k := fun k => by rw [u3, if_neg (by omega), s3, if_neg (by omega), r3, if_neg (by omega), q3, if_neg (by omega), p3, if_neg (by omega)]
  have l5 : M5.2 = M.2 := by rw [u2, s2, r2, q2, p2]
  have f5 : ip_Fr w_M_image M M5 := ip_Fr.trans (cp_fr rfl p2 p3) (ip_Fr.trans (cp_fr rfl q2 q3) (ip_Fr.trans (cp_fr rfl r2 r3) (ip_Fr.trans (cp_fr rfl s2 s3) (cp_fr rfl u2 u3))))
  refine ⟨_, congrArg some (Prod.ext ?_ rfl), ip_Fr.upI rfl (ip_Fr.upI rfl (ip_Fr.upI rfl (ip_Fr.upI rfl (ip_Fr.upL rfl (ip_Fr.upI rfl f5))))), fun k hk => ?_, fun k hk => ?_, fun k hk => ?_, fun k hk => ?_, fun k hk => ?_, ?_, ?_, ?_, ?_, ?_, ?_⟩
  · simp [upI_f, upL_1, m5]
  · simp only [upI_f, upL_1]; simp only [show ¬ (51 = 30) by omega, false_and, if_false]
    rw [u3, if_neg (by omega), s3, if_neg (by omega), r3, if_neg (by omega), q3, if_pos (by omega), p3, if_neg (by omega)]
  · simp only [upI_f, upL_1]; simp only [show ¬ (52 = 30) by omega, false_and, if_false]
    rw [u3, if_neg (by omega), s3, if_neg (by omega), r3, if_pos (by omega), q3, if_neg (by omega), p3, if_neg (by omega)]
  · simp only [upI_f, upL_1]; simp only [show ¬ (53 = 30) by omega, false_and, if_false]
    rw [u3, if_neg (by omega), s3, if_pos (by omega), r3, if_neg (by omega), q3, if_neg (by omega), p3, if_neg (by omega)]
  · simp only [upI_f, upL_1]; simp only [show ¬ (54 = 30) by omega, false_and, if_false]
    rw [u3, if_pos (by omega), s3, if_neg (by omega), r3, if_neg (by omega), q3, if_neg (by omega), p3, if_neg (by omega)]
  · simp only [upI_f, upL_1]; simp only [show ¬ (50 = 30) by omega, false_and, if_false]
    rw [u3, if_neg (by omega), s3, if_neg (by omega), r3, if_neg (by omega), q3, if_neg (by omega), p3, if_pos (by omega)]
  · simp [upI_f, upL_1, m5]
  · simp [upI_2, upL_f, l5]
  · simp [upI_f, upL_1, m5]
  · simp [upI_f, upL_1, m5]
  · simp [upI_f, upL_1, m5]
  · simp [upI_f, upL_1, m5]
theorem restoreM {M : ip_St} (hl : M.1 30 32 = M.1 30 21) : ∃ M', f_M_restore M = some (M.1 30 33, M') ∧ ip_Fr w_M_restore M M' ∧ (∀ k, k < 6 → M'.1 42 k = M.1 51 k) ∧ (∀ k, k < 18 → M'.1 43 k = M.1 52 k) ∧ (∀ k, k < 18 → M'.1 44 k = M.1 53 k) ∧ (∀ k, k < 32 → M'.1 49 k = M.1 54 k) ∧ (∀ k, k < 56 → M'.1 41 k = M.1 50 k) ∧ M'.1 30 16 = M.1 30 36 ∧ M'.2 30 17 = M.2 30 37 ∧ M'.1 30 19 = M.1 30 33 ∧ M'.1 30 20 = M.1 30 34 ∧ M'.1 30 29 = M.1 30 35 := by
  obtain ⟨M1, p1, p2, p3⟩ := cpe_50_41 M
  obtain ⟨M2, q1, q2, q3⟩ := cpe_51_42 M1
  obtain ⟨M3, r1, r2, r3⟩ := cpe_52_43 M2
  obtain ⟨M4, s1, s2, s3⟩ := cpe_53_44 M3
  obtain ⟨M5, u1, u2, u3⟩ := cpe_54_49 M4
  unfold f_M_restore
  rw [if_pos hl, p1, Option.bind_some, q1, Option.bind_some, r1, Option.bind_some, s1, Option.bind_some, u1, Option.bind_some]
  have m5 : ∀ k, M5.1 30 k = M.1 30 k := fun k => by rw [u3, if_neg (by omega), s3, if_neg (by omega), r3, if_neg (by omega), q3, if_neg (by omega), p3, if_neg (by omega)]
  have l5 : M5.2 = M.2 := by rw [u2, s2, r2, q2, p2]
  have f5 : ip_Fr w_M_restore M M5 := ip_Fr.trans (cp_fr rfl p2 p3) (ip_Fr.trans (cp_fr rfl q2 q3) (ip_Fr.trans (cp_fr rfl r2 r3) (ip_Fr.trans (cp_fr rfl s2 s3) (cp_fr rfl u2 u3))))
  refine ⟨_, congrArg some (Prod.ext ?_ rfl), ip_Fr.upI rfl (ip_Fr.upI rfl (ip_Fr.upI rfl (ip_Fr.upL rfl (ip_Fr.upI rfl f5)))), fun k hk => ?_, fun k hk => ?_, fun k hk => ?_, fun k hk => ?_, fun k hk => ?_, ?_, ?_, ?_, ?_, ?_⟩
  · simp [upI_f, upL_1, m5]
  · simp only [upI_f, upL_1]; simp only [show ¬ (42 = 30) by omega, false_and, if_false]
    rw [u3, if_neg (by omega), s3, if_neg (by omega), r3, if_neg (by omega), q3, if_pos (by omega), p3, if_neg (by omega)]
  · simp only [upI_f, upL_1]; simp only [show ¬ (43 = 30) by omega, false_and, if_false]
    rw [u3, if_neg (by omega), s3, if_neg (by omega), r3, if_pos (by omega), q3, if_neg (by omega), p3, if_neg (by omega)]
  · simp only [upI_f, upL_1]; simp only [show ¬ (44 = 30) by omega, false_and, if_false]
    rw [u3, if_neg (by omega), s3, if_pos (by omega), r3, if_neg (by omega), q3, if_neg (by omega), p3, if_neg (by omega)]
  · simp only [upI_f, upL_1]; simp only [show ¬ (49 = 30) by omega, false_and, if_false]
    rw [u3, if_pos (by omega), s3, if_neg (by omega), r3, if_neg (by omega), q3, if_neg (by omega), p3, if_neg (by omega)]
  · simp only [upI_f, upL_1]; simp only [show ¬ (41 = 30) by omega, false_and, if_false]
    rw [u3, if_neg (by omega), s3, if_neg (by omega), r3, if_neg (by omega), q3, if_neg (by omega), p3, if_pos (by omega)]
  · simp [upI_f, upL_1, m5]
  · simp [upI_2, upL_f, l5]
  · simp [upI_f, upL_1, m5]
  · simp [upI_f, upL_1, m5]
  · simp [upI_f, upL_1, m5]
theorem op_image {N : Nat} {C M : ip_St} (h : Rel2 N C M) (hB : RB C) : ∃ r C' M', f_A_image C = some (r, C') ∧ f_M_image M = some (r, M') ∧ Rel2 N C' M' ∧ RB C' := by
  obtain ⟨hT, pg, x, J, cr, hJ, hj, hn, c4, c5, c6, c7⟩ := id h
  have hc : C.1 12 1 = nI J := hn.1
  have hq : C.1 12 4 = M.1 30 19 := hn.2.2.1
  rcases court_cs hJ hc hj with ⟨-, k1, k2⟩ | ⟨k0, k1, k2⟩
  · unfold f_A_image f_M_image
    rw [k1, k2]
    exact ⟨_, _, _, rfl, rfl, h, hB⟩
  · obtain ⟨C', t1, t2, t3, t4, t5, t6, t7, t8, t9, t10, t11, t12, t13⟩ := take_19_12 hB
    obtain ⟨M', n1, hM, n3, n4, n5, n6, n7, n8, n9, n10, n11, n12, n13⟩ := imageM k2
    have hC : ip_Fr ((0, 6) :: wTk19) C (ip_upI C' 0 6 1) := ip_Fr.upI rfl (ip_Fr.mono (by decide) t2)
    have uu : ∀ a b, a ≠ 0 → (ip_upI C' 0 6 1).1 a b = C'.1 a b := fun a b ha => upI_ne _ _ (fun z => ha z.1)
    refine ⟨M.1 30 19, ip_upI C' 0 6 1, M', ?_, n1, ?_, ?_⟩
    · unfold f_A_image
      rw [k1, if_pos rfl, t1, Option.bind_some, uu _ _ (by omega), (t2 12 4 rfl).1, hq]
    · refine ⟨RT_fr hM rfl hT, RPg_fr hC hM rfl rfl rfl rfl pg, RX_fr hC rfl x, J, cr, hJ, by rw [(hM 30 18 rfl).1]; exact hj, RNow_fr hJ hC hM rfl rfl rfl hn, c4, by rw [(hC 0 7 rfl).1]; exact c5, by rw [(hM 30 21 rfl).1]; exact c6, Or.inl ⟨upI_same _ _ _ _, k0, by rw [n13]; exact c6, ?_⟩⟩
      exact RDk_cp hJ hn (by rw [uu _ _ (by omega)]; exact t3) (by rw [uu _ _ (by omega)]; exact t4) (by rw [uu _ _ (by omega)]; exact t5) (by rw [uu _ _ (by omega)]; exact t6) (fun j hj k hk => by rw [uu _ _ (by omega)]; exact t7 j hj k hk) t8 (by rw [uu _ _ (by omega)]; exact t9) (by rw [uu _ _ (by omega)]; exact t10) (by rw [uu _ _ (by omega)]; exact t11) (by rw [uu _ _ (by omega)]; exact t12) (fun i hi => by rw [uu _ _ (by omega)]; exact t13 i hi) n3 n4 n5 n6 n7 n8 n9 n10 n11 n12
    · intro j hj
      rw [uu _ _ (by omega), uu _ _ (by omega), t7 j hj 5 (by omega)]
      have : C'.1 (14 + j) 5 = C.1 (14 + j) 5 := by
        rcases (show j = 0 ∨ j = 1 ∨ j = 2 by omega) with rfl | rfl | rfl
        · exact (t2 14 5 rfl).1
        · exact (t2 15 5 rfl).1
        · exact (t2 16 5 rfl).1
      rw [this]
      exact ⟨(hB j hj).1, (hB j hj).1⟩
theorem op_restore {N : Nat} {C M : ip_St} (hN : N < 2 ^ 31) (h : Rel2 N C M) (hB : RB C) : ∃ r C' M', f_A_restore C = some (r, C') ∧ f_M_restore M = some (r, M') ∧ Rel2 N C' M' ∧ RB C' := by
  obtain ⟨hT, pg, x, J, cr, hJ, hj, hn, c4, c5, c6, c7⟩ := id h
  have hc : C.1 12 1 = nI J := hn.1
  rcases c7 with ⟨i1, k0, i2, i3⟩ | ⟨i1, i2⟩
  · obtain ⟨C', t1, t2, t3, t4, t5, t6, t7, t8, t9, t10, t11, t12, t13⟩ := take_12_19 hB
    obtain ⟨M', n1, hM, n3, n4, n5, n6, n7, n8, n9, n10, n11, n12⟩ := restoreM (M := M) (by rw [i2, c6])
    have hq : C.1 19 4 = M.1 30 33 := i3.2.2.1
    refine ⟨M.1 30 33, C', M', ?_, n1, ?_, ?_⟩
    · unfold f_A_restore
      rw [i1, if_neg (by decide), t1, Option.bind_some, t5, hq]
    · exact ⟨RT_fr hM rfl hT, RPg_fr t2 hM rfl rfl rfl rfl pg, RX_fr t2 rfl x, J, cr, hJ, by rw [(hM 30 18 rfl).1]; exact hj, RDk_cp hJ i3 t3 t4 t5 t6 t7 t8 t9 t10 t11 t12 t13 n3 n4 n5 n6 n7 n8 n9 n10 n11 n12, c4, by rw [(t2 0 7 rfl).1]; exact c5, by rw [(hM 30 21 rfl).1]; exact c6, Or.inl ⟨by rw [(t2 0 6 rfl).1]; exact i1, k0, by rw [(hM 30 32 rfl).1]; exact i2, RKep_fr hJ t2 hM rfl rfl rfl i3⟩⟩
    · intro j hj
      rw [t7 j hj 5 (by omega)]
      have : C'.1 (21 + j) 5 = C.1 (21 + j) 5 := by
        rcases (show j = 0 ∨ j = 1 ∨ j = 2 by omega) with rfl | rfl | rfl
        · exact (t2 21 5 rfl).1
        · exact (t2 22 5 rfl).1
        · exact (t2 23 5 rfl).1
      rw [this]
      exact ⟨(hB j hj).2, (hB j hj).2⟩
  · have hne : ¬ M.1 30 32 = nI cr := by
      rcases i2 with i2 | ⟨kc, g1, g2⟩
      · rw [i2]
        exact fun z => (nI_n1 (show cr < 2 ^ 31 by omega)).1 z.symm
      · rw [g2, nI_eq (by omega) (by omega)]
        omega
    unfold f_A_restore f_M_restore
    rw [i1, if_pos rfl, c6, if_neg hne]
    exact ⟨_, _, _, rfl, rfl, h, hB⟩
