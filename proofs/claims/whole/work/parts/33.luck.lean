/-! ===== luck, as the class works it out ===== -/
def okS (k : Nat) (W F : Int64) (S : Nat) : Prop := S &&& fixN k = 0 ∧ ¬ sw W F S = 0
def luI (k : Nat) (W F : Int64) (b : Int32) (s : Nat) : Prop := (b = -1 ∧ ∀ S, S < s → ¬ okS k W F S) ∨ ∃ m, m ≤ 6 ∧ b = nI m ∧ (∃ S, S < 64 ∧ okS k W F S ∧ p6 S = m) ∧ ∀ S, S < s → okS k W F S → m ≤ p6 S
theorem p6_le (S : Nat) : p6 S ≤ 6 := ct_le _ 6
theorem luck_loop {k : Nat} (hk : k < 5) (W F : Int64) : ∀ (e s n : Nat) (b : Int32), s + e = 64 → e < n → luI k W F b s → ∃ b', f_A_luck_6 n (nI k) W F b (nI s) = some b' ∧ luI k W F b' 64 := by
  intro e
  induction e with
  | zero =>
    intro s n b hs hn hI
    obtain rfl : s = 64 := by omega
    obtain ⟨m, rfl⟩ : ∃ m, n = m + 1 := ⟨n - 1, by omega⟩
    rw [f_A_luck_6, if_pos (by decide)]
    exact ⟨b, rfl, hI⟩
  | succ e ih =>
    intro s n b hs hn hI
    obtain ⟨m, rfl⟩ : ∃ m, n = m + 1 := ⟨n - 1, by omega⟩
    have hs6 : s < 64 := by omega
    have hp := p6_le s
    have keep : (okS k W F s → ∃ q, q ≤ 6 ∧ b = nI q ∧ q ≤ p6 s) → luI k W F b (s + 1) := by
      intro hq
      rcases hI with ⟨h1, h2⟩ | ⟨q, q1, q2, q3, q4⟩
      · refine Or.inl ⟨h1, fun S hS ho => ?_⟩
        rcases Nat.lt_or_ge S s with z | z
        · exact h2 S z ho
        · obtain rfl : S = s := by omega
          obtain ⟨q, q1, q2, q3⟩ := hq ho
          rw [h1] at q2
          exact (nI_n1 (show q < 2 ^ 31 by omega)).1 q2.symm
      · refine Or.inr ⟨q, q1, q2, q3, fun S hS ho => ?_⟩
        rcases Nat.lt_or_ge S s with z | z
        · exact q4 S z ho
        · obtain rfl : S = s := by omega
          obtain ⟨q', r1, r2, r3⟩ := hq ho
          have : q = q' := (nI_eq (by omega) (by omega)).mp (q2.symm.trans r2)
          omega
    have take : okS k W F s → (b = -1 ∨ ∃ q, q ≤ 6 ∧ b = nI q ∧ p6 s ≤ q) → luI k W F (nI (p6 s)) (s + 1) := by
      intro ho hq
      refine Or.inr ⟨p6 s, hp, rfl, ⟨s, hs6, ho, rfl⟩, fun S hS hoS => ?_⟩
      rcases Nat.lt_or_ge S s with z | z
      · rcases hI with ⟨h1, h2⟩ | ⟨q, q1, q2, q3, q4⟩
        · exact absurd hoS (h2 S z)
        · have := q4 S z hoS
          rcases hq with hq | ⟨q', r1, r2, r3⟩
          · rw [hq] at q2
            exact absurd q2.symm (nI_n1 (show q < 2 ^ 31 by omega)).1
          · have : q = q' := (nI_eq (by omega) (by omega)).mp (q2.symm.trans r2)
            omega
      · obtain rfl : S = s := by omega
        exact Nat.le_refl _
    have hfx := fix_lt k hk
    have hand : nI (s &&& fixN k) = 0 ↔ s &&& fixN k = 0 := by
      have : s &&& fixN k ≤ s := Nat.and_le_left
      rw [show (0 : Int32) = nI 0 from rfl, nI_eq (by omega) (by omega)]
    rw [f_A_luck_6, if_neg (by rw [show (64 : Int32) = nI 64 from rfl, nI_leI (by omega) (by omega)]; omega), cI56 k hk, Option.bind_some, nI_and, ibc_ck s hs6, nI_1]
    by_cases h0 : s &&& fixN k = 0
    · rw [if_pos (hand.mpr h0)]
      have go : (b = -1 ∨ ∃ q, q ≤ 6 ∧ b = nI q ∧ p6 s ≤ q) → ∃ b', f_A_luck_44 (f_A_luck_6 m) (nI k) W F b (nI s) (nI (p6 s)) = some b' ∧ luI k W F b' 64 := by
        intro hq
        unfold f_A_luck_44
        rw [sureWays_eq W F hs6, Option.bind_some, nI_1]
        by_cases hz : sw W F s = 0
        · rw [if_pos hz]
          exact ih (s + 1) m b (by omega) (by omega) (keep (fun ho => absurd hz ho.2))
        · rw [if_neg hz]
          exact ih (s + 1) m _ (by omega) (by omega) (take ⟨h0, hz⟩ hq)
      by_cases hb : b = -1
      · rw [if_pos hb]
        exact go (Or.inl hb)
      · rw [if_neg hb]
        rcases id hI with ⟨h1, -⟩ | ⟨q, q1, q2, -⟩
        · exact absurd h1 hb
        · by_cases hle : q ≤ p6 s
          · rw [if_pos (by rw [q2]; exact (nI_leI (by omega) (by omega)).mpr hle)]
            exact ih (s + 1) m b (by omega) (by omega) (keep (fun _ => ⟨q, q1, q2, hle⟩))
          · rw [if_neg (by rw [q2]; exact fun z => hle ((nI_leI (by omega) (by omega)).mp z))]
            exact go (Or.inr ⟨q, q1, q2, by omega⟩)
    · rw [if_neg (fun z => h0 (hand.mp z))]
      exact ih (s + 1) m b (by omega) (by omega) (keep (fun ho => absurd ho.1 h0))
theorem unfix_ck : ∀ k, k < 5 → ∀ S, S < 64 → S &&& (63 - fixN k) < 64 ∧ (S &&& (63 - fixN k)) &&& fixN k = 0 ∧ p6 (S &&& (63 - fixN k)) ≤ p6 S ∧ ∀ f, f < 6 → (S &&& (63 - fixN k)).testBit f = (S.testBit f && !((fixN k).testBit f)) := by decide +kernel
theorem say_tb : ∀ k, k < 5 → ∀ w, w < 64 → ∀ f, f < 6 → (sayN k w).testBit f = if (fixN k).testBit f then (ansN k).testBit f else w.testBit f := by decide +kernel
theorem LKP_ok {k : Nat} (hk : k < 5) (W F : Int64) (n : Nat) : LKP k F n W ↔ ∃ S, S < 64 ∧ okS k W F S ∧ p6 S ≤ n := by
  constructor
  · rintro ⟨S, s1, s2, w, w1, w2, w3⟩
    obtain ⟨u1, u2, u3, u4⟩ := unfix_ck k hk S s1
    refine ⟨S &&& (63 - fixN k), u1, ⟨u2, fun z => ?_⟩, by omega⟩
    have : lb (sw W F (S &&& (63 - fixN k))) w = true := by
      rw [lb_sw W F u1 w1]
      refine ⟨w2, fun v v1 v2 hag => w3 v v1 v2 (fun f hf hs => ?_)⟩
      rw [say_tb k hk w w1 f hf, say_tb k hk v v1 f hf]
      cases hx : (fixN k).testBit f with
      | true => rfl
      | false =>
        simp only [Bool.false_eq_true, if_false]
        exact hag f hf (by rw [u4 f hf, hs, hx]; rfl)
    rw [z, lb_0] at this
    cases this
  · rintro ⟨S, s1, ⟨h1, h2⟩, h3⟩
    obtain ⟨w, w1, w2⟩ := lb_some h2
    rw [lb_sw W F s1 w1] at w2
    refine ⟨S, s1, h3, w, w1, w2.1, fun v v1 v2 hag => w2.2 v v1 v2 (fun f hf hs => ?_)⟩
    have hnf : (fixN k).testBit f = false := by
      cases hx : (fixN k).testBit f with
      | false => rfl
      | true =>
        have : (S &&& fixN k).testBit f = true := by rw [Nat.testBit_and, hs, hx]; rfl
        rw [h1] at this
        simp at this
    have := hag f hf hs
    rw [say_tb k hk w w1 f hf, say_tb k hk v v1 f hf, hnf] at this
    simpa using this
theorem luck_eq {k : Nat} (hk : k < 5) (W F : Int64) {v : Nat} (hv : v ≤ 99) (h : ∀ n, n < 99 → (v ≤ n ↔ LKP k F n W)) : f_A_luck (nI k) W F = some (if v ≤ 9 then nI v else -1) := by
  obtain ⟨b, h1, h2⟩ := luck_loop hk W F 64 0 ip_FU (-1) rfl (by rw [FU_eq]; omega) (Or.inl ⟨rfl, fun S hS => absurd hS (Nat.not_lt_zero S)⟩)
  have h1' : f_A_luck (nI k) W F = some b := h1
  rw [h1']
  congr 1
  rcases h2 with ⟨e, hno⟩ | ⟨m, m1, e, ⟨S, s1, s2, s3⟩, hmin⟩
  · have : ¬ v ≤ 9 := by
      intro q
      have := (h 9 (by omega)).mp q
      rw [LKP_ok hk] at this
      obtain ⟨S, s1, s2, -⟩ := this
      exact hno S s1 s2
    rw [if_neg this, e]
  · have a1 : v ≤ m := (h m (by omega)).mpr ((LKP_ok hk W F m).mpr ⟨S, s1, s2, by omega⟩)
    have a2 : m ≤ v := by
      obtain ⟨S', t1, t2, t3⟩ := (LKP_ok hk W F v).mp ((h v (by omega)).mp (Nat.le_refl v))
      have := hmin S' t1 t2
      omega
    obtain rfl : v = m := by omega
    rw [if_pos (by omega), e]
