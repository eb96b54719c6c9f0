/-! ===== digest ===== -/
theorem Rel2.atJ {N : Nat} {C M : ip_St} {J : Nat} (h : Rel2 N C M) (hc : C.1 12 1 = nI J) (hJ : J ≤ 3) : M.1 30 18 = nI J ∧ RNow C M J := by
  obtain ⟨-, -, -, J', cr, hJ', hj, hn, -⟩ := h
  have : J' = J := (nI_eq (by omega) (by omega)).mp (hn.1.symm.trans hc)
  rw [this] at hj hn
  exact ⟨hj, hn⟩
theorem Rel2.say {N : Nat} {C M : ip_St} (h : Rel2 N C M) (v : Int64) : Rel2 N C (f_M_say v M) := h.scrM (ip_Fr.upL rfl ip_Fr.rf)
theorem say_h (v : Int64) (M : ip_St) : (f_M_say v M).2 30 43 = 31 * M.2 30 43 + v := upL_same _ _ _ _
theorem isJ_both {N : Nat} {C M : ip_St} {J j : Nat} (h : Rel2 N C M) (hc : C.1 12 1 = nI J) (hJ : J ≤ 3) (hj : j < J) : f_A_isJudge (nI j) C = true ∧ f_M_isJudge (nI j) M = true := by
  rcases judge_cs hJ hc (h.atJ hc hJ).1 (nI j) with ⟨j', -, -, q1, q2⟩ | ⟨q, -⟩
  · exact ⟨q1, q2⟩
  · exfalso
    unfold f_A_isJudge at q
    rw [hc, if_neg (nI_pos (by omega)), if_neg (by rw [nI_leI (by omega) (by omega)]; omega)] at q
    cases q
theorem dstep {N : Nat} {C M : ip_St} {J j : Nat} (h : Rel2 N C M) (hc : C.1 12 1 = nI J) (hJ : J ≤ 3) (hj : j < J) (p : Int32) : ∃ r C' M', f_A_judge (nI j) p C = some (r, C') ∧ f_M_tellJudge (nI j) p M = some (r, M') ∧ Rel2 N C' (f_M_say r.toInt64 M') ∧ C'.1 12 1 = nI J ∧ (f_M_say r.toInt64 M').2 30 43 = 31 * M.2 30 43 + r.toInt64 := by
  obtain ⟨h1, h2⟩ := h.atJ hc hJ
  obtain ⟨r, C', M', g1, g2, g3, g4, g5⟩ := tell_eq h hJ h1 h2 hj p
  refine ⟨r, C', M', g1, g2, g3.say _, ?_, ?_⟩
  · rw [(g5 12 1 rfl).1]
    exact hc
  · rw [say_h, (g4 30 43 rfl).2]
theorem lt_nI {a b : Nat} (ha : a < 2 ^ 31) (hb : b < 2 ^ 31) (x : Int32) (hx : x = nI b) : (nI a < x ↔ a < b) ∧ (nI a ≤ x ↔ a ≤ b) ∧ (x ≤ nI a ↔ b ≤ a) ∧ (x < nI a ↔ b < a) := by
  subst hx
  exact ⟨nI_ltI ha hb, nI_leI ha hb, nI_leI hb ha, nI_ltI hb ha⟩
theorem seg1 {N J j : Nat} (hJ : J ≤ 3) (hj : j < J) : ∀ (e w n n' : Nat) (C M : ip_St), w + e = 11 → e < n → e + 30 < n' → Rel2 N C M → C.1 12 1 = nI J → ∃ C' M' q, f_A_withJudge_6 n (nI j) (M.2 30 43) (nI w) C = f_A_withJudge_39 ip_FU (nI j) (M'.2 30 43) 0 C' ∧ f_M_sayJudge_2 n' (nI j) (nI w) M = f_M_sayJudge_2 q (nI j) (nI 11) M' ∧ 30 < q ∧ Rel2 N C' M' ∧ C'.1 12 1 = nI J := by
  intro e
  induction e with
  | zero =>
    intro w n n' C M hw hn hn' h hc
    obtain rfl : w = 11 := by omega
    obtain ⟨m, rfl⟩ : ∃ m, n = m + 1 := ⟨n - 1, by omega⟩
    rw [f_A_withJudge_6, if_pos (by decide)]
    exact ⟨C, M, n', rfl, rfl, by omega, h, hc⟩
  | succ e ih =>
    intro w n n' C M hw hn hn' h hc
    obtain ⟨m, rfl⟩ : ∃ m, n = m + 1 := ⟨n - 1, by omega⟩
    obtain ⟨m', rfl⟩ : ∃ m, n' = m + 1 := ⟨n' - 1, by omega⟩
    have a := lt_nI (a := w) (b := 10) (by omega) (by omega) 10 rfl
    have b := lt_nI (a := w) (b := 36) (by omega) (by omega) 36 rfl
    have c := lt_nI (a := w) (b := 11) (by omega) (by omega) 11 rfl
    obtain ⟨r, C1, M1, g1, g2, g3, g4, g5⟩ := dstep h hc hJ hj (nI w)
    rw [f_A_withJudge_6, if_neg (fun z => by have := a.2.2.2.mp z; omega), g1, Option.bind_some, f_M_sayJudge_2, if_neg (fun z => by have := b.2.2.1.mp z; omega), if_pos (c.1.mpr (by omega)), nI_1]
    unfold f_M_sayJudge_34
    rw [g2, Option.bind_some, nI_1]
    have := ih (w + 1) m m' C1 (f_M_say r.toInt64 M1) (by omega) (by omega) (by omega) g3 g4
    rw [g5] at this
    exact this
theorem skp {j : Nat} : ∀ (e w n : Nat) (M : ip_St) (t : Nat), w + e = t → ((11 ≤ w ∧ t = 20) ∨ (26 ≤ w ∧ t = 30)) → e < n → f_M_sayJudge_2 n (nI j) (nI w) M = f_M_sayJudge_2 (n - e) (nI j) (nI t) M := by
  intro e
  induction e with
  | zero =>
    intro w n M t hw _ _
    obtain rfl : w = t := by omega
    rfl
  | succ e ih =>
    intro w n M t hw ht hn
    obtain ⟨m, rfl⟩ : ∃ m, n = m + 1 := ⟨n - 1, by omega⟩
    have b := lt_nI (a := w) (b := 36) (by omega) (by omega) 36 rfl
    have c := lt_nI (a := w) (b := 11) (by omega) (by omega) 11 rfl
    have d := lt_nI (a := w) (b := 29) (by omega) (by omega) 29 rfl
    have i20 : f_M_in (nI w).toInt64 20 25 = false := by
      rw [in_R (nI w) 20 25 20 25 (by decide) (by decide), inR_nI (by omega) (by omega) (by omega)]
      rcases ht with ht | ht
      · have : ¬ 20 ≤ w := by omega
        simp [this]
      · have : ¬ w ≤ 25 := by omega
        simp [this]
    rw [f_M_sayJudge_2, if_neg (fun z => by have := b.2.2.1.mp z; omega), if_neg (fun z => by have := c.1.mp z; omega), i20, if_neg (show ¬ (false = true) by decide), if_pos (d.2.1.mpr (by omega)), nI_1, ih (w + 1) m M t (by omega) (by omega) (by omega), show m + 1 - (e + 1) = m - e by omega]
theorem seg2 {N J j : Nat} (hJ : J ≤ 3) (hj : j < J) : ∀ (e i n n' : Nat) (C M : ip_St), i + e = 6 → e < n → e + 15 < n' → Rel2 N C M → C.1 12 1 = nI J → ∃ C' M' q, f_A_withJudge_39 n (nI j) (M.2 30 43) (nI i) C = f_A_withJudge_75 ip_FU (nI j) (M'.2 30 43) 0 C' ∧ f_M_sayJudge_2 n' (nI j) (nI (20 + i)) M = f_M_sayJudge_2 q (nI j) (nI 26) M' ∧ 15 < q ∧ Rel2 N C' M' ∧ C'.1 12 1 = nI J := by
  intro e
  induction e with
  | zero =>
    intro i n n' C M hi hn hn' h hc
    obtain rfl : i = 6 := by omega
    obtain ⟨m, rfl⟩ : ∃ m, n = m + 1 := ⟨n - 1, by omega⟩
    rw [f_A_withJudge_39, if_pos (by decide)]
    exact ⟨C, M, n', rfl, rfl, by omega, h, hc⟩
  | succ e ih =>
    intro i n n' C M hi hn hn' h hc
    obtain ⟨m, rfl⟩ : ∃ m, n = m + 1 := ⟨n - 1, by omega⟩
    obtain ⟨m', rfl⟩ : ∃ m, n' = m + 1 := ⟨n' - 1, by omega⟩
    have a := lt_nI (a := i) (b := 6) (by omega) (by omega) 6 rfl
    have b := lt_nI (a := 20 + i) (b := 36) (by omega) (by omega) 36 rfl
    have c := lt_nI (a := 20 + i) (b := 11) (by omega) (by omega) 11 rfl
    have i20 : f_M_in (nI (20 + i)).toInt64 20 25 = true := by
      rw [in_R (nI (20 + i)) 20 25 20 25 (by decide) (by decide), inR_nI (by omega) (by omega) (by omega)]
      have q1 : 20 ≤ 20 + i := by omega
      have q2 : 20 + i ≤ 25 := by omega
      rw [decide_eq_true q1, decide_eq_true q2]
      rfl
    obtain ⟨r, C1, M1, g1, g2, g3, g4, g5⟩ := dstep h hc hJ hj (nI (20 + i))
    rw [f_A_withJudge_39, if_neg (fun z => by have := a.2.2.1.mp z; omega), show (20 : Int32) = nI 20 from rfl, nI_add, g1, Option.bind_some, f_M_sayJudge_2, if_neg (fun z => by have := b.2.2.1.mp z; omega), if_neg (fun z => by have := c.1.mp z; omega), i20, if_pos rfl, nI_1]
    unfold f_M_sayJudge_34
    rw [g2, Option.bind_some, nI_1]
    have := ih (i + 1) m m' C1 (f_M_say r.toInt64 M1) (by omega) (by omega) (by omega) g3 g4
    rw [g5] at this
    exact this
theorem bind_id {α : Type} {x : Option α} {r : α} (h : (x.bind fun z => some z) = some r) : x = some r := by
  cases x with
  | none => cases h
  | some a => exact h
theorem odds_j {N : Nat} {C M : ip_St} {J j : Nat} (h : Rel2 N C M) (hc : C.1 12 1 = nI J) (hJ : J ≤ 3) (hj : j < J) (p : Int32) (hp : f_M_in p.toInt64 0 1 = true) : ∃ r, f_A_odds (nI j) p C = some r ∧ f_M_oddsOf (nI j) p M = some r := by
  obtain ⟨r, r1, r2⟩ := op_odds h (nI j) p
  refine ⟨r, r1, ?_⟩
  unfold f_M_odds at r2
  rw [(isJ_both h hc hJ hj).2, if_pos rfl, hp, if_neg (by decide)] at r2
  exact bind_id r2
theorem find_j {N : Nat} {C M : ip_St} {J j : Nat} (h : Rel2 N C M) (hc : C.1 12 1 = nI J) (hJ : J ≤ 3) (hj : j < J) (p2 p : Int32) (hp2 : f_M_in p2.toInt64 1 3 = true) (hp : f_M_in p.toInt64 0 1 = true) : ∃ r, f_A_find (nI j) p2 p C = some r ∧ f_M_findOf (nI j) p2 p M = some r := by
  obtain ⟨r, r1, r2⟩ := op_find h (nI j) p2 p
  refine ⟨r, r1, ?_⟩
  unfold f_M_find at r2
  rw [(isJ_both h hc hJ hj).2, if_pos rfl, hp2, if_neg (by decide), hp, if_neg (by decide)] at r2
  exact bind_id r2
theorem ways_j {N : Nat} {C M : ip_St} {J j : Nat} (h : Rel2 N C M) (hc : C.1 12 1 = nI J) (hJ : J ≤ 3) (hj : j < J) : ∃ r, f_A_ways (nI j) C = some r ∧ f_M_waysOf (nI j) M = some r := by
  obtain ⟨r, r1, r2⟩ := op_ways h (nI j)
  refine ⟨r, r1, ?_⟩
  unfold f_M_ways at r2
  rw [(isJ_both h hc hJ hj).2, if_neg (by decide)] at r2
  exact bind_id r2
theorem seg3 {N J j : Nat} (hJ : J ≤ 3) (hj : j < J) : ∀ (e i n n' : Nat) (C M : ip_St), i + e = 6 → e < n → e < n' → Rel2 N C M → C.1 12 1 = nI J → ∃ C' M', f_A_withJudge_75 n (nI j) (M.2 30 43) (nI i) C = some (M'.2 30 43, C') ∧ f_M_sayJudge_2 n' (nI j) (nI (30 + i)) M = some M' ∧ Rel2 N C' M' ∧ C'.1 12 1 = nI J := by
  intro e
  induction e with
  | zero =>
    intro i n n' C M hi hn hn' h hc
    obtain rfl : i = 6 := by omega
    obtain ⟨m, rfl⟩ : ∃ m, n = m + 1 := ⟨n - 1, by omega⟩
    obtain ⟨m', rfl⟩ : ∃ m, n' = m + 1 := ⟨n' - 1, by omega⟩
    obtain ⟨r1, a1, b1⟩ := ways_j h hc hJ hj
    have h1 := h.say r1
    obtain ⟨r2, a2, b2⟩ := odds_j h1 hc hJ hj 0 (by decide)
    have h2 := h1.say r2.toInt64
    obtain ⟨r3, a3, b3⟩ := odds_j h2 hc hJ hj 1 (by decide)
    have h3 := h2.say r3.toInt64
    obtain ⟨r4, a4, b4⟩ := find_j h3 hc hJ hj 2 0 (by decide) (by decide)
    have h4 := h3.say r4.toInt64
    obtain ⟨r5, a5, b5⟩ := find_j h4 hc hJ hj 2 1 (by decide) (by decide)
    have h5 := h4.say r5.toInt64
    rw [f_A_withJudge_75, if_pos (by decide), a1, Option.bind_some, a2, Option.bind_some, a3, Option.bind_some, a4, Option.bind_some, a5, Option.bind_some, f_M_sayJudge_2, if_pos (by decide), b1, Option.bind_some, b2, Option.bind_some, b3, Option.bind_some, b4, Option.bind_some, b5, Option.bind_some]
    exact ⟨C, _, by rw [say_h, say_h, say_h, say_h, say_h], rfl, h5, hc⟩
  | succ e ih =>
    intro i n n' C M hi hn hn' h hc
    obtain ⟨m, rfl⟩ : ∃ m, n = m + 1 := ⟨n - 1, by omega⟩
    obtain ⟨m', rfl⟩ : ∃ m, n' = m + 1 := ⟨n' - 1, by omega⟩
    have a := lt_nI (a := i) (b := 6) (by omega) (by omega) 6 rfl
    have b := lt_nI (a := 30 + i) (b := 36) (by omega) (by omega) 36 rfl
    have c := lt_nI (a := 30 + i) (b := 11) (by omega) (by omega) 11 rfl
    have d := lt_nI (a := 30 + i) (b := 29) (by omega) (by omega) 29 rfl
    have i20 : f_M_in (nI (30 + i)).toInt64 20 25 = false := by
      rw [in_R (nI (30 + i)) 20 25 20 25 (by decide) (by decide), inR_nI (by omega) (by omega) (by omega)]
      have : ¬ 30 + i ≤ 25 := by omega
      simp [this]
    obtain ⟨r, C1, M1, g1, g2, g3, g4, g5⟩ := dstep h hc hJ hj (nI (30 + i))
    rw [f_A_withJudge_75, if_neg (fun z => by have := a.2.2.1.mp z; omega), show (30 : Int32) = nI 30 from rfl, nI_add, g1, Option.bind_some, f_M_sayJudge_2, if_neg (fun z => by have := b.2.2.1.mp z; omega), if_neg (fun z => by have := c.1.mp z; omega), i20, if_neg (show ¬ (false = true) by decide), if_neg (fun z => by have := d.2.1.mp z; omega), nI_1]
    unfold f_M_sayJudge_34
    rw [g2, Option.bind_some, nI_1]
    have := ih (i + 1) m m' C1 (f_M_say r.toInt64 M1) (by omega) (by omega) (by omega) g3 g4
    rw [g5] at this
    exact this
theorem wj_eq {N J j : Nat} (hJ : J ≤ 3) (hj : j < J) {C M : ip_St} (h : Rel2 N C M) (hc : C.1 12 1 = nI J) : ∃ C' M', f_A_withJudge (M.2 30 43) (nI j) C = some (M'.2 30 43, C') ∧ f_M_sayJudge (nI j) M = some M' ∧ Rel2 N C' M' ∧ C'.1 12 1 = nI J := by
  obtain ⟨C1, M1, q1, a1, a2, a3, a4, a5⟩ := seg1 hJ hj 11 0 ip_FU ip_FU C M rfl (by rw [FU_eq]; omega) (by rw [FU_eq]; omega) h hc
  have s1 := skp (j := j) 9 11 q1 M1 20 rfl (Or.inl ⟨by omega, rfl⟩) (by omega)
  obtain ⟨C2, M2, q2, b1, b2, b3, b4, b5⟩ := seg2 hJ hj 6 0 ip_FU (q1 - 9) C1 M1 rfl (by rw [FU_eq]; omega) (by omega) a4 a5
  have s2 := skp (j := j) 4 26 q2 M2 30 rfl (Or.inr ⟨by omega, rfl⟩) (by omega)
  obtain ⟨C3, M3, c1, c2, c3, c4⟩ := seg3 hJ hj 6 0 ip_FU (q2 - 4) C2 M2 rfl (by rw [FU_eq]; omega) (by omega) b4 b5
  refine ⟨C3, M3, ?_, ?_, c3, c4⟩
  · unfold f_A_withJudge
    rw [show nI 0 = (0 : Int32) from rfl] at a1 b1 c1
    rw [a1, b1, c1]
  · unfold f_M_sayJudge
    rw [show nI 0 = (0 : Int32) from rfl] at a2
    rw [a2, s1]
    rw [show 20 + 0 = 20 from rfl] at b2
    rw [b2, s2]
    exact c2
theorem dig_counts {N : Nat} {C : ip_St} : ∀ (e i n n' : Nat) (M : ip_St), i + e = 12 → e < n → e < n' → Rel2 N C M → ∃ r M', f_A_digest_107 n (M.2 30 43) (nI i) C = some (r, C) ∧ f_M_digest_97 n' (nI i) M = some (r, M') ∧ Rel2 N C M' := by
  intro e
  induction e with
  | zero =>
    intro i n n' M hi hn hn' h
    obtain rfl : i = 12 := by omega
    obtain ⟨m, rfl⟩ : ∃ m, n = m + 1 := ⟨n - 1, by omega⟩
    obtain ⟨m', rfl⟩ : ∃ m, n' = m + 1 := ⟨n' - 1, by omega⟩
    rw [f_A_digest_107, if_pos (by decide), f_M_digest_97, if_pos (by decide)]
    exact ⟨_, M, rfl, rfl, h⟩
  | succ e ih =>
    intro i n n' M hi hn hn' h
    obtain ⟨m, rfl⟩ : ∃ m, n = m + 1 := ⟨n - 1, by omega⟩
    obtain ⟨m', rfl⟩ : ∃ m, n' = m + 1 := ⟨n' - 1, by omega⟩
    have a := lt_nI (a := i) (b := 12) (by omega) (by omega) 12 rfl
    obtain ⟨r, r1, r2⟩ := count_eq h (nI i)
    rw [f_A_digest_107, if_neg (fun z => by have := a.2.2.1.mp z; omega), f_M_digest_97, if_neg (fun z => by have := a.2.2.1.mp z; omega), r1, Option.bind_some, r2, Option.bind_some, nI_1]
    have := ih (i + 1) m m' (f_M_say r.toInt64 M) (by omega) (by omega) (by omega) (h.say _)
    rw [say_h] at this
    exact this
theorem dig_page {N : Nat} {C : ip_St} {l : Nat} (hl : l ≤ 56) (hc : C.1 0 1 = nI l) : ∀ (e i n n' : Nat) (M : ip_St), i + e = l → e < n → e < n' → Rel2 N C M → ∃ r M', f_A_digest_77 n (M.2 30 43) (nI i) C = some (r, C) ∧ f_M_digest_70 n' (nI i) M = some (r, M') ∧ Rel2 N C M' := by
  intro e
  induction e with
  | zero =>
    intro i n n' M hi hn hn' h
    obtain ⟨m, rfl⟩ : ∃ m, n = m + 1 := ⟨n - 1, by omega⟩
    obtain ⟨m', rfl⟩ : ∃ m, n' = m + 1 := ⟨n' - 1, by omega⟩
    obtain ⟨-, ⟨l', l1, l2, l3, l4⟩, -⟩ := id h
    have hll : l' = l := (nI_eq (by omega) (by omega)).mp (l2.symm.trans hc)
    rw [hll] at l3
    have le : nI l ≤ nI i := by rw [nI_leI (by omega) (by omega)]; omega
    rw [f_A_digest_77, hc, if_pos le, f_M_digest_70, l3, if_pos le]
    have := dig_counts 12 0 ip_FU ip_FU M rfl (by rw [FU_eq]; omega) (by rw [FU_eq]; omega) h
    exact this
  | succ e ih =>
    intro i n n' M hi hn hn' h
    obtain ⟨m, rfl⟩ : ∃ m, n = m + 1 := ⟨n - 1, by omega⟩
    obtain ⟨m', rfl⟩ : ∃ m, n' = m + 1 := ⟨n' - 1, by omega⟩
    obtain ⟨-, ⟨l', l1, l2, l3, l4⟩, -⟩ := id h
    have hll : l' = l := (nI_eq (by omega) (by omega)).mp (l2.symm.trans hc)
    rw [hll] at l3 l4
    have le : ¬ nI l ≤ nI i := by rw [nI_leI (by omega) (by omega)]; omega
    rw [f_A_digest_77, hc, if_neg le, f_M_digest_70, l3, if_neg le, aI_at (n := 56) rfl (by omega), Option.bind_some, aI_at (n := 56) rfl (by omega), Option.bind_some, nI_1, l4 i (by omega)]
    have := ih (i + 1) m m' (f_M_say (M.1 32 i).toInt64 M) (by omega) (by omega) (by omega) (h.say _)
    rw [say_h] at this
    exact this
theorem dig_page0 {N : Nat} {C M : ip_St} (h : Rel2 N C M) : ∃ r M', f_A_digest_77 ip_FU (M.2 30 43) 0 C = some (r, C) ∧ f_M_digest_70 ip_FU 0 M = some (r, M') ∧ Rel2 N C M' := by
  obtain ⟨-, ⟨l, l1, l2, l3, l4⟩, -⟩ := id h
  exact dig_page l1 l2 l 0 ip_FU ip_FU M (by omega) (by rw [FU_eq]; omega) (by rw [FU_eq]; omega) h
theorem stat_j {N : Nat} {C M : ip_St} {J : Nat} (h : Rel2 N C M) (hc : C.1 12 1 = nI J) (hJ : J ≤ 3) (h0 : 0 < J) {k : Nat} (hk : k ≤ 5) : ∃ r, f_A_statute (nI k) C = some r ∧ f_M_tellLaw (nI k) M = some r := by
  obtain ⟨r, r1, r2⟩ := op_statute h (nI k)
  refine ⟨r, r1, ?_⟩
  unfold f_M_statute at r2
  have hin : f_M_in (nI k).toInt64 0 5 = true := by
    rw [in_R (nI k) 0 5 0 5 (by decide) (by decide), inR_nI (by omega) (by omega) (by omega)]
    simp [hk]
  have hl : f_M_lacks M = false := by
    rcases court_cs hJ hc (h.atJ hc hJ).1 with ⟨z, -, -⟩ | ⟨-, -, z⟩
    · omega
    · exact z
  rw [hin, if_pos rfl, hl, if_pos rfl] at r2
  exact bind_id r2
theorem dig_law {N : Nat} {C : ip_St} {J : Nat} (hc : C.1 12 1 = nI J) (hJ : J ≤ 3) (h0 : 0 < J) : ∀ (e i n n' : Nat) (M : ip_St), i + e = 6 → e < n → e < n' → Rel2 N C M → ∃ r M', f_A_digest_39 n (M.2 30 43) (nI i) C = some (r, C) ∧ f_M_digest_37 n' (nI i) M = some (r, M') ∧ Rel2 N C M' := by
  intro e
  induction e with
  | zero =>
    intro i n n' M hi hn hn' h
    obtain rfl : i = 6 := by omega
    obtain ⟨m, rfl⟩ : ∃ m, n = m + 1 := ⟨n - 1, by omega⟩
    obtain ⟨m', rfl⟩ : ∃ m, n' = m + 1 := ⟨n' - 1, by omega⟩
    obtain ⟨hT, -⟩ := id h
    obtain ⟨h1, h2⟩ := h.atJ hc hJ
    obtain ⟨r, r1, r2⟩ := benchOf_eq hT hJ h1 h2 h0
    have hb : f_A_bench C = some r := by
      unfold f_A_bench
      rcases court_cs hJ hc h1 with ⟨z, -, -⟩ | ⟨-, z, -⟩
      · omega
      · rw [z, if_pos rfl]
        exact r1
    rw [f_A_digest_39, if_pos (by decide), f_M_digest_37, if_pos (by decide), hb, Option.bind_some, r2, Option.bind_some]
    have := dig_page0 (h.say r.toInt64)
    rw [say_h] at this
    exact this
  | succ e ih =>
    intro i n n' M hi hn hn' h
    obtain ⟨m, rfl⟩ : ∃ m, n = m + 1 := ⟨n - 1, by omega⟩
    obtain ⟨m', rfl⟩ : ∃ m, n' = m + 1 := ⟨n' - 1, by omega⟩
    have a := lt_nI (a := i) (b := 5) (by omega) (by omega) 5 rfl
    have b := lt_nI (a := i) (b := 6) (by omega) (by omega) 6 rfl
    obtain ⟨r, r1, r2⟩ := stat_j h hc hJ h0 (show i ≤ 5 by omega)
    rw [f_A_digest_39, if_neg (fun z => by have := a.2.2.2.mp z; omega), f_M_digest_37, if_neg (fun z => by have := b.2.2.1.mp z; omega), r1, Option.bind_some, r2, Option.bind_some, nI_1]
    have := ih (i + 1) m m' (f_M_say r.toInt64 M) (by omega) (by omega) (by omega) (h.say _)
    rw [say_h] at this
    exact this
theorem dig_loop {N J : Nat} (hJ : J ≤ 3) : ∀ (e j n n' : Nat) (C M : ip_St), j + e = J → e < n → e < n' → Rel2 N C M → C.1 12 1 = nI J → ∃ r C' M', f_A_digest_6 n (M.2 30 43) (nI j) C = some (r, C') ∧ f_M_digest_9 n' (nI j) M = some (r, M') ∧ Rel2 N C' M' := by
  intro e
  induction e with
  | zero =>
    intro j n n' C M hj hn hn' h hc
    obtain ⟨m, rfl⟩ : ∃ m, n = m + 1 := ⟨n - 1, by omega⟩
    obtain ⟨m', rfl⟩ : ∃ m, n' = m + 1 := ⟨n' - 1, by omega⟩
    have h1 := (h.atJ hc hJ).1
    have le : nI J ≤ nI j := by rw [nI_leI (by omega) (by omega)]; omega
    rw [f_A_digest_6, hc, if_pos le, f_M_digest_9, h1, if_pos le]
    rcases court_cs hJ hc h1 with ⟨-, k1, k2⟩ | ⟨k0, k1, k2⟩
    · rw [k1, k2, if_pos rfl, if_pos rfl]
      obtain ⟨r, M', r1, r2, r3⟩ := dig_page0 h
      exact ⟨r, C, M', r1, r2, r3⟩
    · rw [k1, k2, if_neg (by decide), if_neg (by decide)]
      obtain ⟨r, M', r1, r2, r3⟩ := dig_law hc hJ k0 6 0 ip_FU ip_FU M rfl (by rw [FU_eq]; omega) (by rw [FU_eq]; omega) h
      exact ⟨r, C, M', r1, r2, r3⟩
  | succ e ih =>
    intro j n n' C M hj hn hn' h hc
    obtain ⟨m, rfl⟩ : ∃ m, n = m + 1 := ⟨n - 1, by omega⟩
    obtain ⟨m', rfl⟩ : ∃ m, n' = m + 1 := ⟨n' - 1, by omega⟩
    have h1 := (h.atJ hc hJ).1
    have le : ¬ nI J ≤ nI j := by rw [nI_leI (by omega) (by omega)]; omega
    obtain ⟨C1, M1, g1, g2, g3, g4⟩ := wj_eq hJ (show j < J by omega) h hc
    rw [f_A_digest_6, hc, if_neg le, f_M_digest_9, h1, if_neg le, g1, Option.bind_some, g2, Option.bind_some, nI_1]
    exact ih (j + 1) m m' C1 M1 (by omega) (by omega) (by omega) g3 g4
theorem op_digest {N : Nat} {C M : ip_St} (h : Rel2 N C M) : ∃ r C' M', f_A_digest C = some (r, C') ∧ f_M_digest M = some (r, M') ∧ Rel2 N C' M' := by
  obtain ⟨-, -, -, J, cr, hJ, hj, hn, -⟩ := id h
  have hc : C.1 12 1 = nI J := hn.1
  have h1 : Rel2 N C (ip_upL M 30 43 1103) := h.scrM (ip_Fr.upL rfl ip_Fr.rf)
  have := dig_loop hJ J 0 ip_FU ip_FU C (ip_upL M 30 43 1103) (by omega) (by rw [FU_eq]; omega) (by rw [FU_eq]; omega) h1 hc
  rw [upL_same] at this
  exact this
