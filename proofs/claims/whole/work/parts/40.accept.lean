/-! ===== each letter: the reference; a law scanned by both ===== -/
def AR (M : ip_St) (a : AS) : Prop := M.1 30 4 = nI a.1 ∧ M.1 30 5 = (if a.2.2.2.1 = 0 then (if a.2.1 = true then 0 else 1) else 2) ∧ a.2.2.2.2.1 0 = 0 ∧ ∀ i, 1 ≤ i → i ≤ a.1 → (a.2.2.2.2.1 i = 1 ∧ M.1 33 (i - 1) = 40) ∨ (a.2.2.2.2.1 i = 2 ∧ M.1 33 (i - 1) = 91)
def MS (k x : Nat) (c : Int32) (M : ip_St) (a : AS) : Prop := (astep k x a = none ∧ ∃ M', f_M_goLaw c M = some (false, M')) ∨ ∃ a' M', astep k x a = some a' ∧ f_M_goLaw c M = some (true, M') ∧ AR M' a'
theorem isTop_eq {M : ip_St} {a : AS} (h : AR M a) (hL : a.1 ≤ 56) : f_M_isTop 91 M = some (decide (shL a = 2)) ∧ f_M_isTop 40 M = some (decide (shL a = 1)) := by
  obtain ⟨h4, h5, h0, hi⟩ := h
  unfold f_M_isTop shL
  rw [h4]
  rcases Nat.eq_zero_or_pos a.1 with z | z
  · rw [z, h0]
    exact ⟨if_pos (by decide), if_pos (by decide)⟩
  · have hle : ¬ nI a.1 ≤ 0 := nI_nle z (by omega)
    have he : nI a.1 - 1 = nI (a.1 - 1) := by
      obtain ⟨L, e⟩ : ∃ L, a.1 = L + 1 := ⟨a.1 - 1, by omega⟩
      rw [e, nI_pred]
      rfl
    rw [if_neg hle, if_neg hle, he]
    rcases hi a.1 z (Nat.le_refl _) with ⟨q1, q2⟩ | ⟨q1, q2⟩
    · constructor
      · refine (aI_r (n := 60) (i := a.1 - 1) rfl rfl (by omega)).trans ?_
        rw [q1, q2]
        decide
      · refine (aI_r (n := 60) (i := a.1 - 1) rfl rfl (by omega)).trans ?_
        rw [q1, q2]
        decide
    · constructor
      · refine (aI_r (n := 60) (i := a.1 - 1) rfl rfl (by omega)).trans ?_
        rw [q1, q2]
        decide
      · refine (aI_r (n := 60) (i := a.1 - 1) rfl rfl (by omega)).trans ?_
        rw [q1, q2]
        decide
theorem go_dig {M : ip_St} {a : AS} (h : AR M a) (h0 : ¬ a.2.2.2.1 = 0) (c : Int32) : f_M_goLaw c M = if c = 91 then ((f_M_opens 91 M).bind fun zq9 => (if zq9.1 = false then some (false, zq9.2) else some (true, zq9.2))) else some (false, M) := by
  unfold f_M_goLaw
  rw [h.2.1, if_neg h0, if_neg (by decide), if_neg (by decide)]
theorem go_in {M : ip_St} {a : AS} (h : AR M a) (hi : aIn a = true) (c : Int32) {r : Bool × ip_St} (hr : f_M_goPart c M = some r) : f_M_goLaw c M = some r := by
  unfold aIn at hi
  rw [Bool.and_eq_true, decide_eq_true_eq] at hi
  unfold f_M_goLaw
  rw [h.2.1, if_pos hi.1, if_pos hi.2, if_pos rfl, hr]
  rfl
theorem go_be {M : ip_St} {a : AS} (h : AR M a) (hi : aBe a = true) (c : Int32) {r : Bool × ip_St} (hr : f_M_goBehindPart c M = some r) : f_M_goLaw c M = some r := by
  unfold aBe at hi
  rw [Bool.and_eq_true, decide_eq_true_eq, Bool.not_eq_true'] at hi
  unfold f_M_goLaw
  rw [h.2.1, if_pos hi.1, hi.2, if_neg (show ¬ (false = true) by decide), if_neg (by decide), if_pos rfl, hr]
  rfl
theorem in_97 (c : Int32) : f_M_in c.toInt64 97 102 = inR c 97 102 := in_R c 97 102 97 102 (by decide) (by decide)
theorem in_49 (c : Int32) : f_M_in c.toInt64 49 51 = inR c 49 51 := in_R c 49 51 49 51 (by decide) (by decide)
theorem opens_eq {M : ip_St} {a : AS} (h : AR M a) (hL : a.1 ≤ 55) (c : Int32) : f_M_opens c M = some (true, ip_upI (ip_upI (ip_upI M 33 a.1 c) 30 4 (nI (a.1 + 1))) 30 5 0) := by
  unfold f_M_opens
  refine (wI_r (n := 60) (i := a.1) rfl h.1 (by omega)).trans ?_
  show some (true, ip_upI (ip_upI (ip_upI M 33 a.1 c) 30 4 (M.1 30 4 + 1)) 30 5 0) = _
  rw [h.1, nI_1]
theorem AR_open {M : ip_St} {a : AS} (h : AR M a) {s : Nat} {c : Int32} (hs : (s = 1 ∧ c = 40) ∨ (s = 2 ∧ c = 91)) (nd : Nat → Nat) (ng : Nat → Bool) : AR (ip_upI (ip_upI (ip_upI M 33 a.1 c) 30 4 (nI (a.1 + 1))) 30 5 0) (a.1 + 1, true, false, 0, fu a.2.2.2.2.1 (a.1 + 1) s, nd, ng) := by
  obtain ⟨h4, h5, h0, hi⟩ := h
  refine ⟨rfl, rfl, ?_, fun i i1 i2 => ?_⟩
  · show fu a.2.2.2.2.1 (a.1 + 1) s 0 = 0
    rw [fu_n _ _ (by omega)]
    exact h0
  · have i2' : i ≤ a.1 + 1 := i2
    have e33 : (ip_upI (ip_upI (ip_upI M 33 a.1 c) 30 4 (nI (a.1 + 1))) 30 5 0).1 33 = fu (M.1 33) a.1 c := upI_fu M 33 a.1 c
    show (fu a.2.2.2.2.1 (a.1 + 1) s i = 1 ∧ (ip_upI (ip_upI (ip_upI M 33 a.1 c) 30 4 (nI (a.1 + 1))) 30 5 0).1 33 (i - 1) = 40) ∨ (fu a.2.2.2.2.1 (a.1 + 1) s i = 2 ∧ (ip_upI (ip_upI (ip_upI M 33 a.1 c) 30 4 (nI (a.1 + 1))) 30 5 0).1 33 (i - 1) = 91)
    rw [e33]
    by_cases z : i = a.1 + 1
    · subst z
      rw [fu_s, show a.1 + 1 - 1 = a.1 from rfl, fu_s]
      exact hs
    · rw [fu_n _ _ z, fu_n _ _ (by omega)]
      exact hi i i1 (by omega)
theorem gp_o {M : ip_St} {c : Int32} (h1 : inR c 97 102 = false) (h2 : inR c 49 51 = false) : f_M_goPart c M = (if c = 33 then some (true, M) else (if c = 40 then ((f_M_opens 40 M).bind fun zq5 => (if zq5.1 = false then some (false, zq5.2) else some (true, zq5.2))) else some (false, M))) := by
  unfold f_M_goPart
  rw [in_97, in_49, h1, h2, if_pos rfl, if_pos rfl]
theorem gb_o {M : ip_St} {c : Int32} (h1 : ¬ c = 124) (h2 : ¬ c = 38) (h3 : ¬ c = 44) (h4 : ¬ c = 41) (h5 : ¬ c = 93) : f_M_goBehindPart c M = some (false, M) := by
  unfold f_M_goBehindPart f_M_goBehindPart_34 f_M_goBehindPart_49
  rw [if_neg h1, if_neg h2, if_neg h3, if_neg h4, if_neg h5]
theorem ms_step {M : ip_St} {a : AS} (h : AR M a) (hL : a.1 ≤ 55) (c : Int32) : MS (tok c).1 (tok c).2 c M a := by
  have h' := h
  obtain ⟨h4, h5, hs0, hi⟩ := h'
  obtain ⟨it2, it1⟩ := isTop_eq h (by omega)
  rcases tok_cs c with ⟨k, x, hx, e, ec⟩ | ⟨k, ec⟩ | ⟨k, x, hx1, hx3, e, ec⟩ | ⟨k, ec⟩ | ⟨k, ec⟩ | ⟨k, ec⟩ | ⟨k, ec⟩ | ⟨k, ec⟩ | ⟨k, ec⟩ | ⟨k, ec⟩ | ⟨k, e1, e2, e3, e4, e5, e6, e7, e8, e9, e10⟩
  · rw [k, e]
    have hin : inR c 97 102 = true := by
      rw [ec, show (97 : Int32) = nI 97 from rfl, show (102 : Int32) = nI 102 from rfl, inR_nI (by omega) (by omega) (by omega)]
      have q1 : 97 ≤ 97 + x := by omega
      have q2 : 97 + x ≤ 102 := by omega
      rw [decide_eq_true q1, decide_eq_true q2]
      rfl
    rcases a_tri a with ⟨t0, t1, t2⟩ | ⟨t0, t1, t2⟩ | ⟨t0, t1, t2⟩
    · refine Or.inl ⟨by show (if aIn a = true then _ else none) = none; rw [t1]; rfl, M, ?_⟩
      rw [go_dig h t0, if_neg (by rw [ec]; exact nI_lit (b := 91) (k := 0) (by omega) (by omega) (by omega) 91 rfl)]
    · refine Or.inr ⟨(a.1, false, false, 0, a.2.2.2.2), ip_upI M 30 5 1, (by show (if aIn a = true then some _ else none) = some _; rw [t1]; rfl), go_in h t1 c ?_, ⟨h4, rfl, hs0, hi⟩⟩
      unfold f_M_goPart
      rw [in_97, hin, if_neg (show ¬ (true = false) by decide)]
    · refine Or.inl ⟨by show (if aIn a = true then _ else none) = none; rw [t1]; rfl, M, go_be h t2 c (gb_o ?_ ?_ ?_ ?_ ?_)⟩
      · rw [ec]; exact nI_lit (b := 124) (k := 0) (by omega) (by omega) (by omega) 124 rfl
      · rw [ec]; exact nI_lit (b := 38) (k := 0) (by omega) (by omega) (by omega) 38 rfl
      · rw [ec]; exact nI_lit (b := 44) (k := 0) (by omega) (by omega) (by omega) 44 rfl
      · rw [ec]; exact nI_lit (b := 41) (k := 0) (by omega) (by omega) (by omega) 41 rfl
      · rw [ec]; exact nI_lit (b := 93) (k := 0) (by omega) (by omega) (by omega) 93 rfl
  · rw [k]
    generalize (tok c).2 = x
    subst ec
    rcases a_tri a with ⟨t0, t1, t2⟩ | ⟨t0, t1, t2⟩ | ⟨t0, t1, t2⟩
    · exact Or.inl ⟨by show (if aIn a = true then _ else none) = none; rw [t1]; rfl, M, by rw [go_dig h t0, if_neg (by decide)]⟩
    · refine Or.inr ⟨(a.1, true, !a.2.2.1, 0, a.2.2.2.2), M, (by show (if aIn a = true then some _ else none) = some _; rw [t1]; rfl), go_in h t1 _ (by rw [gp_o (by decide) (by decide), if_pos rfl]), ⟨h4, ?_, hs0, hi⟩⟩
      rw [h5, if_pos t0]
      unfold aIn at t1
      rw [Bool.and_eq_true] at t1
      rw [if_pos t1.2]
      rfl
    · exact Or.inl ⟨by show (if aIn a = true then _ else none) = none; rw [t1]; rfl, M, go_be h t2 _ (gb_o (by decide) (by decide) (by decide) (by decide) (by decide))⟩
  · rw [k, e]
    have h97 : inR c 97 102 = false := by
      rw [ec, show (97 : Int32) = nI 97 from rfl, show (102 : Int32) = nI 102 from rfl, inR_nI (by omega) (by omega) (by omega)]
      have q1 : ¬ 97 ≤ 48 + x := by omega
      rw [decide_eq_false q1]
      rfl
    have h49 : inR c 49 51 = true := by
      rw [ec, show (49 : Int32) = nI 49 from rfl, show (51 : Int32) = nI 51 from rfl, inR_nI (by omega) (by omega) (by omega)]
      have q1 : 49 ≤ 48 + x := by omega
      have q2 : 48 + x ≤ 51 := by omega
      rw [decide_eq_true q1, decide_eq_true q2]
      rfl
    rcases a_tri a with ⟨t0, t1, t2⟩ | ⟨t0, t1, t2⟩ | ⟨t0, t1, t2⟩
    · refine Or.inl ⟨by show (if aIn a = true then _ else none) = none; rw [t1]; rfl, M, ?_⟩
      rw [go_dig h t0, if_neg (by rw [ec]; exact nI_lit (b := 91) (k := 0) (by omega) (by omega) (by omega) 91 rfl)]
    · refine Or.inr ⟨(a.1, true, a.2.2.1, x, a.2.2.2.2), ip_upI M 30 5 2, (by show (if aIn a = true then some _ else none) = some _; rw [t1]; rfl), go_in h t1 c ?_, ⟨h4, ?_, hs0, hi⟩⟩
      · unfold f_M_goPart
        rw [in_97, in_49, h97, h49, if_pos rfl, if_neg (show ¬ (true = false) by decide)]
      · show (2 : Int32) = if x = 0 then _ else 2
        rw [if_neg (by omega)]
    · refine Or.inl ⟨by show (if aIn a = true then _ else none) = none; rw [t1]; rfl, M, go_be h t2 c (gb_o ?_ ?_ ?_ ?_ ?_)⟩
      · rw [ec]; exact nI_lit (b := 124) (k := 0) (by omega) (by omega) (by omega) 124 rfl
      · rw [ec]; exact nI_lit (b := 38) (k := 0) (by omega) (by omega) (by omega) 38 rfl
      · rw [ec]; exact nI_lit (b := 44) (k := 0) (by omega) (by omega) (by omega) 44 rfl
      · rw [ec]; exact nI_lit (b := 41) (k := 0) (by omega) (by omega) (by omega) 41 rfl
      · rw [ec]; exact nI_lit (b := 93) (k := 0) (by omega) (by omega) (by omega) 93 rfl
  · rw [k]
    generalize (tok c).2 = x
    subst ec
    rcases a_tri a with ⟨t0, t1, t2⟩ | ⟨t0, t1, t2⟩ | ⟨t0, t1, t2⟩
    · exact Or.inl ⟨by show (if aIn a = true then _ else none) = none; rw [t1]; rfl, M, by rw [go_dig h t0, if_neg (by decide)]⟩
    · refine Or.inr ⟨_, _, (by show (if aIn a = true then some _ else none) = some _; rw [t1]; rfl), go_in h t1 _ (r := (true, _)) ?_, AR_open h (Or.inl ⟨rfl, rfl⟩) _ _⟩
      rw [gp_o (by decide) (by decide), if_neg (by decide), if_pos rfl, opens_eq h hL]
      rfl
    · exact Or.inl ⟨by show (if aIn a = true then _ else none) = none; rw [t1]; rfl, M, go_be h t2 _ (gb_o (by decide) (by decide) (by decide) (by decide) (by decide))⟩
  · rw [k]
    generalize (tok c).2 = x
    subst ec
    rcases a_tri a with ⟨t0, t1, t2⟩ | ⟨t0, t1, t2⟩ | ⟨t0, t1, t2⟩
    · refine Or.inr ⟨_, _, (by show (if a.2.2.2.1 = 0 then none else some _) = some _; rw [if_neg t0]), ?_, AR_open h (Or.inr ⟨rfl, rfl⟩) _ _⟩
      rw [go_dig h t0, if_pos rfl, opens_eq h hL]
      rfl
    · exact Or.inl ⟨by show (if a.2.2.2.1 = 0 then none else some _) = none; rw [if_pos t0], M, go_in h t1 _ (by rw [gp_o (by decide) (by decide), if_neg (by decide), if_neg (by decide)])⟩
    · exact Or.inl ⟨by show (if a.2.2.2.1 = 0 then none else some _) = none; rw [if_pos t0], M, go_be h t2 _ (gb_o (by decide) (by decide) (by decide) (by decide) (by decide))⟩
  · rw [k]
    generalize (tok c).2 = x
    subst ec
    rcases a_tri a with ⟨t0, t1, t2⟩ | ⟨t0, t1, t2⟩ | ⟨t0, t1, t2⟩
    · exact Or.inl ⟨by show (if aBe a = true then _ else none) = none; rw [t2]; rfl, M, by rw [go_dig h t0, if_neg (by decide)]⟩
    · exact Or.inl ⟨by show (if aBe a = true then _ else none) = none; rw [t2]; rfl, M, go_in h t1 _ (by rw [gp_o (by decide) (by decide), if_neg (by decide), if_neg (by decide)])⟩
    · refine Or.inr ⟨(a.1, true, a.2.2.1, 0, a.2.2.2.2), ip_upI M 30 5 0, (by show (if aBe a = true then some _ else none) = some _; rw [t2]; rfl), go_be h t2 _ ?_, ⟨h4, rfl, hs0, hi⟩⟩
      unfold f_M_goBehindPart
      rw [if_neg (by decide), if_pos rfl]
      rfl
  · rw [k]
    generalize (tok c).2 = x
    subst ec
    rcases a_tri a with ⟨t0, t1, t2⟩ | ⟨t0, t1, t2⟩ | ⟨t0, t1, t2⟩
    · exact Or.inl ⟨by show (if aBe a = true then _ else none) = none; rw [t2]; rfl, M, by rw [go_dig h t0, if_neg (by decide)]⟩
    · exact Or.inl ⟨by show (if aBe a = true then _ else none) = none; rw [t2]; rfl, M, go_in h t1 _ (by rw [gp_o (by decide) (by decide), if_neg (by decide), if_neg (by decide)])⟩
    · refine Or.inr ⟨(a.1, true, a.2.2.1, 0, a.2.2.2.2), ip_upI M 30 5 0, (by show (if aBe a = true then some _ else none) = some _; rw [t2]; rfl), go_be h t2 _ ?_, ⟨h4, rfl, hs0, hi⟩⟩
      unfold f_M_goBehindPart
      rw [if_pos rfl]
      rfl
  · rw [k]
    generalize (tok c).2 = x
    subst ec
    rcases a_tri a with ⟨t0, t1, t2⟩ | ⟨t0, t1, t2⟩ | ⟨t0, t1, t2⟩
    · exact Or.inl ⟨by show (if aBe a = true ∧ shL a = 2 then _ else none) = none; rw [t2, if_neg (by simp)], M, by rw [go_dig h t0, if_neg (by decide)]⟩
    · exact Or.inl ⟨by show (if aBe a = true ∧ shL a = 2 then _ else none) = none; rw [t2, if_neg (by simp)], M, go_in h t1 _ (by rw [gp_o (by decide) (by decide), if_neg (by decide), if_neg (by decide)])⟩
    · have gb : f_M_goBehindPart 44 M = if decide (shL a = 2) = false then some (false, M) else some (true, ip_upI M 30 5 0) := by
        unfold f_M_goBehindPart f_M_goBehindPart_34 f_M_goBehindPart_49
        rw [if_neg (by decide), if_neg (by decide), if_pos rfl, it2, Option.bind_some, if_neg (show ¬ (44 : Int32) = 41 by decide), if_neg (show ¬ (44 : Int32) = 93 by decide)]
        rfl
      by_cases hz : shL a = 2
      · rw [decide_eq_true hz, if_neg (by decide)] at gb
        exact Or.inr ⟨(a.1, true, a.2.2.1, 0, a.2.2.2.2), ip_upI M 30 5 0, (by show (if aBe a = true ∧ shL a = 2 then some _ else none) = some _; rw [if_pos ⟨t2, hz⟩]), go_be h t2 _ gb, ⟨h4, rfl, hs0, hi⟩⟩
      · rw [decide_eq_false hz, if_pos rfl] at gb
        exact Or.inl ⟨by show (if aBe a = true ∧ shL a = 2 then _ else none) = none; rw [if_neg (fun z => hz z.2)], M, go_be h t2 _ gb⟩
  · rw [k]
    generalize (tok c).2 = x
    subst ec
    rcases a_tri a with ⟨t0, t1, t2⟩ | ⟨t0, t1, t2⟩ | ⟨t0, t1, t2⟩
    · exact Or.inl ⟨by show (if aBe a = true ∧ shL a = 1 then _ else none) = none; rw [t2, if_neg (by simp)], M, by rw [go_dig h t0, if_neg (by decide)]⟩
    · exact Or.inl ⟨by show (if aBe a = true ∧ shL a = 1 then _ else none) = none; rw [t2, if_neg (by simp)], M, go_in h t1 _ (by rw [gp_o (by decide) (by decide), if_neg (by decide), if_neg (by decide)])⟩
    · have gb : f_M_goBehindPart 41 M = if decide (shL a = 1) = true then some (true, ip_upI M 30 4 (M.1 30 4 - 1)) else some (false, M) := by
        unfold f_M_goBehindPart f_M_goBehindPart_34 f_M_goBehindPart_49 f_M_goBehindPart_64
        rw [if_neg (by decide), if_neg (by decide), if_neg (by decide), if_pos rfl, it1, Option.bind_some, if_neg (show ¬ (41 : Int32) = 93 by decide)]
      by_cases hz : shL a = 1
      · rw [decide_eq_true hz, if_pos rfl] at gb
        have hp : 1 ≤ a.1 := by
          rcases Nat.eq_zero_or_pos a.1 with z | z
          · unfold shL at hz
            rw [z, hs0] at hz
            omega
          · exact z
        have e9 : M.1 30 4 - 1 = nI (a.1 - 1) := by
          obtain ⟨L, e⟩ : ∃ L, a.1 = L + 1 := ⟨a.1 - 1, by omega⟩
          rw [h4, e, nI_pred]
          rfl
        rw [e9] at gb
        refine Or.inr ⟨(a.1 - 1, false, false, 0, a.2.2.2.2), ip_upI M 30 4 (nI (a.1 - 1)), (by show (if aBe a = true ∧ shL a = 1 then some _ else none) = some _; rw [if_pos ⟨t2, hz⟩]), go_be h t2 _ gb, ⟨rfl, ?_, hs0, fun i i1 i2 => hi i i1 ?_⟩⟩
        · show M.1 30 5 = 1
          rw [h5, if_pos t0]
          unfold aBe at t2
          rw [Bool.and_eq_true, Bool.not_eq_true'] at t2
          rw [t2.2]
          rfl
        · have : i ≤ a.1 - 1 := i2
          omega
      · rw [decide_eq_false hz, if_neg (by decide)] at gb
        exact Or.inl ⟨by show (if aBe a = true ∧ shL a = 1 then _ else none) = none; rw [if_neg (fun z => hz z.2)], M, go_be h t2 _ gb⟩
  · rw [k]
    generalize (tok c).2 = x
    subst ec
    rcases a_tri a with ⟨t0, t1, t2⟩ | ⟨t0, t1, t2⟩ | ⟨t0, t1, t2⟩
    · exact Or.inl ⟨by show (if aBe a = true ∧ shL a = 2 then _ else none) = none; rw [t2, if_neg (by simp)], M, by rw [go_dig h t0, if_neg (by decide)]⟩
    · exact Or.inl ⟨by show (if aBe a = true ∧ shL a = 2 then _ else none) = none; rw [t2, if_neg (by simp)], M, go_in h t1 _ (by rw [gp_o (by decide) (by decide), if_neg (by decide), if_neg (by decide)])⟩
    · have gb : f_M_goBehindPart 93 M = if decide (shL a = 2) = false then some (false, M) else some (true, ip_upI M 30 4 (M.1 30 4 - 1)) := by
        unfold f_M_goBehindPart f_M_goBehindPart_34 f_M_goBehindPart_49 f_M_goBehindPart_64
        rw [if_neg (by decide), if_neg (by decide), if_neg (by decide), if_neg (show ¬ (93 : Int32) = 41 by decide), if_pos rfl, it2, Option.bind_some]
      by_cases hz : shL a = 2
      · rw [decide_eq_true hz, if_neg (by decide)] at gb
        have hp : 1 ≤ a.1 := by
          rcases Nat.eq_zero_or_pos a.1 with z | z
          · unfold shL at hz
            rw [z, hs0] at hz
            omega
          · exact z
        have e9 : M.1 30 4 - 1 = nI (a.1 - 1) := by
          obtain ⟨L, e⟩ : ∃ L, a.1 = L + 1 := ⟨a.1 - 1, by omega⟩
          rw [h4, e, nI_pred]
          rfl
        rw [e9] at gb
        refine Or.inr ⟨(a.1 - 1, false, false, 0, a.2.2.2.2), ip_upI M 30 4 (nI (a.1 - 1)), (by show (if aBe a = true ∧ shL a = 2 then some _ else none) = some _; rw [if_pos ⟨t2, hz⟩]), go_be h t2 _ gb, ⟨rfl, ?_, hs0, fun i i1 i2 => hi i i1 ?_⟩⟩
        · show M.1 30 5 = 1
          rw [h5, if_pos t0]
          unfold aBe at t2
          rw [Bool.and_eq_true, Bool.not_eq_true'] at t2
          rw [t2.2]
          rfl
        · have : i ≤ a.1 - 1 := i2
          omega
      · rw [decide_eq_false hz, if_pos rfl] at gb
        exact Or.inl ⟨by show (if aBe a = true ∧ shL a = 2 then _ else none) = none; rw [if_neg (fun z => hz z.2)], M, go_be h t2 _ gb⟩
  · rw [k]
    refine Or.inl ⟨rfl, M, ?_⟩
    rcases a_tri a with ⟨t0, t1, t2⟩ | ⟨t0, t1, t2⟩ | ⟨t0, t1, t2⟩
    · rw [go_dig h t0, if_neg e5]
    · exact go_in h t1 _ (by rw [gp_o e1 e2, if_neg e3, if_neg e4])
    · exact go_be h t2 _ (gb_o e7 e6 e8 e9 e10)
