/-! ===== each letter: the class ===== -/
theorem acc_dig {C : ip_St} {L g : Nat} (h9 : C.1 2 9 = nI L) (hL : L ≤ 55) (h12 : C.1 2 12 = nI g) (h0 : ¬ g = 0) (hg : g ≤ 3) (c : Int32) : f_R_accept c C = if c = 91 then some (true, OL C L 2) else some (false, C) := by
  unfold f_R_accept
  rw [h12, if_neg (nI_ne0 (by omega) (by omega)), openLevel_eq h9 hL 2, Option.bind_some, if_neg (show ¬ (true = false) by decide)]
theorem acc_in {C : ip_St} (h12 : C.1 2 12 = 0) (h10 : C.1 2 10 = 1) (c : Int32) {r : Bool × ip_St} (h : f_R_acceptInPart c C = some r) : f_R_accept c C = some r := by
  unfold f_R_accept
  rw [h12, if_pos rfl, h10, if_neg (by decide), h]
  rfl
theorem acc_be {C : ip_St} (h12 : C.1 2 12 = 0) (h10 : C.1 2 10 = 0) (c : Int32) {r : Bool × ip_St} (h : f_R_acceptBehindPart c C = some r) : f_R_accept c C = some r := by
  unfold f_R_accept
  rw [h12, if_pos rfl, h10, if_pos rfl, h]
  rfl
theorem inP_o {C : ip_St} {c : Int32} (h : inR c 97 102 = false) : f_R_acceptInPart c C = f_R_acceptInPart_39 c C := by
  unfold f_R_acceptInPart
  by_cases h1 : c < 97
  · rw [if_pos h1]
  · rw [if_neg h1]
    have h2 : 102 < c := by
      unfold inR at h
      rw [decide_eq_true (nlt32.mp h1), Bool.true_and] at h
      exact nle32.mp (of_decide_eq_false h)
    rw [if_pos h2]
theorem inP_p {C : ip_St} {c : Int32} (h : inR c 49 51 = false) (h33 : ¬ c = 33) : f_R_acceptInPart_39 c C = f_R_acceptInPart_111 c C := by
  unfold f_R_acceptInPart_39
  rw [if_neg h33]
  by_cases h1 : c < 49
  · rw [if_pos h1]
  · rw [if_neg h1]
    have h2 : 51 < c := by
      unfold inR at h
      rw [decide_eq_true (nlt32.mp h1), Bool.true_and] at h
      exact nle32.mp (of_decide_eq_false h)
    rw [if_pos h2]
theorem ref_in {C : ip_St} (h12 : C.1 2 12 = 0) (h10 : C.1 2 10 = 1) {c : Int32} (h1 : inR c 97 102 = false) (h2 : inR c 49 51 = false) (h3 : ¬ c = 33) (h4 : ¬ c = 40) : f_R_accept c C = some (false, C) := by
  refine acc_in h12 h10 c ?_
  rw [inP_o h1, inP_p h2 h3]
  unfold f_R_acceptInPart_111
  rw [if_neg h4]
theorem ref_be {C : ip_St} (h12 : C.1 2 12 = 0) (h10 : C.1 2 10 = 0) {c : Int32} (h1 : ¬ c = 38) (h2 : ¬ c = 41) (h3 : ¬ c = 44) (h4 : ¬ c = 93) (h5 : ¬ c = 124) : f_R_accept c C = some (false, C) := by
  refine acc_be h12 h10 c ?_
  unfold f_R_acceptBehindPart
  rw [if_neg h1, if_neg h2, if_neg h3, if_neg h4, if_neg h5]
theorem nI_lit {x : Nat} {b k : Nat} (hx : x < 2 ^ 31) (hb : b < 2 ^ 31) (h : ¬ x = b) (v : Int32) (hv : v = nI b) : ¬ nI x = v := by
  rw [hv, nI_eq hx hb]
  exact h
theorem CW_in {C : ip_St} {a : AS} (h : CW C a) (hi : aIn a = true) : C.1 2 12 = 0 ∧ C.1 2 10 = 1 ∧ a.2.2.2.1 = 0 := by
  unfold aIn at hi
  rw [Bool.and_eq_true, decide_eq_true_eq] at hi
  refine ⟨?_, ?_, hi.1⟩
  · rw [h.2.2.2.1, hi.1]
    rfl
  · rw [h.2.1, hi.2]
    rfl
theorem CW_be {C : ip_St} {a : AS} (h : CW C a) (hi : aBe a = true) : C.1 2 12 = 0 ∧ C.1 2 10 = 0 ∧ a.2.2.2.1 = 0 ∧ a.2.1 = false := by
  unfold aBe at hi
  rw [Bool.and_eq_true, decide_eq_true_eq, Bool.not_eq_true'] at hi
  refine ⟨?_, ?_, hi.1, hi.2⟩
  · rw [h.2.2.2.1, hi.1]
    rfl
  · rw [h.2.1, hi.2]
    rfl
theorem a_tri (a : AS) : (¬ a.2.2.2.1 = 0 ∧ aIn a = false ∧ aBe a = false) ∨ (a.2.2.2.1 = 0 ∧ aIn a = true ∧ aBe a = false) ∨ (a.2.2.2.1 = 0 ∧ aIn a = false ∧ aBe a = true) := by
  unfold aIn aBe
  by_cases h : a.2.2.2.1 = 0
  · right
    rw [decide_eq_true h]
    cases a.2.1
    · right; exact ⟨h, rfl, rfl⟩
    · left; exact ⟨h, rfl, rfl⟩
  · left
    rw [decide_eq_false h]
    exact ⟨h, rfl, rfl⟩
theorem CW_dig {C : ip_St} {a : AS} (h : CW C a) (hL : a.1 ≤ 55) (h0 : ¬ a.2.2.2.1 = 0) {c : Int32} (hc : ¬ c = 91) : ∃ C', f_R_accept c C = some (false, C') := ⟨C, by rw [acc_dig h.1 hL h.2.2.2.1 h0 h.2.2.2.2.1 c, if_neg hc]⟩
theorem b2_and1 (b : Bool) : b2 b &&& 1 = b2 b := by cases b <;> decide
theorem not01 (b : Bool) : (if b2 b = 0 then (1 : Int32) else 0) = b2 (!b) := by cases b <;> decide
/-- the level that is opened -/
theorem CW_OL {C : ip_St} {a : AS} {l : rLS} (h : CW C a) (hl : LC C l) {s : Nat} (hs : s = 1 ∨ s = 2) : CW (OL C a.1 (nI s)) (a.1 + 1, true, false, 0, fu a.2.2.2.2.1 (a.1 + 1) s, fu a.2.2.2.2.2.1 (a.1 + 1) a.2.2.2.1, fu a.2.2.2.2.2.2 (a.1 + 1) a.2.2.1) ∧ LC (OL C a.1 (nI s)) (fu l.1 (a.1 + 1) 0, fu l.2.1 (a.1 + 1) (-1), fu l.2.2.1 (a.1 + 1) 0, fu l.2.2.2.1 (a.1 + 1) 0, fu l.2.2.2.2 (a.1 + 1) 0) := by
  obtain ⟨h9, h10, h11, h12, hg, hgw, hwn, h40, hs0, hi⟩ := h
  obtain ⟨l1, l2, l3, l4, l5⟩ := hl
  have e4 : (OL C a.1 (nI s)).1 4 = fu (C.1 4) (a.1 + 1) (nI s) := upI_fu _ 4 (a.1 + 1) (nI s)
  have e5 : (OL C a.1 (nI s)).1 5 = fu (C.1 5) (a.1 + 1) (C.1 2 12) := upI_fu _ 5 (a.1 + 1) (C.1 2 12)
  have e6 : (OL C a.1 (nI s)).1 6 = fu (C.1 6) (a.1 + 1) (C.1 2 11 &&& 1) := upI_fu _ 6 (a.1 + 1) (C.1 2 11 &&& 1)
  have e7 : (OL C a.1 (nI s)).2 7 = fu (C.2 7) (a.1 + 1) 0 := upL_fu _ 7 (a.1 + 1) 0
  have e8 : (OL C a.1 (nI s)).2 8 = fu (C.2 8) (a.1 + 1) (-1) := upL_fu _ 8 (a.1 + 1) (-1)
  have e9 : (OL C a.1 (nI s)).2 9 = fu (C.2 9) (a.1 + 1) 0 := upL_fu _ 9 (a.1 + 1) 0
  have e10 : (OL C a.1 (nI s)).2 10 = fu (C.2 10) (a.1 + 1) 0 := upL_fu _ 10 (a.1 + 1) 0
  have e11 : (OL C a.1 (nI s)).2 11 = fu (C.2 11) (a.1 + 1) 0 := upL_fu _ 11 (a.1 + 1) 0
  refine ⟨⟨rfl, rfl, rfl, rfl, Nat.zero_le 3, fun z => absurd rfl z, (fun z => by cases z), ?_, ?_, fun i i1 i2 => ?_⟩, ?_⟩
  · rw [e4, fu_n _ _ (by omega)]
    exact h40
  · show fu a.2.2.2.2.1 (a.1 + 1) s 0 = 0
    rw [fu_n _ _ (by omega)]
    exact hs0
  · show (OL C a.1 (nI s)).1 4 i = nI (fu a.2.2.2.2.1 (a.1 + 1) s i) ∧ (fu a.2.2.2.2.1 (a.1 + 1) s i = 1 ∨ fu a.2.2.2.2.1 (a.1 + 1) s i = 2) ∧ (OL C a.1 (nI s)).1 5 i = nI (fu a.2.2.2.2.2.1 (a.1 + 1) a.2.2.2.1 i) ∧ fu a.2.2.2.2.2.1 (a.1 + 1) a.2.2.2.1 i ≤ 3 ∧ (OL C a.1 (nI s)).1 6 i = b2 (fu a.2.2.2.2.2.2 (a.1 + 1) a.2.2.1 i)
    rw [e4, e5, e6]
    by_cases z : i = a.1 + 1
    · subst z
      rw [fu_s, fu_s, fu_s, fu_s, fu_s, fu_s, h11, h12, b2_and1]
      exact ⟨rfl, hs, rfl, hg, rfl⟩
    · rw [fu_n _ _ z, fu_n _ _ z, fu_n _ _ z, fu_n _ _ z, fu_n _ _ z, fu_n _ _ z]
      have i2' : i ≤ a.1 + 1 := i2
      exact hi i i1 (by omega)
  · exact ⟨by rw [e7, l1], by rw [e8, l2], by rw [e9, l3], by rw [e10, l4], by rw [e11, l5]⟩
theorem cs_k4 {C : ip_St} {a : AS} {l : rLS} (h : CW C a) (hl : LC C l) (hL : a.1 ≤ 55) (x : Nat) : CS 4 x 40 C a l := by
  rcases a_tri a with ⟨t0, t1, t2⟩ | ⟨t0, t1, t2⟩ | ⟨t0, t1, t2⟩
  · exact Or.inl ⟨by show (if aIn a = true then _ else none) = none; rw [t1]; rfl, CW_dig h hL t0 (by decide)⟩
  · obtain ⟨c12, c10, -⟩ := CW_in h t1
    have hw := CW_OL h hl (s := 1) (Or.inl rfl)
    rw [t0] at hw
    refine Or.inr ⟨_, OL C a.1 1, (by show (if aIn a = true then some _ else none) = some _; rw [t1]; rfl), acc_in c12 c10 40 ?_, hw.1, hw.2, ⟨rfl, rfl, rfl, rfl⟩⟩
    rw [inP_o (by decide), inP_p (by decide) (by decide)]
    unfold f_R_acceptInPart_111
    rw [if_pos rfl, openLevel_eq h.1 hL 1]
    rfl
  · obtain ⟨c12, c10, -⟩ := CW_be h t2
    exact Or.inl ⟨by show (if aIn a = true then _ else none) = none; rw [t1]; rfl, C, ref_be c12 c10 (by decide) (by decide) (by decide) (by decide) (by decide)⟩
theorem cs_k5 {C : ip_St} {a : AS} {l : rLS} (h : CW C a) (hl : LC C l) (hL : a.1 ≤ 55) (x : Nat) : CS 5 x 91 C a l := by
  rcases a_tri a with ⟨t0, t1, t2⟩ | ⟨t0, t1, t2⟩ | ⟨t0, t1, t2⟩
  · have hw := CW_OL h hl (s := 2) (Or.inr rfl)
    refine Or.inr ⟨_, OL C a.1 2, (by show (if a.2.2.2.1 = 0 then none else some _) = some _; rw [if_neg t0]), (by rw [acc_dig h.1 hL h.2.2.2.1 t0 h.2.2.2.2.1 91, if_pos rfl]), hw.1, hw.2, ⟨rfl, rfl, rfl, rfl⟩⟩
  · obtain ⟨c12, c10, -⟩ := CW_in h t1
    exact Or.inl ⟨by show (if a.2.2.2.1 = 0 then none else some _) = none; rw [if_pos t0], C, ref_in c12 c10 (by decide) (by decide) (by decide) (by decide)⟩
  · obtain ⟨c12, c10, -⟩ := CW_be h t2
    exact Or.inl ⟨by show (if a.2.2.2.1 = 0 then none else some _) = none; rw [if_pos t0], C, ref_be c12 c10 (by decide) (by decide) (by decide) (by decide) (by decide)⟩
theorem cs_k1 {C : ip_St} {a : AS} {l : rLS} (h : CW C a) (hl : LC C l) (hL : a.1 ≤ 55) {x : Nat} (hx : x < 6) : CS 1 x (nI (97 + x)) C a l := by
  have hin : inR (nI (97 + x)) 97 102 = true := by
    rw [show (97 : Int32) = nI 97 from rfl, show (102 : Int32) = nI 102 from rfl, inR_nI (by omega) (by omega) (by omega)]
    have q1 : 97 ≤ 97 + x := by omega
    have q2 : 97 + x ≤ 102 := by omega
    rw [decide_eq_true q1, decide_eq_true q2]
    rfl
  rcases a_tri a with ⟨t0, t1, t2⟩ | ⟨t0, t1, t2⟩ | ⟨t0, t1, t2⟩
  · exact Or.inl ⟨by show (if aIn a = true then _ else none) = none; rw [t1]; rfl, CW_dig h hL t0 (nI_lit (b := 91) (k := 0) (by omega) (by omega) (by omega) 91 rfl)⟩
  · obtain ⟨c12, c10, -⟩ := CW_in h t1
    obtain ⟨h9, h10, h11, h12, hg, hgw, hwn, h40, hs0, hi⟩ := h
    obtain ⟨l1, l2, l3, l4, l5⟩ := hl
    refine Or.inr ⟨(a.1, false, false, 0, a.2.2.2.2), EP (ip_upI C 3 1 (C.1 3 1 + 1)) a.1 a.2.2.1 (rw0 x), (by show (if aIn a = true then some _ else none) = some _; rw [t1]; rfl), acc_in c12 c10 _ ?_, ⟨h9, rfl, rfl, c12, Nat.zero_le 3, fun z => absurd rfl z, fun _ => rfl, h40, hs0, hi⟩, ⟨l1, ?_, l3, l4, l5⟩, ⟨rfl, rfl, rfl, rfl⟩⟩
    · unfold f_R_acceptInPart
      have e97 : nI (97 + x) - 97 = nI x := by rw [show (97 : Int32) = nI 97 from rfl, pk_sub (by omega)]; congr 1; omega
      rw [if_neg (by rw [show (97 : Int32) = nI 97 from rfl, nI_ltI (by omega) (by omega)]; omega), if_neg (by rw [show (102 : Int32) = nI 102 from rfl, nI_ltI (by omega) (by omega)]; omega), e97, cL_ck x hx, Option.bind_some, endPart_eq (S := ip_upI C 3 1 (C.1 3 1 + 1)) (L := a.1) (nt := a.2.2.1) h9 h11 (by omega)]
      rfl
    · show (ip_upL (ip_upI C 3 1 (C.1 3 1 + 1)) 8 a.1 _).2 8 = fu l.2.1 a.1 (l.2.1 a.1 &&& ngt a.2.2.1 (rw0 x))
      rw [upL_fu]
      show fu (C.2 8) a.1 (C.2 8 a.1 &&& _) = _
      rw [l2]
      rfl
  · obtain ⟨c12, c10, -⟩ := CW_be h t2
    refine Or.inl ⟨by show (if aIn a = true then _ else none) = none; rw [t1]; rfl, C, ref_be c12 c10 ?_ ?_ ?_ ?_ ?_⟩
    · exact nI_lit (b := 38) (k := 0) (by omega) (by omega) (by omega) 38 rfl
    · exact nI_lit (b := 41) (k := 0) (by omega) (by omega) (by omega) 41 rfl
    · exact nI_lit (b := 44) (k := 0) (by omega) (by omega) (by omega) 44 rfl
    · exact nI_lit (b := 93) (k := 0) (by omega) (by omega) (by omega) 93 rfl
    · exact nI_lit (b := 124) (k := 0) (by omega) (by omega) (by omega) 124 rfl
theorem cs_k2 {C : ip_St} {a : AS} {l : rLS} (h : CW C a) (hl : LC C l) (hL : a.1 ≤ 55) (x : Nat) : CS 2 x 33 C a l := by
  rcases a_tri a with ⟨t0, t1, t2⟩ | ⟨t0, t1, t2⟩ | ⟨t0, t1, t2⟩
  · exact Or.inl ⟨by show (if aIn a = true then _ else none) = none; rw [t1]; rfl, CW_dig h hL t0 (by decide)⟩
  · obtain ⟨c12, c10, -⟩ := CW_in h t1
    obtain ⟨h9, h10, h11, h12, hg, hgw, hwn, h40, hs0, hi⟩ := h
    refine Or.inr ⟨(a.1, true, !a.2.2.1, 0, a.2.2.2.2), ip_upI (ip_upI C 3 2 (C.1 3 2 + 1)) 2 11 (b2 (!a.2.2.1)), (by show (if aIn a = true then some _ else none) = some _; rw [t1]; rfl), acc_in c12 c10 _ ?_, ⟨h9, c10, rfl, c12, Nat.zero_le 3, fun z => absurd rfl z, (fun z => by cases z), h40, hs0, hi⟩, hl, ⟨rfl, rfl, rfl, rfl⟩⟩
    rw [inP_o (by decide)]
    unfold f_R_acceptInPart_39 f_R_acceptInPart_71
    rw [if_pos rfl]
    have e : (ip_upI C 3 2 (C.1 3 2 + 1)).1 2 11 = b2 a.2.2.1 := h11
    rw [e]
    cases a.2.2.1
    · rfl
    · rfl
  · obtain ⟨c12, c10, -⟩ := CW_be h t2
    exact Or.inl ⟨by show (if aIn a = true then _ else none) = none; rw [t1]; rfl, C, ref_be c12 c10 (by decide) (by decide) (by decide) (by decide) (by decide)⟩
theorem cs_k3 {C : ip_St} {a : AS} {l : rLS} (h : CW C a) (hl : LC C l) (hL : a.1 ≤ 55) {x : Nat} (hx1 : 1 ≤ x) (hx3 : x ≤ 3) : CS 3 x (nI (48 + x)) C a l := by
  rcases a_tri a with ⟨t0, t1, t2⟩ | ⟨t0, t1, t2⟩ | ⟨t0, t1, t2⟩
  · exact Or.inl ⟨by show (if aIn a = true then _ else none) = none; rw [t1]; rfl, CW_dig h hL t0 (nI_lit (b := 91) (k := 0) (by omega) (by omega) (by omega) 91 rfl)⟩
  · obtain ⟨c12, c10, -⟩ := CW_in h t1
    obtain ⟨h9, h10, h11, h12, hg, hgw, hwn, h40, hs0, hi⟩ := h
    have e48 : nI (48 + x) - 48 = nI x := by rw [show (48 : Int32) = nI 48 from rfl, pk_sub (by omega)]; congr 1; omega
    refine Or.inr ⟨(a.1, true, a.2.2.1, x, a.2.2.2.2), ip_upI (ip_upI C 3 3 (C.1 3 3 + 1)) 2 12 (nI x), (by show (if aIn a = true then some _ else none) = some _; rw [t1]; rfl), acc_in c12 c10 _ ?_, ⟨h9, c10, h11, rfl, hx3, fun _ => rfl, (fun z => by cases z), h40, hs0, hi⟩, hl, ⟨rfl, rfl, rfl, rfl⟩⟩
    have h97 : inR (nI (48 + x)) 97 102 = false := by
      rw [show (97 : Int32) = nI 97 from rfl, show (102 : Int32) = nI 102 from rfl, inR_nI (by omega) (by omega) (by omega)]
      have q1 : ¬ 97 ≤ 48 + x := by omega
      rw [decide_eq_false q1]
      rfl
    rw [inP_o h97]
    unfold f_R_acceptInPart_39
    rw [if_neg (nI_lit (b := 33) (k := 0) (by omega) (by omega) (by omega) 33 rfl), if_neg (by rw [show (49 : Int32) = nI 49 from rfl, nI_ltI (by omega) (by omega)]; omega), if_neg (by rw [show (51 : Int32) = nI 51 from rfl, nI_ltI (by omega) (by omega)]; omega), e48]
  · obtain ⟨c12, c10, -⟩ := CW_be h t2
    refine Or.inl ⟨by show (if aIn a = true then _ else none) = none; rw [t1]; rfl, C, ref_be c12 c10 ?_ ?_ ?_ ?_ ?_⟩
    · exact nI_lit (b := 38) (k := 0) (by omega) (by omega) (by omega) 38 rfl
    · exact nI_lit (b := 41) (k := 0) (by omega) (by omega) (by omega) 41 rfl
    · exact nI_lit (b := 44) (k := 0) (by omega) (by omega) (by omega) 44 rfl
    · exact nI_lit (b := 93) (k := 0) (by omega) (by omega) (by omega) 93 rfl
    · exact nI_lit (b := 124) (k := 0) (by omega) (by omega) (by omega) 124 rfl
theorem cs_k6 {C : ip_St} {a : AS} {l : rLS} (h : CW C a) (hl : LC C l) (hL : a.1 ≤ 55) (x : Nat) : CS 6 x 38 C a l := by
  rcases a_tri a with ⟨t0, t1, t2⟩ | ⟨t0, t1, t2⟩ | ⟨t0, t1, t2⟩
  · exact Or.inl ⟨by show (if aBe a = true then _ else none) = none; rw [t2]; rfl, CW_dig h hL t0 (by decide)⟩
  · obtain ⟨c12, c10, -⟩ := CW_in h t1
    exact Or.inl ⟨by show (if aBe a = true then _ else none) = none; rw [t2]; rfl, C, ref_in c12 c10 (by decide) (by decide) (by decide) (by decide)⟩
  · obtain ⟨c12, c10, -⟩ := CW_be h t2
    obtain ⟨h9, h10, h11, h12, hg, hgw, hwn, h40, hs0, hi⟩ := h
    refine Or.inr ⟨(a.1, true, a.2.2.1, 0, a.2.2.2.2), ip_upI C 2 10 1, (by show (if aBe a = true then some _ else none) = some _; rw [t2]; rfl), acc_be c12 c10 _ ?_, ⟨h9, rfl, h11, c12, Nat.zero_le 3, fun z => absurd rfl z, (fun z => by cases z), h40, hs0, hi⟩, hl, ⟨rfl, rfl, rfl, rfl⟩⟩
    unfold f_R_acceptBehindPart
    rw [if_pos rfl]
theorem cs_k7 {C : ip_St} {a : AS} {l : rLS} (h : CW C a) (hl : LC C l) (hL : a.1 ≤ 55) (x : Nat) : CS 7 x 124 C a l := by
  rcases a_tri a with ⟨t0, t1, t2⟩ | ⟨t0, t1, t2⟩ | ⟨t0, t1, t2⟩
  · exact Or.inl ⟨by show (if aBe a = true then _ else none) = none; rw [t2]; rfl, CW_dig h hL t0 (by decide)⟩
  · obtain ⟨c12, c10, -⟩ := CW_in h t1
    exact Or.inl ⟨by show (if aBe a = true then _ else none) = none; rw [t2]; rfl, C, ref_in c12 c10 (by decide) (by decide) (by decide) (by decide)⟩
  · obtain ⟨c12, c10, -⟩ := CW_be h t2
    obtain ⟨h9, h10, h11, h12, hg, hgw, hwn, h40, hs0, hi⟩ := h
    obtain ⟨l1, l2, l3, l4, l5⟩ := hl
    refine Or.inr ⟨(a.1, true, a.2.2.1, 0, a.2.2.2.2), ip_upI (ip_upL (ip_upL C 7 a.1 (C.2 7 a.1 ||| C.2 8 a.1)) 8 a.1 (-1)) 2 10 1, (by show (if aBe a = true then some _ else none) = some _; rw [t2]; rfl), acc_be c12 c10 _ ?_, ⟨h9, rfl, h11, c12, Nat.zero_le 3, fun z => absurd rfl z, (fun z => by cases z), h40, hs0, hi⟩, ⟨?_, ?_, l3, l4, l5⟩, ⟨rfl, rfl, rfl, rfl⟩⟩
    · unfold f_R_acceptBehindPart
      rw [if_neg (by decide), if_neg (by decide), if_neg (by decide), if_neg (by decide), if_pos rfl]
      refine (aL_r (n := 57) (i := a.1) rfl h9 (by omega)).trans ?_
      refine (aL_r (n := 57) (i := a.1) rfl h9 (by omega)).trans ?_
      refine (wL_r (n := 57) (i := a.1) rfl h9 (by omega)).trans ?_
      have st : f_R_startTerm (ip_upL C 7 a.1 (C.2 7 a.1 ||| C.2 8 a.1)) = some (ip_upI (ip_upL (ip_upL C 7 a.1 (C.2 7 a.1 ||| C.2 8 a.1)) 8 a.1 (-1)) 2 10 1) := startTerm_eq (L := a.1) h9 (by omega)
      rw [st]
      rfl
    · show (ip_upL C 7 a.1 _).2 7 = fu l.1 a.1 (l.1 a.1 ||| l.2.1 a.1)
      rw [upL_fu, l1, l2]
    · show (ip_upL (ip_upL C 7 a.1 _) 8 a.1 (-1)).2 8 = fu l.2.1 a.1 (-1)
      rw [upL_fu]
      show fu (C.2 8) a.1 (-1) = _
      rw [l2]
theorem CW_sh {C : ip_St} {a : AS} (h : CW C a) : C.1 4 a.1 = nI (shL a) ∧ shL a ≤ 2 ∧ (¬ shL a = 0 → 1 ≤ a.1) := by
  obtain ⟨h9, h10, h11, h12, hg, hgw, hwn, h40, hs0, hi⟩ := h
  unfold shL
  rcases Nat.eq_zero_or_pos a.1 with z | z
  · rw [z, hs0]
    exact ⟨h40, by omega, fun y => absurd rfl y⟩
  · obtain ⟨i1, i2, -⟩ := hi a.1 z (Nat.le_refl _)
    refine ⟨i1, ?_, fun _ => z⟩
    omega
theorem LC_LL {C : ip_St} {a : AS} {l : rLS} (hl : LC C l) : LC (LL9 C a.1) (lcnt a l) := by
  obtain ⟨l1, l2, l3, l4, l5⟩ := hl
  refine ⟨?_, ?_, ?_, ?_, ?_⟩
  · show (ip_upL _ 7 a.1 0).2 7 = fu l.1 a.1 0
    rw [upL_fu]
    show fu (C.2 7) a.1 0 = _
    rw [l1]
  · show (ip_upL _ 8 a.1 (-1)).2 8 = fu l.2.1 a.1 (-1)
    rw [upL_fu]
    show fu (C.2 8) a.1 (-1) = _
    rw [l2]
  · show (ip_upL _ 9 a.1 _).2 9 = _
    rw [upL_fu]
    show fu (C.2 9) a.1 (C.2 9 a.1 ||| (C.2 7 a.1 ||| C.2 8 a.1)) = _
    rw [l1, l2, l3]
    rfl
  · show (ip_upL _ 10 a.1 _).2 10 = _
    rw [upL_fu]
    show fu (C.2 10) a.1 (C.2 10 a.1 ||| (C.2 9 a.1 &&& (C.2 7 a.1 ||| C.2 8 a.1))) = _
    rw [l1, l2, l3, l4]
    rfl
  · show (ip_upL _ 11 a.1 _).2 11 = _
    rw [upL_fu, l1, l2, l4, l5]
    rfl
theorem cs_k8 {C : ip_St} {a : AS} {l : rLS} (h : CW C a) (hl : LC C l) (hL : a.1 ≤ 55) (x : Nat) : CS 8 x 44 C a l := by
  rcases a_tri a with ⟨t0, t1, t2⟩ | ⟨t0, t1, t2⟩ | ⟨t0, t1, t2⟩
  · exact Or.inl ⟨by show (if aBe a = true ∧ shL a = 2 then _ else none) = none; rw [t2, if_neg (by simp)], CW_dig h hL t0 (by decide)⟩
  · obtain ⟨c12, c10, -⟩ := CW_in h t1
    exact Or.inl ⟨by show (if aBe a = true ∧ shL a = 2 then _ else none) = none; rw [t2, if_neg (by simp)], C, ref_in c12 c10 (by decide) (by decide) (by decide) (by decide)⟩
  · obtain ⟨c12, c10, -⟩ := CW_be h t2
    obtain ⟨s1, s2, s3⟩ := CW_sh h
    have hr : f_R_acceptBehindPart 44 C = if nI (shL a) = 2 then some (true, LL9 C a.1) else some (false, C) := by
      unfold f_R_acceptBehindPart
      rw [if_neg (by decide), if_neg (by decide), if_pos rfl]
      refine (aI_r (n := 57) (i := a.1) rfl h.1 (by omega)).trans ?_
      rw [s1, endList_eq h.1 (by omega)]
      rfl
    have q : nI (shL a) = 2 ↔ shL a = 2 := nI_eq (b := 2) (by omega) (by omega)
    by_cases hz : shL a = 2
    · rw [if_pos (q.mpr hz)] at hr
      obtain ⟨h9, h10, h11, h12, hg, hgw, hwn, h40, hs0, hi⟩ := h
      exact Or.inr ⟨(a.1, true, a.2.2.1, 0, a.2.2.2.2), LL9 C a.1, (by show (if aBe a = true ∧ shL a = 2 then some _ else none) = some _; rw [if_pos ⟨t2, hz⟩]), acc_be c12 c10 _ hr, ⟨h9, rfl, h11, c12, Nat.zero_le 3, fun z => absurd rfl z, (fun z => by cases z), h40, hs0, hi⟩, LC_LL hl, ⟨rfl, rfl, rfl, rfl⟩⟩
    · rw [if_neg (fun z => hz (q.mp z))] at hr
      exact Or.inl ⟨by show (if aBe a = true ∧ shL a = 2 then _ else none) = none; rw [if_neg (fun z => hz z.2)], C, acc_be c12 c10 _ hr⟩
theorem CW_CL {C : ip_St} {a : AS} {l : rLS} {L : Nat} (h : CW C a) (hl : LC C l) (hL : a.1 = L + 1) (g0 : C.1 2 12 = 0) (v : Int64) : CW (CL C L (a.2.2.2.2.2.2 a.1) v) (a.1 - 1, false, false, 0, a.2.2.2.2) ∧ LC (CL C L (a.2.2.2.2.2.2 a.1) v) (lcls a l v) := by
  obtain ⟨h9, h10, h11, h12, hg, hgw, hwn, h40, hs0, hi⟩ := h
  obtain ⟨l1, l2, l3, l4, l5⟩ := hl
  refine ⟨⟨?_, rfl, rfl, g0, Nat.zero_le 3, fun z => absurd rfl z, fun _ => rfl, h40, hs0, fun i i1 i2 => hi i i1 ?_⟩, ⟨l1, ?_, l3, l4, l5⟩⟩
  · show nI L = nI (a.1 - 1)
    rw [hL]
    rfl
  · have : i ≤ a.1 - 1 := i2
    omega
  · show (ip_upL (ip_upI (ip_upI C 2 11 _) 2 9 _) 8 L _).2 8 = fu l.2.1 (a.1 - 1) _
    rw [upL_fu, hL]
    show fu (C.2 8) L (C.2 8 L &&& _) = fu l.2.1 L (l.2.1 L &&& _)
    rw [l2]
    rfl
theorem cs_k9 {C : ip_St} {a : AS} {l : rLS} (h : CW C a) (hl : LC C l) (hL : a.1 ≤ 55) (x : Nat) : CS 9 x 41 C a l := by
  rcases a_tri a with ⟨t0, t1, t2⟩ | ⟨t0, t1, t2⟩ | ⟨t0, t1, t2⟩
  · exact Or.inl ⟨by show (if aBe a = true ∧ shL a = 1 then _ else none) = none; rw [t2, if_neg (by simp)], CW_dig h hL t0 (by decide)⟩
  · obtain ⟨c12, c10, -⟩ := CW_in h t1
    exact Or.inl ⟨by show (if aBe a = true ∧ shL a = 1 then _ else none) = none; rw [t2, if_neg (by simp)], C, ref_in c12 c10 (by decide) (by decide) (by decide) (by decide)⟩
  · obtain ⟨c12, c10, -⟩ := CW_be h t2
    obtain ⟨s1, s2, s3⟩ := CW_sh h
    have q : nI (shL a) = 1 ↔ shL a = 1 := nI_eq (b := 1) (by omega) (by omega)
    by_cases hz : shL a = 1
    · have h1 := s3 (by omega)
      obtain ⟨L, e⟩ : ∃ L, a.1 = L + 1 := ⟨a.1 - 1, by omega⟩
      have h6 := (h.2.2.2.2.2.2.2.2.2 a.1 h1 (Nat.le_refl _)).2.2.2.2
      have hc := CW_CL h hl e c12 (lrow a l)
      have hrow : C.2 7 a.1 ||| C.2 8 a.1 = lrow a l := by rw [hl.1, hl.2.1]; rfl
      refine Or.inr ⟨(a.1 - 1, false, false, 0, a.2.2.2.2), CL C L (a.2.2.2.2.2.2 a.1) (lrow a l), (by show (if aBe a = true ∧ shL a = 1 then some _ else none) = some _; rw [if_pos ⟨t2, hz⟩]), acc_be c12 c10 _ ?_, hc.1, hc.2, ⟨rfl, rfl, rfl, rfl⟩⟩
      unfold f_R_acceptBehindPart
      rw [if_neg (by decide), if_pos rfl]
      refine (aI_r (n := 57) (i := a.1) rfl h.1 (by omega)).trans ?_
      rw [s1, if_pos (q.mpr hz), lawSoFar_eq h.1 (by omega), Option.bind_some, hrow, closeLevel_eq (L := L) (by rw [h.1, e]) (by omega) (by rw [← e]; exact h6)]
      rfl
    · refine Or.inl ⟨by show (if aBe a = true ∧ shL a = 1 then _ else none) = none; rw [if_neg (fun z => hz z.2)], C, acc_be c12 c10 _ ?_⟩
      unfold f_R_acceptBehindPart
      rw [if_neg (by decide), if_pos rfl]
      refine (aI_r (n := 57) (i := a.1) rfl h.1 (by omega)).trans ?_
      rw [s1, if_neg (fun z => hz (q.mp z))]
theorem cs_k10 {C : ip_St} {a : AS} {l : rLS} (h : CW C a) (hl : LC C l) (hL : a.1 ≤ 55) (x : Nat) : CS 10 x 93 C a l := by
  rcases a_tri a with ⟨t0, t1, t2⟩ | ⟨t0, t1, t2⟩ | ⟨t0, t1, t2⟩
  · exact Or.inl ⟨by show (if aBe a = true ∧ shL a = 2 then _ else none) = none; rw [t2, if_neg (by simp)], CW_dig h hL t0 (by decide)⟩
  · obtain ⟨c12, c10, -⟩ := CW_in h t1
    exact Or.inl ⟨by show (if aBe a = true ∧ shL a = 2 then _ else none) = none; rw [t2, if_neg (by simp)], C, ref_in c12 c10 (by decide) (by decide) (by decide) (by decide)⟩
  · obtain ⟨c12, c10, -⟩ := CW_be h t2
    obtain ⟨s1, s2, s3⟩ := CW_sh h
    have q : nI (shL a) = 2 ↔ shL a = 2 := nI_eq (b := 2) (by omega) (by omega)
    by_cases hz : shL a = 2
    · have h1 := s3 (by omega)
      obtain ⟨L, e⟩ : ∃ L, a.1 = L + 1 := ⟨a.1 - 1, by omega⟩
      have hb := h.2.2.2.2.2.2.2.2.2 a.1 h1 (Nat.le_refl _)
      have h6 := hb.2.2.2.2
      have hl2 : LC (LL9 C a.1) (lcnt a l) := LC_LL hl
      obtain ⟨h9, h10, h11, h12, hg, hgw, hwn, h40, hs0, hi⟩ := h
      have hcw : CW (LL9 C a.1) (a.1, true, a.2.2.1, 0, a.2.2.2.2) := ⟨h9, rfl, h11, c12, Nat.zero_le 3, fun z => absurd rfl z, (fun z => by cases z), h40, hs0, hi⟩
      have hc : CW (CL (LL9 C a.1) L (a.2.2.2.2.2.2 a.1) (llst a (lcnt a l))) (a.1 - 1, false, false, 0, a.2.2.2.2) ∧ LC (CL (LL9 C a.1) L (a.2.2.2.2.2.2 a.1) (llst a (lcnt a l))) (lcls a (lcnt a l) (llst a (lcnt a l))) := CW_CL (a := (a.1, true, a.2.2.1, 0, a.2.2.2.2)) hcw hl2 e c12 _
      have ls : f_R_listSoFar (LL9 C a.1) = some (llst a (lcnt a l)) := by
        rw [listSoFar_eq (S := LL9 C a.1) (L := a.1) h9 (by omega) hb.2.2.1 hb.2.2.2.1, hl2.2.2.1, hl2.2.2.2.1, hl2.2.2.2.2]
        rfl
      refine Or.inr ⟨(a.1 - 1, false, false, 0, a.2.2.2.2), CL (LL9 C a.1) L (a.2.2.2.2.2.2 a.1) (llst a (lcnt a l)), (by show (if aBe a = true ∧ shL a = 2 then some _ else none) = some _; rw [if_pos ⟨t2, hz⟩]), acc_be c12 c10 _ ?_, hc.1, hc.2, ⟨rfl, rfl, rfl, rfl⟩⟩
      unfold f_R_acceptBehindPart
      rw [if_neg (by decide), if_neg (by decide), if_neg (by decide), if_pos rfl]
      refine (aI_r (n := 57) (i := a.1) rfl h9 (by omega)).trans ?_
      rw [s1, if_pos (q.mpr hz), endList_eq h9 (by omega), Option.bind_some, if_neg (show ¬ (true = false) by decide), ls, Option.bind_some, closeLevel_eq (S := LL9 C a.1) (L := L) (b := a.2.2.2.2.2.2 a.1) (by rw [← e]; exact h9) (by omega) (by rw [← e]; exact h6)]
      rfl
    · refine Or.inl ⟨by show (if aBe a = true ∧ shL a = 2 then _ else none) = none; rw [if_neg (fun z => hz z.2)], C, acc_be c12 c10 _ ?_⟩
      unfold f_R_acceptBehindPart
      rw [if_neg (by decide), if_neg (by decide), if_neg (by decide), if_pos rfl]
      refine (aI_r (n := 57) (i := a.1) rfl h.1 (by omega)).trans ?_
      rw [s1, if_neg (fun z => hz (q.mp z))]
theorem cs_k0 {C : ip_St} {a : AS} {l : rLS} (h : CW C a) (hL : a.1 ≤ 55) (x : Nat) {c : Int32} (e1 : inR c 97 102 = false) (e2 : inR c 49 51 = false) (e3 : ¬ c = 33) (e4 : ¬ c = 40) (e5 : ¬ c = 91) (e6 : ¬ c = 38) (e7 : ¬ c = 124) (e8 : ¬ c = 44) (e9 : ¬ c = 41) (e10 : ¬ c = 93) : CS 0 x c C a l := by
  refine Or.inl ⟨rfl, ?_⟩
  rcases a_tri a with ⟨t0, t1, t2⟩ | ⟨t0, t1, t2⟩ | ⟨t0, t1, t2⟩
  · exact CW_dig h hL t0 e5
  · obtain ⟨c12, c10, -⟩ := CW_in h t1
    exact ⟨C, ref_in c12 c10 e1 e2 e3 e4⟩
  · obtain ⟨c12, c10, -⟩ := CW_be h t2
    exact ⟨C, ref_be c12 c10 e6 e9 e8 e10 e7⟩
theorem cs_step {C : ip_St} {a : AS} {l : rLS} (h : CW C a) (hl : LC C l) (hL : a.1 ≤ 55) (c : Int32) : CS (tok c).1 (tok c).2 c C a l := by
  rcases tok_cs c with ⟨k, x, hx, e, ec⟩ | ⟨k, ec⟩ | ⟨k, x, hx1, hx3, e, ec⟩ | ⟨k, ec⟩ | ⟨k, ec⟩ | ⟨k, ec⟩ | ⟨k, ec⟩ | ⟨k, ec⟩ | ⟨k, ec⟩ | ⟨k, ec⟩ | ⟨k, e1, e2, e3, e4, e5, e6, e7, e8, e9, e10⟩
  · rw [k, e]; rw [ec]; exact cs_k1 h hl hL hx
  · rw [k]; generalize (tok c).2 = x; rw [ec]; exact cs_k2 h hl hL x
  · rw [k, e]; rw [ec]; exact cs_k3 h hl hL hx1 hx3
  · rw [k]; generalize (tok c).2 = x; rw [ec]; exact cs_k4 h hl hL x
  · rw [k]; generalize (tok c).2 = x; rw [ec]; exact cs_k5 h hl hL x
  · rw [k]; generalize (tok c).2 = x; rw [ec]; exact cs_k6 h hl hL x
  · rw [k]; generalize (tok c).2 = x; rw [ec]; exact cs_k7 h hl hL x
  · rw [k]; generalize (tok c).2 = x; rw [ec]; exact cs_k8 h hl hL x
  · rw [k]; generalize (tok c).2 = x; rw [ec]; exact cs_k9 h hl hL x
  · rw [k]; generalize (tok c).2 = x; rw [ec]; exact cs_k10 h hl hL x
  · rw [k]; exact cs_k0 h hL _ e1 e2 e3 e4 e5 e6 e7 e8 e9 e10
