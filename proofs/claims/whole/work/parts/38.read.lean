/-! ===== reading a law: the class's reader, step by step ===== -/
def fu {α : Type} (f : Nat → α) (k : Nat) (v : α) : Nat → α := fun i => if i = k then v else f i
theorem fu_s {α : Type} (f : Nat → α) (k : Nat) (v : α) : fu f k v k = v := if_pos rfl
theorem fu_n {α : Type} (f : Nat → α) {k i : Nat} (v : α) (h : ¬ i = k) : fu f k v i = f i := if_neg h
theorem upI_fu (S : ip_St) (c k : Nat) (v : Int32) : (ip_upI S c k v).1 c = fu (S.1 c) k v := by
  funext i
  unfold fu
  rw [upI_f]
  simp
theorem upL_fu (S : ip_St) (c k : Nat) (v : Int64) : (ip_upL S c k v).2 c = fu (S.2 c) k v := by
  funext i
  unfold fu
  rw [upL_f]
  simp
theorem wI_r {α : Type} {S : ip_St} {c n i : Nat} {x v : Int32} {f : ip_St → Option α} (hc : ip_ar c = some (0, n)) (hx : x = nI i) (hi : i < n) : (ip_wI S c x v).bind f = f (ip_upI S c i v) := by
  subst hx
  rw [wI_at hc hi]
  rfl
theorem wZ_r {α : Type} {S : ip_St} {c n i : Nat} {x v : Int32} {f : ip_St → Option α} (hc : ip_ar c = some (2, n)) (hx : x = nI i) (hi : i < n) : (ip_wZ S c x v).bind f = f (ip_upI S c i (v &&& 1)) := by
  subst hx
  rw [wZ_at hc hi]
  rfl
theorem wL_r {α : Type} {S : ip_St} {c n i : Nat} {x : Int32} {v : Int64} {f : ip_St → Option α} (hc : ip_ar c = some (1, n)) (hx : x = nI i) (hi : i < n) : (ip_wL S c x v).bind f = f (ip_upL S c i v) := by
  subst hx
  rw [wL_at hc hi]
  rfl
theorem aI_r {α : Type} {S : ip_St} {c n i : Nat} {x : Int32} {f : Int32 → Option α} (hc : ip_ar c = some (0, n)) (hx : x = nI i) (hi : i < n) : (ip_aI S c x).bind f = f (S.1 c i) := by
  subst hx
  rw [aI_at hc hi]
  rfl
theorem aZ_r {α : Type} {S : ip_St} {c n i : Nat} {x : Int32} {f : Int32 → Option α} (hc : ip_ar c = some (2, n)) (hx : x = nI i) (hi : i < n) : (ip_aZ S c x).bind f = f (S.1 c i) := by
  subst hx
  rw [aZ_at hc hi]
  rfl
theorem aL_r {α : Type} {S : ip_St} {c n i : Nat} {x : Int32} {f : Int64 → Option α} (hc : ip_ar c = some (1, n)) (hx : x = nI i) (hi : i < n) : (ip_aL S c x).bind f = f (S.2 c i) := by
  subst hx
  rw [aL_at hc hi]
  rfl
-- what the methods of the reader do
theorem startLaw_eq {S : ip_St} {L : Nat} (h9 : S.1 2 9 = nI L) (hL : L ≤ 56) : f_R_startLaw S = some (ip_upI (ip_upL (ip_upL S 7 L 0) 8 L (-1)) 2 10 1) := by
  unfold f_R_startLaw f_R_startTerm
  refine (wL_r (n := 57) (i := L) rfl h9 (by omega)).trans ?_
  have e : ((ip_wL (ip_upL S 7 L 0) 8 ((ip_upL S 7 L 0).1 2 9) (-1)).bind fun zS1 => some (ip_upI zS1 2 10 1)) = some (ip_upI (ip_upL (ip_upL S 7 L 0) 8 L (-1)) 2 10 1) := wL_r (n := 57) (i := L) rfl h9 (by omega)
  rw [e]
  rfl
theorem startTerm_eq {S : ip_St} {L : Nat} (h9 : S.1 2 9 = nI L) (hL : L ≤ 56) : f_R_startTerm S = some (ip_upI (ip_upL S 8 L (-1)) 2 10 1) := wL_r (n := 57) (i := L) rfl h9 (by omega)
def OL (C : ip_St) (L : Nat) (s : Int32) : ip_St := ip_upI (ip_upL (ip_upL (ip_upI (ip_upI (ip_upL (ip_upL (ip_upL (ip_upI (ip_upI (ip_upI (ip_upI (ip_upI C 2 9 (nI (L + 1))) 3 4 (if C.1 3 4 < nI (L + 1) then nI (L + 1) else C.1 3 4)) 4 (L + 1) s) 5 (L + 1) (C.1 2 12)) 6 (L + 1) (C.1 2 11 &&& 1)) 9 (L + 1) 0) 10 (L + 1) 0) 11 (L + 1) 0) 2 12 0) 2 11 0) 7 (L + 1) 0) 8 (L + 1) (-1)) 2 10 1
theorem openLevel_eq {C : ip_St} {L : Nat} (h9 : C.1 2 9 = nI L) (hL : L ≤ 55) (s : Int32) : f_R_openLevel s C = some (true, OL C L s) := by
  unfold f_R_openLevel
  rw [h9, nI_1, if_pos (by rw [show (57 : Int32) = nI 57 from rfl, nI_ltI (by omega) (by omega)]; omega)]
  refine (wI_r (n := 57) (i := L + 1) rfl rfl (by omega)).trans ?_
  refine (wI_r (n := 57) (i := L + 1) rfl rfl (by omega)).trans ?_
  refine (wZ_r (n := 57) (i := L + 1) rfl rfl (by omega)).trans ?_
  refine (wL_r (n := 57) (i := L + 1) rfl rfl (by omega)).trans ?_
  refine (wL_r (n := 57) (i := L + 1) rfl rfl (by omega)).trans ?_
  refine (wL_r (n := 57) (i := L + 1) rfl rfl (by omega)).trans ?_
  rw [startLaw_eq (L := L + 1) rfl (by omega)]
  rfl
def EP (S : ip_St) (L : Nat) (nt : Bool) (p : Int64) : ip_St := ip_upI (ip_upI (ip_upL S 8 L (S.2 8 L &&& (if nt then p ^^^ (-1) else p))) 2 11 0) 2 10 0
theorem endPart_eq {S : ip_St} {L : Nat} {nt : Bool} (h9 : S.1 2 9 = nI L) (h11 : S.1 2 11 = b2 nt) (hL : L ≤ 56) (p : Int64) : f_R_endPart p S = some (EP S L nt p) := by
  unfold f_R_endPart f_R_endPart_26
  rw [h9, h11]
  refine (aL_r (n := 57) (i := L) rfl rfl (by omega)).trans ?_
  cases nt
  · rw [if_pos (by decide)]
    exact wL_r (n := 57) (i := L) rfl rfl (by omega)
  · rw [if_neg (by decide)]
    exact wL_r (n := 57) (i := L) rfl rfl (by omega)
theorem lawSoFar_eq {S : ip_St} {L : Nat} (h9 : S.1 2 9 = nI L) (hL : L ≤ 56) : f_R_lawSoFar S = some (S.2 7 L ||| S.2 8 L) := by
  unfold f_R_lawSoFar
  rw [h9]
  refine (aL_r (n := 57) (i := L) rfl rfl (by omega)).trans ?_
  exact aL_r (n := 57) (i := L) rfl rfl (by omega)
def LL9 (S : ip_St) (L : Nat) : ip_St := ip_upI (ip_upL (ip_upL (ip_upL (ip_upL (ip_upL S 11 L (S.2 11 L ||| (S.2 10 L &&& (S.2 7 L ||| S.2 8 L)))) 10 L (S.2 10 L ||| (S.2 9 L &&& (S.2 7 L ||| S.2 8 L)))) 9 L (S.2 9 L ||| (S.2 7 L ||| S.2 8 L))) 7 L 0) 8 L (-1)) 2 10 1
theorem endList_eq {S : ip_St} {L : Nat} (h9 : S.1 2 9 = nI L) (hL : L ≤ 56) : f_R_endLawOfList S = some (true, LL9 S L) := by
  unfold f_R_endLawOfList
  rw [lawSoFar_eq h9 hL, Option.bind_some]
  refine (aL_r (n := 57) (i := L) rfl h9 (by omega)).trans ?_
  refine (aL_r (n := 57) (i := L) rfl h9 (by omega)).trans ?_
  refine (wL_r (n := 57) (i := L) rfl h9 (by omega)).trans ?_
  refine (aL_r (n := 57) (i := L) rfl h9 (by omega)).trans ?_
  refine (aL_r (n := 57) (i := L) rfl h9 (by omega)).trans ?_
  refine (wL_r (n := 57) (i := L) rfl h9 (by omega)).trans ?_
  refine (aL_r (n := 57) (i := L) rfl h9 (by omega)).trans ?_
  refine (wL_r (n := 57) (i := L) rfl h9 (by omega)).trans ?_
  have sl : ∀ X : ip_St, X.1 = S.1 → f_R_startLaw X = some (ip_upI (ip_upL (ip_upL X 7 L 0) 8 L (-1)) 2 10 1) := fun X hX => startLaw_eq (by rw [hX]; exact h9) (by omega)
  rw [sl]
  · rfl
  · rfl
theorem listSoFar_eq {S : ip_St} {L q : Nat} (h9 : S.1 2 9 = nI L) (hL : L ≤ 56) (h5 : S.1 5 L = nI q) (hq : q ≤ 3) : f_R_listSoFar S = some (if q = 1 then S.2 9 L else if q = 2 then S.2 10 L else S.2 11 L) := by
  unfold f_R_listSoFar
  refine (aI_r (n := 57) (i := L) rfl h9 (by omega)).trans ?_
  rw [h5]
  have a1 : nI q = 1 ↔ q = 1 := nI_eq (b := 1) (by omega) (by omega)
  have a2 : nI q = 2 ↔ q = 2 := nI_eq (b := 2) (by omega) (by omega)
  by_cases e1 : q = 1
  · rw [if_pos (a1.mpr e1), if_pos e1]
    exact aL_r (n := 57) (i := L) rfl h9 (by omega)
  · rw [if_neg (fun z => e1 (a1.mp z)), if_neg e1]
    by_cases e2 : q = 2
    · rw [if_pos (a2.mpr e2), if_pos e2]
      exact aL_r (n := 57) (i := L) rfl h9 (by omega)
    · rw [if_neg (fun z => e2 (a2.mp z)), if_neg e2]
      exact aL_r (n := 57) (i := L) rfl h9 (by omega)
theorem isB_b2 (b : Bool) : ip_isB (b2 b) = true := by cases b <;> decide
def CL (S : ip_St) (L : Nat) (b : Bool) (p : Int64) : ip_St := EP (ip_upI (ip_upI S 2 11 (b2 b)) 2 9 (nI L)) L b p
theorem closeLevel_eq {S : ip_St} {L : Nat} {b : Bool} (h9 : S.1 2 9 = nI (L + 1)) (hL : L ≤ 55) (h6 : S.1 6 (L + 1) = b2 b) (p : Int64) : f_R_closeLevel p S = some (true, CL S L b p) := by
  unfold f_R_closeLevel
  rw [if_pos (by rw [h9]; exact (nI_ltI (a := 0) (by omega) (by omega)).mpr (by omega))]
  refine (aZ_r (n := 57) (i := L + 1) rfl h9 (by omega)).trans ?_
  rw [h6, isB_b2]
  show ((f_R_endPart p (ip_upI (ip_upI S 2 11 (b2 b)) 2 9 (((ip_upI S 2 11 (b2 b)).1 2 9) - 1))).bind fun zS5 => some (true, zS5)) = _
  have e : ((ip_upI S 2 11 (b2 b)).1 2 9) - 1 = nI L := by
    rw [show (ip_upI S 2 11 (b2 b)).1 2 9 = S.1 2 9 from rfl, h9, nI_pred]
  rw [e, endPart_eq (L := L) (nt := b) rfl rfl (by omega)]
  rfl
/-! ===== the reader as numbers ===== -/
/-- level, a part is wanted, not, digit, shapes, needed, negated -/
abbrev AS : Type := Nat × Bool × Bool × Nat × (Nat → Nat) × (Nat → Nat) × (Nat → Bool)
/-- any term, all parts, one, two, three -/
abbrev rLS : Type := (Nat → Int64) × (Nat → Int64) × (Nat → Int64) × (Nat → Int64) × (Nat → Int64)
def CW (C : ip_St) (a : AS) : Prop := C.1 2 9 = nI a.1 ∧ C.1 2 10 = b2 a.2.1 ∧ C.1 2 11 = b2 a.2.2.1 ∧ C.1 2 12 = nI a.2.2.2.1 ∧ a.2.2.2.1 ≤ 3 ∧ (a.2.2.2.1 ≠ 0 → a.2.1 = true) ∧ (a.2.1 = false → a.2.2.1 = false) ∧ C.1 4 0 = 0 ∧ a.2.2.2.2.1 0 = 0 ∧ ∀ i, 1 ≤ i → i ≤ a.1 → C.1 4 i = nI (a.2.2.2.2.1 i) ∧ (a.2.2.2.2.1 i = 1 ∨ a.2.2.2.2.1 i = 2) ∧ C.1 5 i = nI (a.2.2.2.2.2.1 i) ∧ a.2.2.2.2.2.1 i ≤ 3 ∧ C.1 6 i = b2 (a.2.2.2.2.2.2 i)
def LC (C : ip_St) (l : rLS) : Prop := C.2 7 = l.1 ∧ C.2 8 = l.2.1 ∧ C.2 9 = l.2.2.1 ∧ C.2 10 = l.2.2.2.1 ∧ C.2 11 = l.2.2.2.2
def tok (c : Int32) : Nat × Nat :=
  if inR c 97 102 = true then (1, (c - 97).toNatClampNeg)
  else if c = 33 then (2, 0)
  else if inR c 49 51 = true then (3, (c - 48).toNatClampNeg)
  else if c = 40 then (4, 0)
  else if c = 91 then (5, 0)
  else if c = 38 then (6, 0)
  else if c = 124 then (7, 0)
  else if c = 44 then (8, 0)
  else if c = 41 then (9, 0)
  else if c = 93 then (10, 0)
  else (0, 0)
def aIn (a : AS) : Bool := decide (a.2.2.2.1 = 0) && a.2.1
def aBe (a : AS) : Bool := decide (a.2.2.2.1 = 0) && !a.2.1
def shL (a : AS) : Nat := a.2.2.2.2.1 a.1
def astep (k x : Nat) (a : AS) : Option AS :=
  if k = 1 then (if aIn a = true then some (a.1, false, false, 0, a.2.2.2.2) else none)
  else if k = 2 then (if aIn a = true then some (a.1, true, !a.2.2.1, 0, a.2.2.2.2) else none)
  else if k = 3 then (if aIn a = true then some (a.1, true, a.2.2.1, x, a.2.2.2.2) else none)
  else if k = 4 then (if aIn a = true then some (a.1 + 1, true, false, 0, fu a.2.2.2.2.1 (a.1 + 1) 1, fu a.2.2.2.2.2.1 (a.1 + 1) 0, fu a.2.2.2.2.2.2 (a.1 + 1) a.2.2.1) else none)
  else if k = 5 then (if a.2.2.2.1 = 0 then none else some (a.1 + 1, true, false, 0, fu a.2.2.2.2.1 (a.1 + 1) 2, fu a.2.2.2.2.2.1 (a.1 + 1) a.2.2.2.1, fu a.2.2.2.2.2.2 (a.1 + 1) a.2.2.1))
  else if k = 6 then (if aBe a = true then some (a.1, true, a.2.2.1, 0, a.2.2.2.2) else none)
  else if k = 7 then (if aBe a = true then some (a.1, true, a.2.2.1, 0, a.2.2.2.2) else none)
  else if k = 8 then (if aBe a = true ∧ shL a = 2 then some (a.1, true, a.2.2.1, 0, a.2.2.2.2) else none)
  else if k = 9 then (if aBe a = true ∧ shL a = 1 then some (a.1 - 1, false, false, 0, a.2.2.2.2) else none)
  else if k = 10 then (if aBe a = true ∧ shL a = 2 then some (a.1 - 1, false, false, 0, a.2.2.2.2) else none)
  else none
def lrow (a : AS) (l : rLS) : Int64 := l.1 a.1 ||| l.2.1 a.1
def ngt (b : Bool) (x : Int64) : Int64 := if b then x ^^^ (-1) else x
def lcnt (a : AS) (l : rLS) : rLS := (fu l.1 a.1 0, fu l.2.1 a.1 (-1), fu l.2.2.1 a.1 (l.2.2.1 a.1 ||| lrow a l), fu l.2.2.2.1 a.1 (l.2.2.2.1 a.1 ||| (l.2.2.1 a.1 &&& lrow a l)), fu l.2.2.2.2 a.1 (l.2.2.2.2 a.1 ||| (l.2.2.2.1 a.1 &&& lrow a l)))
def llst (a : AS) (l : rLS) : Int64 := if a.2.2.2.2.2.1 a.1 = 1 then l.2.2.1 a.1 else if a.2.2.2.2.2.1 a.1 = 2 then l.2.2.2.1 a.1 else l.2.2.2.2 a.1
def lcls (a : AS) (l : rLS) (v : Int64) : rLS := (l.1, fu l.2.1 (a.1 - 1) (l.2.1 (a.1 - 1) &&& ngt (a.2.2.2.2.2.2 a.1) v), l.2.2)
def lstep (k x : Nat) (a : AS) (l : rLS) : rLS :=
  if k = 1 then (l.1, fu l.2.1 a.1 (l.2.1 a.1 &&& ngt a.2.2.1 (rw0 x)), l.2.2)
  else if k = 4 ∨ k = 5 then (fu l.1 (a.1 + 1) 0, fu l.2.1 (a.1 + 1) (-1), fu l.2.2.1 (a.1 + 1) 0, fu l.2.2.2.1 (a.1 + 1) 0, fu l.2.2.2.2 (a.1 + 1) 0)
  else if k = 7 then (fu l.1 a.1 (lrow a l), fu l.2.1 a.1 (-1), l.2.2)
  else if k = 8 then lcnt a l
  else if k = 9 then lcls a l (lrow a l)
  else if k = 10 then lcls a (lcnt a l) (llst a (lcnt a l))
  else l
/-- letters, signs, digits, depth behind a step -/
def CN (k : Nat) (L' : Nat) (C C' : ip_St) : Prop := C'.1 3 1 = (if k = 1 then C.1 3 1 + 1 else C.1 3 1) ∧ C'.1 3 2 = (if k = 2 then C.1 3 2 + 1 else C.1 3 2) ∧ C'.1 3 3 = (if k = 3 then C.1 3 3 + 1 else C.1 3 3) ∧ C'.1 3 4 = (if k = 4 ∨ k = 5 then (if C.1 3 4 < nI L' then nI L' else C.1 3 4) else C.1 3 4)
def CS (k x : Nat) (c : Int32) (C : ip_St) (a : AS) (l : rLS) : Prop := (astep k x a = none ∧ ∃ C', f_R_accept c C = some (false, C')) ∨ ∃ a' C', astep k x a = some a' ∧ f_R_accept c C = some (true, C') ∧ CW C' a' ∧ LC C' (lstep k x a l) ∧ CN k a'.1 C C'
-- tokens
theorem tok_cs (c : Int32) : ((tok c).1 = 1 ∧ ∃ x, x < 6 ∧ (tok c).2 = x ∧ c = nI (97 + x)) ∨ ((tok c).1 = 2 ∧ c = 33) ∨ ((tok c).1 = 3 ∧ ∃ x, 1 ≤ x ∧ x ≤ 3 ∧ (tok c).2 = x ∧ c = nI (48 + x)) ∨ ((tok c).1 = 4 ∧ c = 40) ∨ ((tok c).1 = 5 ∧ c = 91) ∨ ((tok c).1 = 6 ∧ c = 38) ∨ ((tok c).1 = 7 ∧ c = 124) ∨ ((tok c).1 = 8 ∧ c = 44) ∨ ((tok c).1 = 9 ∧ c = 41) ∨ ((tok c).1 = 10 ∧ c = 93) ∨ ((tok c).1 = 0 ∧ inR c 97 102 = false ∧ inR c 49 51 = false ∧ ¬ c = 33 ∧ ¬ c = 40 ∧ ¬ c = 91 ∧ ¬ c = 38 ∧ ¬ c = 124 ∧ ¬ c = 44 ∧ ¬ c = 41 ∧ ¬ c = 93) := by
  unfold tok
  cases h1 : inR c 97 102 with
  | true =>
    left
    rw [if_pos rfl]
    rcases rng_cs c 97 102 (by omega) (by omega) with ⟨j, j1, j2, rfl, -⟩ | ⟨q, -⟩
    · refine ⟨rfl, j - 97, by omega, ?_, by congr 1; omega⟩
      show (nI j - 97).toNatClampNeg = j - 97
      rw [show (97 : Int32) = nI 97 from rfl, pk_sub (by omega), nI_clamp (by omega)]
    · have : inR c 97 102 = false := q
      rw [this] at h1
      cases h1
  | false =>
    right
    rw [if_neg (by decide)]
    by_cases h2 : c = 33
    · rw [if_pos h2]
      exact Or.inl ⟨rfl, h2⟩
    · rw [if_neg h2]
      right
      cases h3 : inR c 49 51 with
      | true =>
        left
        rw [if_pos rfl]
        rcases rng_cs c 49 51 (by omega) (by omega) with ⟨j, j1, j2, rfl, -⟩ | ⟨q, -⟩
        · refine ⟨rfl, j - 48, by omega, by omega, ?_, by congr 1; omega⟩
          show (nI j - 48).toNatClampNeg = j - 48
          rw [show (48 : Int32) = nI 48 from rfl, pk_sub (by omega), nI_clamp (by omega)]
        · have : inR c 49 51 = false := q
          rw [this] at h3
          cases h3
      | false =>
        right
        rw [if_neg (by decide)]
        by_cases h4 : c = 40
        · rw [if_pos h4]
          exact Or.inl ⟨rfl, h4⟩
        rw [if_neg h4]
        right
        by_cases h5 : c = 91
        · rw [if_pos h5]
          exact Or.inl ⟨rfl, h5⟩
        rw [if_neg h5]
        right
        by_cases h6 : c = 38
        · rw [if_pos h6]
          exact Or.inl ⟨rfl, h6⟩
        rw [if_neg h6]
        right
        by_cases h7 : c = 124
        · rw [if_pos h7]
          exact Or.inl ⟨rfl, h7⟩
        rw [if_neg h7]
        right
        by_cases h8 : c = 44
        · rw [if_pos h8]
          exact Or.inl ⟨rfl, h8⟩
        rw [if_neg h8]
        right
        by_cases h9 : c = 41
        · rw [if_pos h9]
          exact Or.inl ⟨rfl, h9⟩
        rw [if_neg h9]
        right
        by_cases h10 : c = 93
        · rw [if_pos h10]
          exact Or.inl ⟨rfl, h10⟩
        rw [if_neg h10]
        exact Or.inr ⟨rfl, rfl, rfl, h2, h4, h5, h6, h7, h8, h9, h10⟩
