/-! ===== the reference reckons a law; a fact struck ===== -/
def AW (a : AS) : Prop := a.2.2.2.2.1 0 = 0 ∧ (∀ i, 1 ≤ i → i ≤ a.1 → (a.2.2.2.2.1 i = 1 ∨ a.2.2.2.2.1 i = 2) ∧ a.2.2.2.2.2.1 i ≤ 3) ∧ a.2.2.2.1 ≤ 3 ∧ (a.2.1 = false → a.2.2.1 = false)
def HM (φ : Int64 → Int64) (x3 : Int32) : Prop := (∀ x y, φ (x &&& y) = φ x &&& φ y) ∧ (∀ x y, φ (x ||| y) = φ x ||| φ y) ∧ (∀ x, φ (x ^^^ (-1)) = φ x ^^^ (-1)) ∧ φ 0 = 0 ∧ φ (-1) = -1 ∧ ∀ g, g < 6 → φ (rw0 g) = if nI g = x3 then 0 else rw0 g
def par (M : ip_St) (i kk : Nat) (b : Bool) : Prop := ∃ q, q ≤ kk ∧ M.1 36 i = nI q ∧ decide (q % 2 = 1) = b
def ER (φ : Int64 → Int64) (M : ip_St) (a : AS) (l : rLS) (x4 : Int32) (kk : Nat) : Prop := M.1 30 14 = nI a.1 ∧ (∀ i, i ≤ a.1 → M.2 34 i = φ (l.1 i)) ∧ (∀ i, i ≤ a.1 → M.2 35 i = φ (l.2.1 i)) ∧ par M a.1 kk a.2.2.1 ∧ (∀ i, i < a.1 → par M i kk (a.2.2.2.2.2.2 (i + 1))) ∧ (∀ i, 1 ≤ i → i ≤ a.1 → M.1 37 i = nI (if a.2.2.2.2.1 i = 1 then 1 else a.2.2.2.2.2.1 i)) ∧ (∀ i, 1 ≤ i → i ≤ a.1 → M.2 38 i = φ (l.2.2.1 i)) ∧ (∀ i, 1 ≤ i → i ≤ a.1 → M.2 39 i = φ (l.2.2.2.1 i)) ∧ (∀ i, 1 ≤ i → i ≤ a.1 → M.2 40 i = φ (l.2.2.2.2 i)) ∧ (∀ i, 1 ≤ i → i ≤ a.1 → a.2.2.2.2.1 i = 1 → l.2.2.1 i = 0) ∧ (¬ a.2.2.2.1 = 0 → x4 = nI a.2.2.2.1)
theorem fu_rel {φ : Int64 → Int64} {f g : Nat → Int64} {k : Nat} {v w : Int64} {D : Nat → Prop} (h : ∀ i, D i → ¬ i = k → f i = φ (g i)) (hv : v = φ w) : ∀ i, D i → fu f k v i = φ (fu g k w i) := by
  intro i hi
  by_cases z : i = k
  · rw [z, fu_s, fu_s, hv]
  · rw [fu_n _ _ z, fu_n _ _ z]
    exact h i hi z
theorem par_up {M : ip_St} {i kk : Nat} {b : Bool} (h : par M i kk b) : par M i (kk + 1) b := by
  obtain ⟨q, q1, q2⟩ := h
  exact ⟨q, by omega, q2⟩
theorem par_eq {M M' : ip_St} {i kk : Nat} {b : Bool} (h : par M i kk b) (he : M'.1 36 i = M.1 36 i) : par M' i (kk + 1) b := by
  obtain ⟨q, q1, q2, q3⟩ := h
  exact ⟨q, by omega, by rw [he]; exact q2, q3⟩
theorem ngt_hom {φ : Int64 → Int64} {x3 : Int32} (h : HM φ x3) (b : Bool) (x : Int64) : φ (ngt b x) = ngt b (φ x) := by
  unfold ngt
  cases b
  · rfl
  · exact h.2.2.1 x
theorem zor (x : Int64) : 0 ||| x = x := by
  apply lb_ext
  intro w hw
  rw [lb_or, lb_0]
  rfl
def FP (M : ip_St) (L : Nat) (b : Bool) (p : Int64) : ip_St := ip_upI (ip_upL M 35 L (M.2 35 L &&& ngt b p)) 36 L 0
theorem feed_eq {M : ip_St} {L kk : Nat} {b : Bool} (h14 : M.1 30 14 = nI L) (hL : L ≤ 56) (hp : par M L kk b) (hk : kk ≤ 60) (p : Int64) : f_M_feedPart p M = some (FP M L b p) := by
  obtain ⟨q, q1, q2, q3⟩ := hp
  unfold f_M_feedPart f_M_feedPart_34
  refine (aL_r (n := 60) (i := L) rfl h14 (by omega)).trans ?_
  refine (aI_r (n := 60) (i := L) rfl h14 (by omega)).trans ?_
  have hr : ip_irem (nI q) 2 = nI (q % 2) := by rw [show (2 : Int32) = nI 2 from rfl, irem_nI (by omega) (by omega) (by omega)]
  rw [q2, hr]
  have w : ∀ y : Int64, ((ip_wL M 35 (M.1 30 14) (M.2 35 L &&& y)).bind fun zS1 => ((ip_wI zS1 36 (zS1.1 30 14) 0).bind fun zS2 => some zS2)) = some (ip_upI (ip_upL M 35 L (M.2 35 L &&& y)) 36 L 0) := by
    intro y
    refine (wL_r (n := 60) (i := L) rfl h14 (by omega)).trans ?_
    exact wI_r (n := 60) (i := L) rfl h14 (by omega)
  rw [w, w]
  unfold FP ngt
  by_cases hq : q % 2 = 1
  · rw [decide_eq_true hq] at q3
    rw [hq, if_pos (show nI 1 = 1 from rfl), ← q3]
    rfl
  · rw [decide_eq_false hq] at q3
    rw [if_neg (show ¬ nI (q % 2) = 1 from fun z => hq ((nI_eq (b := 1) (by omega) (by omega)).mp z)), ← q3]
    rfl
def BW (M : ip_St) (L : Nat) : ip_St := ip_upI (ip_upL (ip_upL M 34 L 0) 35 L (-1)) 36 L 0
theorem beginLaw_eq {M : ip_St} {L : Nat} (h14 : M.1 30 14 = nI L) (hL : L ≤ 56) : f_M_beginLaw M = some (BW M L) := by
  unfold f_M_beginLaw
  refine (wL_r (n := 60) (i := L) rfl h14 (by omega)).trans ?_
  refine (wL_r (n := 60) (i := L) rfl h14 (by omega)).trans ?_
  exact wI_r (n := 60) (i := L) rfl h14 (by omega)
def BL (M : ip_St) (L : Nat) (p : Int32) : ip_St := BW (ip_upL (ip_upL (ip_upL (ip_upI (ip_upI M 30 14 (nI (L + 1))) 37 (L + 1) p) 38 (L + 1) 0) 39 (L + 1) 0) 40 (L + 1) 0) (L + 1)
theorem beginLevel_eq' {M : ip_St} {L : Nat} (h14 : M.1 30 14 + 1 = nI L) (hL : L ≤ 56) (p : Int32) : f_M_beginLevel p M = some (BW (ip_upL (ip_upL (ip_upL (ip_upI (ip_upI M 30 14 (nI L)) 37 L p) 38 L 0) 39 L 0) 40 L 0) L) := by
  unfold f_M_beginLevel
  rw [h14]
  refine (wI_r (n := 60) (i := L) rfl rfl (by omega)).trans ?_
  refine (wL_r (n := 60) (i := L) rfl rfl (by omega)).trans ?_
  refine (wL_r (n := 60) (i := L) rfl rfl (by omega)).trans ?_
  refine (wL_r (n := 60) (i := L) rfl rfl (by omega)).trans ?_
  rw [beginLaw_eq (L := L) rfl (by omega)]
  rfl
theorem beginLevel_eq {M : ip_St} {L : Nat} (h14 : M.1 30 14 = nI L) (hL : L ≤ 55) (p : Int32) : f_M_beginLevel p M = some (BL M L p) := beginLevel_eq' (by rw [h14, nI_1]) (by omega) p
theorem endLaw_eq {M : ip_St} {L : Nat} (h14 : M.1 30 14 = nI L) (hL : L ≤ 56) : f_M_endLaw M = some (M.2 34 L ||| M.2 35 L) := by
  unfold f_M_endLaw
  refine (aL_r (n := 60) (i := L) rfl h14 (by omega)).trans ?_
  exact aL_r (n := 60) (i := L) rfl h14 (by omega)
def CLW (M : ip_St) (L : Nat) : ip_St := ip_upL (ip_upL (ip_upL M 40 L (M.2 40 L ||| (M.2 39 L &&& (M.2 34 L ||| M.2 35 L)))) 39 L (M.2 39 L ||| (M.2 38 L &&& (M.2 34 L ||| M.2 35 L)))) 38 L (M.2 38 L ||| (M.2 34 L ||| M.2 35 L))
theorem countLaw_eq {M : ip_St} {L : Nat} (h14 : M.1 30 14 = nI L) (hL : L ≤ 56) : f_M_countLaw M = some (CLW M L) := by
  unfold f_M_countLaw
  rw [endLaw_eq h14 hL, Option.bind_some]
  refine (aL_r (n := 60) (i := L) rfl h14 (by omega)).trans ?_
  refine (aL_r (n := 60) (i := L) rfl h14 (by omega)).trans ?_
  refine (wL_r (n := 60) (i := L) rfl h14 (by omega)).trans ?_
  refine (aL_r (n := 60) (i := L) rfl h14 (by omega)).trans ?_
  refine (aL_r (n := 60) (i := L) rfl h14 (by omega)).trans ?_
  refine (wL_r (n := 60) (i := L) rfl h14 (by omega)).trans ?_
  refine (aL_r (n := 60) (i := L) rfl h14 (by omega)).trans ?_
  exact wL_r (n := 60) (i := L) rfl h14 (by omega)
theorem endLevel_eq {M : ip_St} {L s kk : Nat} {b : Bool} (h14 : M.1 30 14 = nI (L + 1)) (hL : L ≤ 55) (h37 : M.1 37 (L + 1) = nI s) (hs : s ≤ 3) (hp : par M L kk b) (hk : kk ≤ 60) : f_M_endLevel M = some (FP (ip_upI M 30 14 (nI L)) L b (if s = 1 then M.2 38 (L + 1) else if s = 2 then M.2 39 (L + 1) else M.2 40 (L + 1))) := by
  have fin : ∀ y : Int64, f_M_endLevel_59 y M = some (FP (ip_upI M 30 14 (nI L)) L b y) := by
    intro y
    unfold f_M_endLevel_59
    rw [h14, nI_pred, feed_eq (M := ip_upI M 30 14 (nI L)) (L := L) rfl (by omega) hp hk]
    rfl
  unfold f_M_endLevel
  refine (aI_r (n := 60) (i := L + 1) rfl h14 (by omega)).trans ?_
  rw [h37]
  have a1 : nI s = 1 ↔ s = 1 := nI_eq (b := 1) (by omega) (by omega)
  have a2 : nI s = 2 ↔ s = 2 := nI_eq (b := 2) (by omega) (by omega)
  by_cases e1 : s = 1
  · rw [if_pos (a1.mpr e1), if_pos e1]
    refine (aL_r (n := 60) (i := L + 1) rfl h14 (by omega)).trans ?_
    exact fin _
  · rw [if_neg (fun z => e1 (a1.mp z)), if_neg e1]
    refine (aI_r (n := 60) (i := L + 1) rfl h14 (by omega)).trans ?_
    rw [h37]
    by_cases e2 : s = 2
    · rw [if_pos (a2.mpr e2), if_pos e2]
      refine (aL_r (n := 60) (i := L + 1) rfl h14 (by omega)).trans ?_
      exact fin _
    · rw [if_neg (fun z => e2 (a2.mp z)), if_neg e2]
      refine (aL_r (n := 60) (i := L + 1) rfl h14 (by omega)).trans ?_
      exact fin _
abbrev wLR : List (Nat × Nat) := w_M_lawRow
theorem fr_FP {M : ip_St} {L : Nat} {b : Bool} {p : Int64} : ip_Fr wLR M (FP M L b p) := ip_Fr.upI (ip_wa_wt rfl) (ip_Fr.upL (ip_wa_wt rfl) ip_Fr.rf)
theorem fr_BW {M : ip_St} {L : Nat} : ip_Fr wLR M (BW M L) := ip_Fr.upI (ip_wa_wt rfl) (ip_Fr.upL (ip_wa_wt rfl) (ip_Fr.upL (ip_wa_wt rfl) ip_Fr.rf))
theorem fr_BL {M : ip_St} {L : Nat} {p : Int32} : ip_Fr wLR M (BL M L p) := ip_Fr.trans (ip_Fr.upL (ip_wa_wt rfl) (ip_Fr.upL (ip_wa_wt rfl) (ip_Fr.upL (ip_wa_wt rfl) (ip_Fr.upI (ip_wa_wt rfl) (ip_Fr.upI rfl ip_Fr.rf))))) fr_BW
theorem fr_CLW {M : ip_St} {L : Nat} : ip_Fr wLR M (CLW M L) := ip_Fr.upL (ip_wa_wt rfl) (ip_Fr.upL (ip_wa_wt rfl) (ip_Fr.upL (ip_wa_wt rfl) ip_Fr.rf))
-- the relation behind each letter
theorem ER_FP {φ : Int64 → Int64} {x3 x4 : Int32} {M : ip_St} {a : AS} {l : rLS} {kk : Nat} (hφ : HM φ x3) (h : ER φ M a l x4 kk) {v : Int64} (g : Nat) (hg : g = 0) : ER φ (FP M a.1 a.2.2.1 (φ v)) (a.1, false, false, g, a.2.2.2.2) (l.1, fu l.2.1 a.1 (l.2.1 a.1 &&& ngt a.2.2.1 v), l.2.2) x4 (kk + 1) := by
  obtain ⟨e0, e1, e2, e3, e4, e5, e6, e7, e8, e9, e10⟩ := h
  have r35 : (FP M a.1 a.2.2.1 (φ v)).2 35 = fu (M.2 35) a.1 (M.2 35 a.1 &&& ngt a.2.2.1 (φ v)) := upL_fu M 35 a.1 _
  have r36 : (FP M a.1 a.2.2.1 (φ v)).1 36 = fu (M.1 36) a.1 0 := upI_fu _ 36 a.1 0
  refine ⟨e0, e1, ?_, ?_, ?_, e5, e6, e7, e8, e9, fun z => absurd hg z⟩
  · show ∀ i, i ≤ a.1 → (FP M a.1 a.2.2.1 (φ v)).2 35 i = φ (fu l.2.1 a.1 (l.2.1 a.1 &&& ngt a.2.2.1 v) i)
    rw [r35]
    exact fu_rel (fun i hi _ => e2 i hi) (by rw [e2 a.1 (Nat.le_refl _), hφ.1, ngt_hom hφ])
  · exact ⟨0, by omega, by rw [r36]; exact fu_s _ _ _, rfl⟩
  · intro i hi
    have hi' : i < a.1 := hi
    exact par_eq (e4 i hi) (by rw [r36]; exact fu_n _ _ (by omega))
theorem ER_BL {φ : Int64 → Int64} {x3 x4 : Int32} {M : ip_St} {a : AS} {l : rLS} {kk : Nat} (hφ : HM φ x3) (h : ER φ M a l x4 kk) {s d : Nat} (p : Int32) (hp : p = nI (if s = 1 then 1 else d)) : ER φ (BL M a.1 p) (a.1 + 1, true, false, 0, fu a.2.2.2.2.1 (a.1 + 1) s, fu a.2.2.2.2.2.1 (a.1 + 1) d, fu a.2.2.2.2.2.2 (a.1 + 1) a.2.2.1) (fu l.1 (a.1 + 1) 0, fu l.2.1 (a.1 + 1) (-1), fu l.2.2.1 (a.1 + 1) 0, fu l.2.2.2.1 (a.1 + 1) 0, fu l.2.2.2.2 (a.1 + 1) 0) x4 (kk + 1) := by
  obtain ⟨e0, e1, e2, e3, e4, e5, e6, e7, e8, e9, e10⟩ := h
  have r34 : (BL M a.1 p).2 34 = fu (M.2 34) (a.1 + 1) 0 := upL_fu _ 34 (a.1 + 1) 0
  have r35 : (BL M a.1 p).2 35 = fu (M.2 35) (a.1 + 1) (-1) := upL_fu _ 35 (a.1 + 1) (-1)
  have r36 : (BL M a.1 p).1 36 = fu (M.1 36) (a.1 + 1) 0 := upI_fu _ 36 (a.1 + 1) 0
  have r37 : (BL M a.1 p).1 37 = fu (M.1 37) (a.1 + 1) p := upI_fu _ 37 (a.1 + 1) p
  have r38 : (BL M a.1 p).2 38 = fu (M.2 38) (a.1 + 1) 0 := upL_fu _ 38 (a.1 + 1) 0
  have r39 : (BL M a.1 p).2 39 = fu (M.2 39) (a.1 + 1) 0 := upL_fu _ 39 (a.1 + 1) 0
  have r40 : (BL M a.1 p).2 40 = fu (M.2 40) (a.1 + 1) 0 := upL_fu _ 40 (a.1 + 1) 0
  refine ⟨rfl, ?_, ?_, ?_, ?_, ?_, ?_, ?_, ?_, ?_, fun z => absurd rfl z⟩
  · show ∀ i, i ≤ a.1 + 1 → (BL M a.1 p).2 34 i = φ (fu l.1 (a.1 + 1) 0 i)
    rw [r34]
    exact fu_rel (fun i hi hn => e1 i (by omega)) hφ.2.2.2.1.symm
  · show ∀ i, i ≤ a.1 + 1 → (BL M a.1 p).2 35 i = φ (fu l.2.1 (a.1 + 1) (-1) i)
    rw [r35]
    exact fu_rel (fun i hi hn => e2 i (by omega)) hφ.2.2.2.2.1.symm
  · exact ⟨0, by omega, by rw [r36]; exact fu_s _ _ _, rfl⟩
  · intro i hi
    have hi' : i < a.1 + 1 := hi
    show par (BL M a.1 p) i (kk + 1) (fu a.2.2.2.2.2.2 (a.1 + 1) a.2.2.1 (i + 1))
    by_cases z : i = a.1
    · rw [z, fu_s]
      exact par_eq e3 (by rw [r36]; exact fu_n _ _ (by omega))
    · rw [fu_n _ _ (by omega)]
      exact par_eq (e4 i (by omega)) (by rw [r36]; exact fu_n _ _ (by omega))
  · intro i i1 i2
    have i2' : i ≤ a.1 + 1 := i2
    show (BL M a.1 p).1 37 i = nI (if fu a.2.2.2.2.1 (a.1 + 1) s i = 1 then 1 else fu a.2.2.2.2.2.1 (a.1 + 1) d i)
    rw [r37]
    by_cases z : i = a.1 + 1
    · rw [z, fu_s, fu_s, fu_s, hp]
    · rw [fu_n _ _ z, fu_n _ _ z, fu_n _ _ z]
      exact e5 i i1 (by omega)
  · intro i i1 i2
    have i2' : i ≤ a.1 + 1 := i2
    show (BL M a.1 p).2 38 i = φ (fu l.2.2.1 (a.1 + 1) 0 i)
    rw [r38]
    exact fu_rel (D := fun i => 1 ≤ i ∧ i ≤ a.1 + 1) (fun i hi hn => e6 i hi.1 (by omega)) hφ.2.2.2.1.symm i ⟨i1, i2'⟩
  · intro i i1 i2
    have i2' : i ≤ a.1 + 1 := i2
    show (BL M a.1 p).2 39 i = φ (fu l.2.2.2.1 (a.1 + 1) 0 i)
    rw [r39]
    exact fu_rel (D := fun i => 1 ≤ i ∧ i ≤ a.1 + 1) (fun i hi hn => e7 i hi.1 (by omega)) hφ.2.2.2.1.symm i ⟨i1, i2'⟩
  · intro i i1 i2
    have i2' : i ≤ a.1 + 1 := i2
    show (BL M a.1 p).2 40 i = φ (fu l.2.2.2.2 (a.1 + 1) 0 i)
    rw [r40]
    exact fu_rel (D := fun i => 1 ≤ i ∧ i ≤ a.1 + 1) (fun i hi hn => e8 i hi.1 (by omega)) hφ.2.2.2.1.symm i ⟨i1, i2'⟩
  · intro i i1 i2 hs
    have i2' : i ≤ a.1 + 1 := i2
    show fu l.2.2.1 (a.1 + 1) 0 i = 0
    by_cases z : i = a.1 + 1
    · rw [z, fu_s]
    · rw [fu_n _ _ z]
      have hs' : fu a.2.2.2.2.1 (a.1 + 1) s i = 1 := hs
      rw [fu_n _ _ z] at hs'
      exact e9 i i1 (by omega) hs'
/-- behind a law of a list is counted -/
theorem ER_cnt {φ : Int64 → Int64} {x3 x4 : Int32} {M : ip_St} {a : AS} {l : rLS} {kk : Nat} (hφ : HM φ x3) (h : ER φ M a l x4 kk) (h1 : 1 ≤ a.1) : (CLW M a.1).1 = M.1 ∧ (CLW M a.1).2 34 = M.2 34 ∧ (CLW M a.1).2 35 = M.2 35 ∧ (∀ i, 1 ≤ i → i ≤ a.1 → (CLW M a.1).2 38 i = φ ((lcnt a l).2.2.1 i)) ∧ (∀ i, 1 ≤ i → i ≤ a.1 → (CLW M a.1).2 39 i = φ ((lcnt a l).2.2.2.1 i)) ∧ ∀ i, 1 ≤ i → i ≤ a.1 → (CLW M a.1).2 40 i = φ ((lcnt a l).2.2.2.2 i) := by
  obtain ⟨e0, e1, e2, e3, e4, e5, e6, e7, e8, e9, e10⟩ := h
  have r38 : (CLW M a.1).2 38 = fu (M.2 38) a.1 (M.2 38 a.1 ||| (M.2 34 a.1 ||| M.2 35 a.1)) := upL_fu _ 38 a.1 _
  have r39 : (CLW M a.1).2 39 = fu (M.2 39) a.1 (M.2 39 a.1 ||| (M.2 38 a.1 &&& (M.2 34 a.1 ||| M.2 35 a.1))) := upL_fu _ 39 a.1 _
  have r40 : (CLW M a.1).2 40 = fu (M.2 40) a.1 (M.2 40 a.1 ||| (M.2 39 a.1 &&& (M.2 34 a.1 ||| M.2 35 a.1))) := upL_fu _ 40 a.1 _
  have hrow : M.2 34 a.1 ||| M.2 35 a.1 = φ (lrow a l) := by
    rw [e1 a.1 (Nat.le_refl _), e2 a.1 (Nat.le_refl _), ← hφ.2.1]
    rfl
  rw [hrow] at r38 r39 r40
  refine ⟨rfl, rfl, rfl, ?_, ?_, ?_⟩
  · intro i i1 i2
    rw [r38]
    exact fu_rel (D := fun i => 1 ≤ i ∧ i ≤ a.1) (fun i hi _ => e6 i hi.1 hi.2) (by rw [e6 a.1 h1 (Nat.le_refl _), ← hφ.2.1]) i ⟨i1, i2⟩
  · intro i i1 i2
    rw [r39]
    exact fu_rel (D := fun i => 1 ≤ i ∧ i ≤ a.1) (fun i hi _ => e7 i hi.1 hi.2) (by rw [e7 a.1 h1 (Nat.le_refl _), e6 a.1 h1 (Nat.le_refl _), ← hφ.1, ← hφ.2.1]) i ⟨i1, i2⟩
  · intro i i1 i2
    rw [r40]
    exact fu_rel (D := fun i => 1 ≤ i ∧ i ≤ a.1) (fun i hi _ => e8 i hi.1 hi.2) (by rw [e8 a.1 h1 (Nat.le_refl _), e7 a.1 h1 (Nat.le_refl _), ← hφ.1, ← hφ.2.1]) i ⟨i1, i2⟩
theorem phi_if (φ : Int64 → Int64) (s : Nat) (x y z : Int64) : (if s = 1 then φ x else if s = 2 then φ y else φ z) = φ (if s = 1 then x else if s = 2 then y else z) := by
  split
  · rfl
  · split
    · rfl
    · rfl
/-- behind a level is closed: l2 holds what was counted -/
theorem ER_CL {φ : Int64 → Int64} {x3 x4 : Int32} {M : ip_St} {a : AS} {l : rLS} {kk L : Nat} (hφ : HM φ x3) (h : ER φ M a l x4 kk) (hL : a.1 = L + 1) (c : Int32) (o : (Nat → Int64) × (Nat → Int64) × (Nat → Int64)) (an al : Nat → Int64) (han : ∀ i, i ≤ L → an i = l.1 i) (hal : ∀ i, i ≤ L → al i = l.2.1 i) (ho : ∀ i, 1 ≤ i → i ≤ L → o.1 i = l.2.2.1 i ∧ o.2.1 i = l.2.2.2.1 i ∧ o.2.2 i = l.2.2.2.2 i) (v : Int64) : ER φ (FP (ip_upI (CLW M a.1) 30 14 (nI L)) L (a.2.2.2.2.2.2 a.1) (φ v)) (a.1 - 1, false, false, 0, a.2.2.2.2) (an, fu al (a.1 - 1) (al (a.1 - 1) &&& ngt (a.2.2.2.2.2.2 a.1) v), o) x4 (kk + 1) := by
  obtain ⟨e0, e1, e2, e3, e4, e5, e6, e7, e8, e9, e10⟩ := h
  have eL : a.1 - 1 = L := by omega
  have r35 : (FP (ip_upI (CLW M a.1) 30 14 (nI L)) L (a.2.2.2.2.2.2 a.1) (φ v)).2 35 = fu (M.2 35) L (M.2 35 L &&& ngt (a.2.2.2.2.2.2 a.1) (φ v)) := upL_fu _ 35 L _
  have r36 : (FP (ip_upI (CLW M a.1) 30 14 (nI L)) L (a.2.2.2.2.2.2 a.1) (φ v)).1 36 = fu (M.1 36) L 0 := upI_fu _ 36 L 0
  have r38 : (FP (ip_upI (CLW M a.1) 30 14 (nI L)) L (a.2.2.2.2.2.2 a.1) (φ v)).2 38 = fu (M.2 38) a.1 (M.2 38 a.1 ||| (M.2 34 a.1 ||| M.2 35 a.1)) := upL_fu _ 38 a.1 _
  have r39 : (FP (ip_upI (CLW M a.1) 30 14 (nI L)) L (a.2.2.2.2.2.2 a.1) (φ v)).2 39 = fu (M.2 39) a.1 (M.2 39 a.1 ||| (M.2 38 a.1 &&& (M.2 34 a.1 ||| M.2 35 a.1))) := upL_fu _ 39 a.1 _
  have r40 : (FP (ip_upI (CLW M a.1) 30 14 (nI L)) L (a.2.2.2.2.2.2 a.1) (φ v)).2 40 = fu (M.2 40) a.1 (M.2 40 a.1 ||| (M.2 39 a.1 &&& (M.2 34 a.1 ||| M.2 35 a.1))) := upL_fu _ 40 a.1 _
  rw [eL]
  refine ⟨rfl, ?_, ?_, ?_, ?_, ?_, ?_, ?_, ?_, ?_, fun z => absurd rfl z⟩
  · intro i hi
    have hi' : i ≤ L := hi
    show M.2 34 i = φ (an i)
    rw [han i hi', e1 i (by omega)]
  · intro i hi
    have hi' : i ≤ L := hi
    show (FP (ip_upI (CLW M a.1) 30 14 (nI L)) L (a.2.2.2.2.2.2 a.1) (φ v)).2 35 i = φ (fu al L (al L &&& ngt (a.2.2.2.2.2.2 a.1) v) i)
    rw [r35]
    exact fu_rel (D := fun i => i ≤ L) (fun i hi _ => by rw [e2 i (by omega), hal i hi]) (by rw [e2 L (by omega), hal L (Nat.le_refl _), hφ.1, ngt_hom hφ]) i hi'
  · exact ⟨0, by omega, by rw [r36]; exact fu_s _ _ _, rfl⟩
  · intro i hi
    have hi' : i < L := hi
    exact par_eq (e4 i (by omega)) (by rw [r36]; exact fu_n _ _ (by omega))
  · intro i i1 i2
    have i2' : i ≤ L := i2
    exact e5 i i1 (by omega)
  · intro i i1 i2
    have i2' : i ≤ L := i2
    rw [r38, fu_n _ _ (by omega), e6 i i1 (by omega)]
    exact congrArg φ (ho i i1 i2').1.symm
  · intro i i1 i2
    have i2' : i ≤ L := i2
    rw [r39, fu_n _ _ (by omega), e7 i i1 (by omega)]
    exact congrArg φ (ho i i1 i2').2.1.symm
  · intro i i1 i2
    have i2' : i ≤ L := i2
    rw [r40, fu_n _ _ (by omega), e8 i i1 (by omega)]
    exact congrArg φ (ho i i1 i2').2.2.symm
  · intro i i1 i2 hs
    have i2' : i ≤ L := i2
    show o.1 i = 0
    rw [(ho i i1 i2').1]
    exact e9 i i1 (by omega) hs
