/-! ===== the reference reckons what the class has reckoned ===== -/
theorem ite_some {α : Type} {p : Prop} [Decidable p] {x y : α} (h : (if p then some x else none) = some y) : p ∧ x = y := by
  by_cases hp : p
  · rw [if_pos hp] at h
    cases h
    exact ⟨hp, rfl⟩
  · rw [if_neg hp] at h
    cases h
theorem aBe_wp {a : AS} (h : aBe a = true) : a.2.2.2.1 = 0 ∧ a.2.1 = false := by
  unfold aBe at h
  rw [Bool.and_eq_true, decide_eq_true_eq, Bool.not_eq_true'] at h
  exact h
theorem aIn_wp {a : AS} (h : aIn a = true) : a.2.2.2.1 = 0 ∧ a.2.1 = true := by
  unfold aIn at h
  rw [Bool.and_eq_true, decide_eq_true_eq] at h
  exact h
theorem AW_sh {a : AS} (h : AW a) (hz : ¬ shL a = 0) : 1 ≤ a.1 := by
  rcases Nat.eq_zero_or_pos a.1 with z | z
  · exfalso
    apply hz
    unfold shL
    rw [z]
    exact h.1
  · exact z
theorem AW_op {a : AS} (h : AW a) {s d : Nat} (hs : s = 1 ∨ s = 2) (hd : d ≤ 3) (ng : Nat → Bool) : AW (a.1 + 1, true, false, 0, fu a.2.2.2.2.1 (a.1 + 1) s, fu a.2.2.2.2.2.1 (a.1 + 1) d, ng) := by
  obtain ⟨h0, hi, hg, hw⟩ := h
  refine ⟨?_, fun i i1 i2 => ?_, Nat.zero_le 3, (fun z => by cases z)⟩
  · show fu a.2.2.2.2.1 (a.1 + 1) s 0 = 0
    rw [fu_n _ _ (by omega)]
    exact h0
  · have i2' : i ≤ a.1 + 1 := i2
    show (fu a.2.2.2.2.1 (a.1 + 1) s i = 1 ∨ fu a.2.2.2.2.1 (a.1 + 1) s i = 2) ∧ fu a.2.2.2.2.2.1 (a.1 + 1) d i ≤ 3
    by_cases z : i = a.1 + 1
    · rw [z, fu_s, fu_s]
      exact ⟨hs, hd⟩
    · rw [fu_n _ _ z, fu_n _ _ z]
      exact hi i i1 (by omega)
theorem AW_dn {a : AS} (h : AW a) : AW (a.1 - 1, false, false, 0, a.2.2.2.2) := by
  obtain ⟨h0, hi, hg, hw⟩ := h
  refine ⟨h0, fun i i1 i2 => hi i i1 ?_, Nat.zero_le 3, fun _ => rfl⟩
  have : i ≤ a.1 - 1 := i2
  omega
theorem chain_o {c : Int32} (h1 : inR c 97 102 = false) (h2 : inR c 49 51 = false) {n m k : Nat} {x3 x4 : Int32} {M : ip_St} (hk : k < m) (hm : m ≤ 56) (hc : M.1 41 k = c) : f_M_lawRow_16 (n + 1) (nI m) x3 x4 (nI k) M = (if c = 33 then ((ip_aI M 36 (M.1 30 14)).bind fun zv29 => ((ip_wI M 36 (M.1 30 14) (zv29 + 1)).bind fun zS30 => (f_M_lawRow_16 n (nI m) x3 x4 (nI (k + 1)) zS30))) else (if c = 124 then ((ip_aL M 34 (M.1 30 14)).bind fun zv25 => ((ip_aL M 35 (M.1 30 14)).bind fun zv26 => ((ip_wL M 34 (M.1 30 14) (zv25 ||| zv26)).bind fun zS27 => ((ip_wL zS27 35 (zS27.1 30 14) (-1)).bind fun zS28 => (f_M_lawRow_16 n (nI m) x3 x4 (nI (k + 1)) zS28))))) else (if c = 40 then ((f_M_beginLevel 1 M).bind fun zS24 => (f_M_lawRow_16 n (nI m) x3 x4 (nI (k + 1)) zS24)) else (if c = 91 then ((f_M_beginLevel x4 M).bind fun zS22 => (f_M_lawRow_16 n (nI m) x3 x4 (nI (k + 1)) zS22)) else (if c = 44 then ((f_M_countLaw M).bind fun zS18 => ((f_M_beginLaw zS18).bind fun zS20 => (f_M_lawRow_16 n (nI m) x3 x4 (nI (k + 1)) zS20))) else (if c = 38 then (f_M_lawRow_16 n (nI m) x3 x4 (nI (k + 1)) M) else ((f_M_countLaw M).bind fun zS14 => ((f_M_endLevel zS14).bind fun zS16 => (f_M_lawRow_16 n (nI m) x3 x4 (nI (k + 1)) zS16))))))))) := by
  rw [f_M_lawRow_16, if_neg (by rw [nI_leI (by omega) (by omega)]; omega), aI_at (n := 56) rfl (by omega), Option.bind_some, hc, in_97, in_49, h1, h2, if_pos rfl, if_pos rfl, nI_1]
def EV (φ : Int64 → Int64) (x3 : Int32) (M : ip_St) (a' : AS) (l' : rLS) (x4 : Int32) (kk n m k : Nat) : Prop := ∃ x4' M', f_M_lawRow_16 (n + 1) (nI m) x3 x4 (nI k) M = f_M_lawRow_16 n (nI m) x3 x4' (nI (k + 1)) M' ∧ ER φ M' a' l' x4' (kk + 1) ∧ ip_Fr wLR M M'
theorem ER_up {φ : Int64 → Int64} {M : ip_St} {a : AS} {l : rLS} {x4 : Int32} {kk : Nat} (h : ER φ M a l x4 kk) : ER φ M a l x4 (kk + 1) := by
  obtain ⟨e0, e1, e2, e3, e4, e5, e6, e7, e8, e9, e10⟩ := h
  exact ⟨e0, e1, e2, par_up e3, fun i hi => par_up (e4 i hi), e5, e6, e7, e8, e9, e10⟩
theorem ev_step {φ : Int64 → Int64} {x3 x4 : Int32} (hφ : HM φ x3) {M : ip_St} (hT : RT M) {a a' : AS} {l : rLS} (hw : AW a) {kk : Nat} (hE : ER φ M a l x4 kk) (hL : a.1 ≤ 55) (hkk : kk ≤ 56) {k m n : Nat} (hk : k < m) (hm : m ≤ 56) {c : Int32} (hc : M.1 41 k = c) (hs : astep (tok c).1 (tok c).2 a = some a') : EV φ x3 M a' (lstep (tok c).1 (tok c).2 a l) x4 kk n m k ∧ AW a' := by
  obtain ⟨e0, e1, e2, e3, e4, e5, e6, e7, e8, e9, e10⟩ := id hE
  obtain ⟨w0, w1, w2, w3⟩ := id hw
  rcases tok_cs c with ⟨kd, x, hx, e, ec⟩ | ⟨kd, ec⟩ | ⟨kd, x, hx1, hx3, e, ec⟩ | ⟨kd, ec⟩ | ⟨kd, ec⟩ | ⟨kd, ec⟩ | ⟨kd, ec⟩ | ⟨kd, ec⟩ | ⟨kd, ec⟩ | ⟨kd, ec⟩ | ⟨kd, q1, q2, q3, q4, q5, q6, q7, q8, q9, q10⟩
  · rw [kd, e] at hs ⊢
    obtain ⟨t1, ha⟩ := ite_some (show (if aIn a = true then some _ else none) = some a' from hs)
    subst ha
    obtain ⟨g0, -⟩ := aIn_wp t1
    refine ⟨⟨x4, FP M a.1 a.2.2.1 (φ (rw0 x)), ?_, ER_FP hφ hE 0 rfl, fr_FP⟩, ⟨w0, w1, Nat.zero_le 3, fun _ => rfl⟩⟩
    have hin : inR c 97 102 = true := by
      rw [ec, show (97 : Int32) = nI 97 from rfl, show (102 : Int32) = nI 102 from rfl, inR_nI (by omega) (by omega) (by omega)]
      have q1 : 97 ≤ 97 + x := by omega
      have q2 : 97 + x ≤ 102 := by omega
      rw [decide_eq_true q1, decide_eq_true q2]
      rfl
    have e97 : c - 97 = nI x := by rw [ec, show (97 : Int32) = nI 97 from rfl, pk_sub (by omega)]; congr 1; omega
    rw [f_M_lawRow_16, if_neg (by rw [nI_leI (by omega) (by omega)]; omega), aI_at (n := 56) rfl (by omega), Option.bind_some, hc, in_97, hin, if_neg (show ¬ (true = false) by decide), e97, rowOf_eq hT hx, Option.bind_some]
    unfold f_M_lawRow_66
    rw [nI_1, hφ.2.2.2.2.2 x hx]
    by_cases hz : nI x = x3
    · rw [if_pos hz, if_pos hz, feed_eq e0 (by omega) e3 (by omega)]
      rfl
    · rw [if_neg hz, if_neg hz, feed_eq e0 (by omega) e3 (by omega)]
      rfl
  · rw [kd] at hs ⊢
    generalize (tok c).2 = x at hs ⊢
    subst ec
    obtain ⟨t1, ha⟩ := ite_some (show (if aIn a = true then some _ else none) = some a' from hs)
    subst ha
    obtain ⟨q, p1, p2, p3⟩ := e3
    have r36 : (ip_upI M 36 a.1 (nI q + 1)).1 36 = fu (M.1 36) a.1 (nI q + 1) := upI_fu M 36 a.1 _
    refine ⟨⟨x4, ip_upI M 36 a.1 (nI q + 1), ?_, ⟨e0, e1, e2, ?_, fun i hi => ?_, e5, e6, e7, e8, e9, fun z => absurd rfl z⟩, ip_Fr.upI (ip_wa_wt rfl) ip_Fr.rf⟩, ⟨w0, w1, Nat.zero_le 3, (fun z => by cases z)⟩⟩
    · rw [chain_o (by decide) (by decide) hk hm hc, if_pos rfl]
      refine (aI_r (n := 60) (i := a.1) rfl e0 (by omega)).trans ?_
      rw [p2]
      exact wI_r (n := 60) (i := a.1) rfl e0 (by omega)
    · refine ⟨q + 1, by omega, by rw [r36]; exact (fu_s _ _ _).trans (nI_1 q), ?_⟩
      show decide ((q + 1) % 2 = 1) = !a.2.2.1
      rw [← p3]
      by_cases hq : q % 2 = 1
      · rw [decide_eq_true hq, decide_eq_false (by omega)]
        rfl
      · rw [decide_eq_false hq, decide_eq_true (by omega)]
        rfl
    · have hi' : i < a.1 := hi
      exact par_eq (e4 i hi) (by rw [r36]; exact fu_n _ _ (by omega))
  · rw [kd, e] at hs ⊢
    obtain ⟨t1, ha⟩ := ite_some (show (if aIn a = true then some _ else none) = some a' from hs)
    subst ha
    have h97 : inR c 97 102 = false := by
      rw [ec, show (97 : Int32) = nI 97 from rfl, show (102 : Int32) = nI 102 from rfl, inR_nI (by omega) (by omega) (by omega)]
      have q1 : ¬ 97 ≤ 48 + x := by omega
      rw [decide_eq_false q1]
      rfl
    have h49 : inR c 49 51 = true := by
      rw [ec, show (49 : Int32) = nI 49 from rfl, show (51 : Int32) = nI 51 from rfl, inR_nI (by omega) (by omega) (by omega)]
      have q1 : 49 ≤ 48 + x := by omega
      have q2 : 48 + x ≤ 51 := by omega
      rw [decide_eq_true q1, decide_eq_true q2]
      rfl
    have e48 : c - 48 = nI x := by rw [ec, show (48 : Int32) = nI 48 from rfl, pk_sub (by omega)]; congr 1; omega
    refine ⟨⟨nI x, M, ?_, ⟨e0, e1, e2, par_up e3, fun i hi => par_up (e4 i hi), e5, e6, e7, e8, e9, fun _ => rfl⟩, ip_Fr.rf⟩, ⟨w0, w1, hx3, (fun z => by cases z)⟩⟩
    rw [f_M_lawRow_16, if_neg (by rw [nI_leI (by omega) (by omega)]; omega), aI_at (n := 56) rfl (by omega), Option.bind_some, hc, in_97, in_49, h97, h49, if_pos rfl, if_neg (show ¬ (true = false) by decide), e48, nI_1]
  · rw [kd] at hs ⊢
    generalize (tok c).2 = x at hs ⊢
    subst ec
    obtain ⟨t1, ha⟩ := ite_some (show (if aIn a = true then some _ else none) = some a' from hs)
    subst ha
    refine ⟨⟨x4, BL M a.1 1, ?_, ER_BL hφ hE (s := 1) (d := 0) 1 rfl, fr_BL⟩, AW_op hw (Or.inl rfl) (Nat.zero_le 3) _⟩
    rw [chain_o (by decide) (by decide) hk hm hc, if_neg (by decide), if_neg (by decide), if_pos rfl, beginLevel_eq e0 hL, Option.bind_some]
  · rw [kd] at hs ⊢
    generalize (tok c).2 = x at hs ⊢
    subst ec
    have hs' : (if a.2.2.2.1 = 0 then none else some (a.1 + 1, true, false, 0, fu a.2.2.2.2.1 (a.1 + 1) 2, fu a.2.2.2.2.2.1 (a.1 + 1) a.2.2.2.1, fu a.2.2.2.2.2.2 (a.1 + 1) a.2.2.1)) = some a' := hs
    by_cases g0 : a.2.2.2.1 = 0
    · rw [if_pos g0] at hs'
      cases hs'
    · rw [if_neg g0] at hs'
      cases hs'
      refine ⟨⟨x4, BL M a.1 x4, ?_, ER_BL hφ hE (s := 2) (d := a.2.2.2.1) x4 (by rw [e10 g0]; rfl), fr_BL⟩, AW_op hw (Or.inr rfl) w2 _⟩
      rw [chain_o (by decide) (by decide) hk hm hc, if_neg (by decide), if_neg (by decide), if_neg (by decide), if_pos rfl, beginLevel_eq e0 hL, Option.bind_some]
  · rw [kd] at hs ⊢
    generalize (tok c).2 = x at hs ⊢
    subst ec
    obtain ⟨t1, ha⟩ := ite_some (show (if aBe a = true then some _ else none) = some a' from hs)
    subst ha
    refine ⟨⟨x4, M, ?_, ⟨e0, e1, e2, par_up e3, fun i hi => par_up (e4 i hi), e5, e6, e7, e8, e9, fun z => absurd rfl z⟩, ip_Fr.rf⟩, ⟨w0, w1, Nat.zero_le 3, (fun z => by cases z)⟩⟩
    rw [chain_o (by decide) (by decide) hk hm hc, if_neg (by decide), if_neg (by decide), if_neg (by decide), if_neg (by decide), if_neg (by decide), if_pos rfl]
  · rw [kd] at hs ⊢
    generalize (tok c).2 = x at hs ⊢
    subst ec
    obtain ⟨t1, ha⟩ := ite_some (show (if aBe a = true then some _ else none) = some a' from hs)
    subst ha
    have hrow : M.2 34 a.1 ||| M.2 35 a.1 = φ (lrow a l) := by
      rw [e1 a.1 (Nat.le_refl _), e2 a.1 (Nat.le_refl _), ← hφ.2.1]
      rfl
    have r34 : (ip_upL (ip_upL M 34 a.1 (φ (lrow a l))) 35 a.1 (-1)).2 34 = fu (M.2 34) a.1 (φ (lrow a l)) := upL_fu M 34 a.1 _
    have r35 : (ip_upL (ip_upL M 34 a.1 (φ (lrow a l))) 35 a.1 (-1)).2 35 = fu (M.2 35) a.1 (-1) := upL_fu _ 35 a.1 _
    refine ⟨⟨x4, ip_upL (ip_upL M 34 a.1 (φ (lrow a l))) 35 a.1 (-1), ?_, ⟨e0, ?_, ?_, par_up e3, fun i hi => par_up (e4 i hi), e5, e6, e7, e8, e9, fun z => absurd rfl z⟩, ip_Fr.upL (ip_wa_wt rfl) (ip_Fr.upL (ip_wa_wt rfl) ip_Fr.rf)⟩, ⟨w0, w1, Nat.zero_le 3, (fun z => by cases z)⟩⟩
    · rw [chain_o (by decide) (by decide) hk hm hc, if_neg (by decide), if_pos rfl]
      refine (aL_r (n := 60) (i := a.1) rfl e0 (by omega)).trans ?_
      refine (aL_r (n := 60) (i := a.1) rfl e0 (by omega)).trans ?_
      refine (wL_r (n := 60) (i := a.1) rfl e0 (by omega)).trans ?_
      refine (wL_r (n := 60) (i := a.1) rfl e0 (by omega)).trans ?_
      rw [hrow]
    · show ∀ i, i ≤ a.1 → (ip_upL (ip_upL M 34 a.1 (φ (lrow a l))) 35 a.1 (-1)).2 34 i = φ (fu l.1 a.1 (lrow a l) i)
      rw [r34]
      exact fu_rel (fun i hi _ => e1 i hi) rfl
    · show ∀ i, i ≤ a.1 → (ip_upL (ip_upL M 34 a.1 (φ (lrow a l))) 35 a.1 (-1)).2 35 i = φ (fu l.2.1 a.1 (-1) i)
      rw [r35]
      exact fu_rel (fun i hi _ => e2 i hi) hφ.2.2.2.2.1.symm
  · rw [kd] at hs ⊢
    generalize (tok c).2 = x at hs ⊢
    subst ec
    obtain ⟨t1, ha⟩ := ite_some (show (if aBe a = true ∧ shL a = 2 then some _ else none) = some a' from hs)
    subst ha
    have h1 := AW_sh hw (by rw [t1.2]; decide)
    obtain ⟨c1, c34, c35, c2, c3, c4⟩ := ER_cnt hφ hE h1
    have hnt : a.2.2.1 = false := w3 (aBe_wp t1.1).2
    have r34 : (BW (CLW M a.1) a.1).2 34 = fu (M.2 34) a.1 0 := upL_fu _ 34 a.1 _
    have r35 : (BW (CLW M a.1) a.1).2 35 = fu (M.2 35) a.1 (-1) := upL_fu _ 35 a.1 _
    have r36 : (BW (CLW M a.1) a.1).1 36 = fu (M.1 36) a.1 0 := upI_fu _ 36 a.1 0
    refine ⟨⟨x4, BW (CLW M a.1) a.1, ?_, ⟨e0, ?_, ?_, ?_, fun i hi => ?_, e5, c2, c3, c4, fun i i1 i2 hs1 => ?_, fun z => absurd rfl z⟩, ip_Fr.trans fr_CLW fr_BW⟩, ⟨w0, w1, Nat.zero_le 3, (fun z => by cases z)⟩⟩
    · rw [chain_o (by decide) (by decide) hk hm hc, if_neg (by decide), if_neg (by decide), if_neg (by decide), if_neg (by decide), if_pos rfl, countLaw_eq e0 (by omega), Option.bind_some, beginLaw_eq (M := CLW M a.1) (L := a.1) e0 (by omega), Option.bind_some]
    · show ∀ i, i ≤ a.1 → (BW (CLW M a.1) a.1).2 34 i = φ (fu l.1 a.1 0 i)
      rw [r34]
      exact fu_rel (fun i hi _ => e1 i hi) hφ.2.2.2.1.symm
    · show ∀ i, i ≤ a.1 → (BW (CLW M a.1) a.1).2 35 i = φ (fu l.2.1 a.1 (-1) i)
      rw [r35]
      exact fu_rel (fun i hi _ => e2 i hi) hφ.2.2.2.2.1.symm
    · refine ⟨0, by omega, by rw [r36]; exact fu_s _ _ _, ?_⟩
      show false = a.2.2.1
      rw [hnt]
    · have hi' : i < a.1 := hi
      exact par_eq (e4 i hi) (by rw [r36]; exact fu_n _ _ (by omega))
    · have hne : ¬ i = a.1 := fun z => by
        have hs2 : a.2.2.2.2.1 i = 1 := hs1
        rw [z] at hs2
        have : a.2.2.2.2.1 a.1 = 2 := t1.2
        omega
      show fu l.2.2.1 a.1 _ i = 0
      rw [fu_n _ _ hne]
      exact e9 i i1 i2 hs1
  · rw [kd] at hs ⊢
    generalize (tok c).2 = x at hs ⊢
    subst ec
    obtain ⟨t1, ha⟩ := ite_some (show (if aBe a = true ∧ shL a = 1 then some _ else none) = some a' from hs)
    subst ha
    have h1 := AW_sh hw (by rw [t1.2]; decide)
    obtain ⟨L, eL⟩ : ∃ L, a.1 = L + 1 := ⟨a.1 - 1, by omega⟩
    obtain ⟨c1, c34, c35, c2, c3, c4⟩ := ER_cnt hφ hE h1
    have hs1 : a.2.2.2.2.1 a.1 = 1 := t1.2
    have p1 : par (CLW M a.1) L kk (a.2.2.2.2.2.2 a.1) := by
      have := e4 L (by omega)
      rw [← eL] at this
      exact this
    have h37 : (CLW M a.1).1 37 (L + 1) = nI 1 := by
      rw [c1, ← eL, e5 a.1 h1 (Nat.le_refl _), if_pos hs1]
    have h38 : (CLW M a.1).2 38 (L + 1) = φ (lrow a l) := by
      rw [← eL, c2 a.1 h1 (Nat.le_refl _)]
      show φ (fu l.2.2.1 a.1 (l.2.2.1 a.1 ||| lrow a l) a.1) = _
      rw [fu_s, e9 a.1 h1 (Nat.le_refl _) hs1, zor]
    refine ⟨⟨x4, FP (ip_upI (CLW M a.1) 30 14 (nI L)) L (a.2.2.2.2.2.2 a.1) (φ (lrow a l)), ?_, ER_CL hφ hE eL 0 l.2.2 l.1 l.2.1 (fun _ _ => rfl) (fun _ _ => rfl) (fun _ _ _ => ⟨rfl, rfl, rfl⟩) (lrow a l), ip_Fr.trans fr_CLW (ip_Fr.trans (ip_Fr.upI rfl ip_Fr.rf) fr_FP)⟩, AW_dn hw⟩
    rw [chain_o (by decide) (by decide) hk hm hc, if_neg (by decide), if_neg (by decide), if_neg (by decide), if_neg (by decide), if_neg (by decide), if_neg (by decide), countLaw_eq e0 (by omega), Option.bind_some, endLevel_eq (M := CLW M a.1) (L := L) (s := 1) (by rw [c1, ← eL]; exact e0) (by omega) h37 (by omega) p1 (by omega), Option.bind_some, if_pos rfl, h38]
  · rw [kd] at hs ⊢
    generalize (tok c).2 = x at hs ⊢
    subst ec
    obtain ⟨t1, ha⟩ := ite_some (show (if aBe a = true ∧ shL a = 2 then some _ else none) = some a' from hs)
    subst ha
    have h1 := AW_sh hw (by rw [t1.2]; decide)
    obtain ⟨L, eL⟩ : ∃ L, a.1 = L + 1 := ⟨a.1 - 1, by omega⟩
    obtain ⟨c1, c34, c35, c2, c3, c4⟩ := ER_cnt hφ hE h1
    have hs1 : a.2.2.2.2.1 a.1 = 2 := t1.2
    have p1 : par (CLW M a.1) L kk (a.2.2.2.2.2.2 a.1) := by
      have := e4 L (by omega)
      rw [← eL] at this
      exact this
    have h37 : (CLW M a.1).1 37 (L + 1) = nI (a.2.2.2.2.2.1 a.1) := by
      rw [c1, ← eL, e5 a.1 h1 (Nat.le_refl _), if_neg (by rw [hs1]; decide)]
    have hval : (if a.2.2.2.2.2.1 a.1 = 1 then (CLW M a.1).2 38 (L + 1) else if a.2.2.2.2.2.1 a.1 = 2 then (CLW M a.1).2 39 (L + 1) else (CLW M a.1).2 40 (L + 1)) = φ (llst a (lcnt a l)) := by
      rw [← eL, c2 a.1 h1 (Nat.le_refl _), c3 a.1 h1 (Nat.le_refl _), c4 a.1 h1 (Nat.le_refl _), phi_if]
      rfl
    refine ⟨⟨x4, FP (ip_upI (CLW M a.1) 30 14 (nI L)) L (a.2.2.2.2.2.2 a.1) (φ (llst a (lcnt a l))), ?_, ER_CL hφ hE eL 0 (lcnt a l).2.2 (lcnt a l).1 (lcnt a l).2.1 (fun i hi => fu_n _ _ (by omega)) (fun i hi => fu_n _ _ (by omega)) (fun i i1 i2 => ⟨fu_n _ _ (by omega), fu_n _ _ (by omega), fu_n _ _ (by omega)⟩) (llst a (lcnt a l)), ip_Fr.trans fr_CLW (ip_Fr.trans (ip_Fr.upI rfl ip_Fr.rf) fr_FP)⟩, AW_dn hw⟩
    rw [chain_o (by decide) (by decide) hk hm hc, if_neg (by decide), if_neg (by decide), if_neg (by decide), if_neg (by decide), if_neg (by decide), if_neg (by decide), countLaw_eq e0 (by omega), Option.bind_some, endLevel_eq (M := CLW M a.1) (L := L) (s := a.2.2.2.2.2.1 a.1) (by rw [c1, ← eL]; exact e0) (by omega) h37 (w1 a.1 h1 (Nat.le_refl _)).2 p1 (by omega), Option.bind_some, hval]
  · rw [kd] at hs
    cases hs
theorem arun_pre {t : Nat → Int32} {s0 : AS × rLS} : ∀ {m : Nat} {s : AS × rLS}, arun t s0 m = some s → ∀ k, k ≤ m → ∃ s', arun t s0 k = some s' := by
  intro m
  induction m with
  | zero =>
    intro s h k hk
    obtain rfl : k = 0 := by omega
    exact ⟨s, h⟩
  | succ m ih =>
    intro s h k hk
    rcases Nat.lt_or_ge k (m + 1) with z | z
    · cases hq : arun t s0 m with
      | none =>
        have h' : ((arun t s0 m).bind _) = some s := h
        rw [hq] at h'
        cases h'
      | some s1 => exact ih hq k (by omega)
    · obtain rfl : k = m + 1 := by omega
      exact ⟨s, h⟩
theorem arun_s {t : Nat → Int32} {s0 : AS × rLS} {k : Nat} {s s' : AS × rLS} (h1 : arun t s0 k = some s) (h2 : arun t s0 (k + 1) = some s') : astep (tok (t k)).1 (tok (t k)).2 s.1 = some s'.1 ∧ s'.2 = lstep (tok (t k)).1 (tok (t k)).2 s.1 s.2 := by
  have h' : ((arun t s0 k).bind fun s => (astep (tok (t k)).1 (tok (t k)).2 s.1).bind fun a' => some (a', lstep (tok (t k)).1 (tok (t k)).2 s.1 s.2)) = some s' := h2
  rw [h1, Option.bind_some] at h'
  cases hq : astep (tok (t k)).1 (tok (t k)).2 s.1 with
  | none =>
    rw [hq] at h'
    cases h'
  | some a' =>
    rw [hq, Option.bind_some] at h'
    cases h'
    exact ⟨rfl, rfl⟩
theorem lawRow_run {φ : Int64 → Int64} {x3 : Int32} (hφ : HM φ x3) {t : Nat → Int32} {m : Nat} (hm : m ≤ 56) {l0 : rLS} (h70 : l0.1 0 = 0) (h80 : l0.2.1 0 = -1) {M0 : ip_St} (hT : RT M0) (ht : ∀ k, k < m → M0.1 41 k = t k) {a : AS} {l : rLS} (hrun : arun t (a00, l0) m = some (a, l)) (ha : a.1 = 0) : ∃ M', f_M_lawRow (nI m) x3 M0 = some (φ (lrow a l), M') := by
  have hb : f_M_beginLevel 0 (ip_upI M0 30 14 (-1)) = some (BW (ip_upL (ip_upL (ip_upL (ip_upI (ip_upI (ip_upI M0 30 14 (-1)) 30 14 (nI 0)) 37 0 0) 38 0 0) 39 0 0) 40 0 0) 0) := beginLevel_eq' (L := 0) (by rw [upI_same]; decide) (by omega) 0
  have hfr : ip_Fr wLR M0 (BW (ip_upL (ip_upL (ip_upL (ip_upI (ip_upI (ip_upI M0 30 14 (-1)) 30 14 (nI 0)) 37 0 0) 38 0 0) 39 0 0) 40 0 0) 0) := ip_Fr.trans (ip_Fr.upL (ip_wa_wt rfl) (ip_Fr.upL (ip_wa_wt rfl) (ip_Fr.upL (ip_wa_wt rfl) (ip_Fr.upI (ip_wa_wt rfl) (ip_Fr.upI rfl (ip_Fr.upI rfl ip_Fr.rf)))))) fr_BW
  have hE0 : ER φ (BW (ip_upL (ip_upL (ip_upL (ip_upI (ip_upI (ip_upI M0 30 14 (-1)) 30 14 (nI 0)) 37 0 0) 38 0 0) 39 0 0) 40 0 0) 0) a00 l0 0 0 := by
    refine ⟨rfl, fun i hi => ?_, fun i hi => ?_, ⟨0, Nat.le_refl 0, rfl, rfl⟩, fun i hi => absurd hi (Nat.not_lt_zero i), fun i i1 i2 => ?_, fun i i1 i2 => ?_, fun i i1 i2 => ?_, fun i i1 i2 => ?_, fun i i1 i2 => ?_, fun z => absurd rfl z⟩
    · have : i ≤ 0 := hi
      obtain rfl : i = 0 := by omega
      rw [h70, hφ.2.2.2.1]
      rfl
    · have : i ≤ 0 := hi
      obtain rfl : i = 0 := by omega
      rw [h80, hφ.2.2.2.2.1]
      rfl
    · have : i ≤ 0 := i2
      omega
    · have : i ≤ 0 := i2
      omega
    · have : i ≤ 0 := i2
      omega
    · have : i ≤ 0 := i2
      omega
    · have : i ≤ 0 := i2
      omega
  have hA0 : AW a00 := ⟨rfl, fun i i1 i2 => by have : i ≤ 0 := i2; omega, Nat.zero_le 3, (fun z => by cases z)⟩
  generalize BW (ip_upL (ip_upL (ip_upL (ip_upI (ip_upI (ip_upI M0 30 14 (-1)) 30 14 (nI 0)) 37 0 0) 38 0 0) 39 0 0) 40 0 0) 0 = M1 at hb hfr hE0
  have main : ∀ k, k ≤ m → ∃ s x4 M, arun t (a00, l0) k = some s ∧ f_M_lawRow_16 ip_FU (nI m) x3 0 (nI 0) M1 = f_M_lawRow_16 (ip_FU - k) (nI m) x3 x4 (nI k) M ∧ ER φ M s.1 s.2 x4 k ∧ AW s.1 ∧ s.1.1 ≤ k ∧ ip_Fr wLR M0 M := by
    intro k
    induction k with
    | zero =>
      intro _
      exact ⟨(a00, l0), 0, M1, rfl, rfl, hE0, hA0, Nat.le_refl 0, hfr⟩
    | succ k ih =>
      intro hk
      obtain ⟨s, x4, M, s1, s2, s3, s4, s5, s6⟩ := ih (by omega)
      obtain ⟨s', hs'⟩ := arun_pre hrun (k + 1) hk
      obtain ⟨st1, st2⟩ := arun_s s1 hs'
      have hc : M.1 41 k = t k := by rw [(s6 41 k rfl).1]; exact ht k (by omega)
      obtain ⟨q, hq⟩ : ∃ q, ip_FU - k = q + 1 := ⟨ip_FU - k - 1, by rw [FU_eq]; omega⟩
      have hq2 : ip_FU - (k + 1) = q := by omega
      obtain ⟨⟨x4', M', g1, g2, g3⟩, g4⟩ := ev_step (n := q) hφ (RT_fr s6 rfl hT) s4 s3 (by omega) (by omega) (show k < m by omega) hm hc st1
      refine ⟨s', x4', M', hs', ?_, ?_, g4, ?_, ip_Fr.trans s6 g3⟩
      · rw [s2, hq, hq2]
        exact g1
      · rw [st2]
        exact g2
      · have := (astep_lv st1 s4.1).1
        rw [this]
        split
        · omega
        · split
          · omega
          · omega
  obtain ⟨s, x4, M, s1, s2, s3, s4, s5, s6⟩ := main m (Nat.le_refl m)
  have es : s = (a, l) := by
    rw [hrun] at s1
    cases s1
    rfl
  subst es
  unfold f_M_lawRow
  rw [hb, Option.bind_some]
  rw [show nI 0 = (0 : Int32) from rfl] at s2
  obtain ⟨q, hq⟩ : ∃ q, ip_FU - m = q + 1 := ⟨ip_FU - m - 1, by rw [FU_eq]; omega⟩
  obtain ⟨e0, e1, e2, -⟩ := s3
  rw [s2, hq, f_M_lawRow_16, if_pos (by rw [nI_leI (by omega) (by omega)]; omega), endLaw_eq e0 (by omega), Option.bind_some, e1 _ (Nat.le_refl _), e2 _ (Nat.le_refl _), ← hφ.2.1]
  exact ⟨M, rfl⟩
theorem HM_id : HM (fun x => x) (-1) := by
  refine ⟨fun _ _ => rfl, fun _ _ => rfl, fun _ => rfl, rfl, rfl, fun g hg => ?_⟩
  rw [if_neg (nI_n1 (by omega)).1]
theorem stb_ck : ∀ f, f < 6 → ∀ g, g < 6 → ∀ w, w < 64 → (stb w f false).testBit g = if g = f then false else w.testBit g := by decide +kernel
theorem HM_pin {f : Nat} (hf : f < 6) : HM (fun x => pin x f false) (nI f) := by
  refine ⟨fun x y => ?_, fun x y => ?_, fun x => ?_, ?_, ?_, fun g hg => ?_⟩
  · apply lb_ext
    intro w hw
    rw [lb_pin _ hf _ hw, lb_and, lb_and, lb_pin _ hf _ hw, lb_pin _ hf _ hw]
  · apply lb_ext
    intro w hw
    rw [lb_pin _ hf _ hw, lb_or, lb_or, lb_pin _ hf _ hw, lb_pin _ hf _ hw]
  · apply lb_ext
    intro w hw
    rw [lb_pin _ hf _ hw, lb_not _ (stb_lt hf hw false), lb_not _ hw, lb_pin _ hf _ hw]
  · apply lb_ext
    intro w hw
    rw [lb_pin _ hf _ hw, lb_0, lb_0]
  · apply lb_ext
    intro w hw
    rw [lb_pin _ hf _ hw, lb_m1 (stb_lt hf hw false), lb_m1 hw]
  · apply lb_ext
    intro w hw
    rw [lb_pin _ hf _ hw, lb_rw_ck g hg _ (stb_lt hf hw false), stb_ck f hf g hg w hw]
    by_cases z : g = f
    · rw [if_pos z, if_pos (by rw [z]), lb_0]
    · rw [if_neg z, if_neg (fun y => z ((nI_eq (by omega) (by omega)).mp y)), lb_rw_ck g hg w hw]
/-- the law of a text that was scanned: what Rel2 wants of it -/
theorem LawF_of {P : Nat → Int32} {fm len : Nat} (hlen : len ≤ 56) {C M : ip_St} (h : LR P fm len C M) (h0 : C.1 2 9 = 0) {t : Nat → Int32} (ht : ∀ k, k < len - fm → t k = P (fm + k)) : LawF t (len - fm) (C.2 7 0 ||| C.2 8 0) (C.1 3 1) (C.1 3 2) (C.1 3 3) (C.1 3 4) ∧ ∀ M1 : ip_St, RT M1 → (∀ k, k < len - fm → M1.1 41 k = t k) → ∃ M', f_M_lawRow (nI (len - fm)) (-1) M1 = some (C.2 7 0 ||| C.2 8 0, M') := by
  obtain ⟨a, l, l0, q1, q2, q3, q4, q5, q6, q7, q8⟩ := h
  have ha : a.1 = 0 := by
    have := q4.1
    rw [h0] at this
    exact ((nI_eq (a := 0) (by omega) (by omega)).mp this).symm
  have hrow : C.2 7 0 ||| C.2 8 0 = lrow a l := by
    rw [q5.1, q5.2.1]
    unfold lrow
    rw [ha]
  rw [hrow]
  have lf : LawF (fun q => P (fm + q)) (len - fm) (lrow a l) (C.1 3 1) (C.1 3 2) (C.1 3 3) (C.1 3 4) := by
    obtain ⟨c1, c2, c3, c4, c5, c6⟩ := q6
    refine ⟨c1, c2, c3, c4, fun f hf M1 hT1 hM1 => ?_⟩
    exact lawRow_run (HM_pin hf) (by omega) q1 q2 hT1 hM1 q3 ha
  refine ⟨LawF_cg (fun k hk => ht k hk) lf, fun M1 hT1 hM1 => ?_⟩
  exact lawRow_run HM_id (t := fun q => P (fm + q)) (by omega) q1 q2 hT1 (fun k hk => by rw [hM1 k hk, ht k hk]) q3 ha
