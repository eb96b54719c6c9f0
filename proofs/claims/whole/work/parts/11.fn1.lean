def ip_FU : Nat := 1000
def ip_ishl (x y : Int32) : Int32 := x <<< (y &&& 31)
def ip_ishr (x y : Int32) : Int32 := x >>> (y &&& 31)
def ip_iushr (x y : Int32) : Int32 := (x.toUInt32 >>> (y.toUInt32 &&& Int32.toUInt32 31)).toInt32
def ip_lshl (x : Int64) (y : Int32) : Int64 := x <<< (y.toInt64 &&& 63)
def ip_lshr (x : Int64) (y : Int32) : Int64 := x >>> (y.toInt64 &&& 63)
def ip_lushr (x : Int64) (y : Int32) : Int64 := (x.toUInt64 >>> (y.toInt64.toUInt64 &&& Int64.toUInt64 63)).toInt64
def ip_irem (x y : Int32) : Int32 := x - x / y * y
def ip_cI (c : Nat) (i : Int32) : Option Int32 := cond (ip_in i 5) (some (ip_tI c i.toNatClampNeg)) none
def ip_cL (i : Int32) : Option Int64 := cond (ip_in i 6) (some (ip_tL 55 i.toNatClampNeg)) none
theorem ip_bind {α β : Type} {o : Option α} {k : α → Option β} {r : β} (h : o.bind k = some r) : ∃ x, o = some x ∧ k x = some r := by
  cases o with
  | none => cases h
  | some x => exact ⟨x, rfl, h⟩
theorem ip_Ev.callJ {mi pc : Nat} {lv : ip_LV} {st : List Value} {S S' : ip_St} {rv : Option Value} {p len i b pl : Nat} {nst : Bool} {a r : List Value} {rv1 : Option Value} {S1 : ip_St} (hi : ip_ins mi pc = some (.invokevirtual p, len)) (hq : ip_clk (ip_ow mi) p = some (i, nst, pl)) (hs : ip_sta i = false) (hp : ip_pop (ip_np i) [] st = some (a, .ref b :: r)) (ho : ip_ob b = some 1) (hw : ip_ow i = 1) (hf : ip_fit mi i r = true) (hm : ip_Me i (.ref b :: a) S rv1 S1) (k : ip_Ev mi (pc + 3) lv (rv1.toList ++ r) S1 rv S') : ip_Ev mi pc lv st S rv S' := by
  refine ip_Ev.call (i := i) (a := .ref b :: a) (r := r) ?_ hm k
  unfold ip_cal
  rw [hi]
  dsimp only
  rw [hq]
  dsimp only
  rw [hs]
  dsimp only [cond]
  rw [hp]
  dsimp only
  rw [ho]
  dsimp only
  rw [hw, Nat.beq_refl]
  dsimp only [cond]
  rw [hf]

-- A_letter
def f_A_letter (p1 : Int32) (S : ip_St) : Option (Int32 × ip_St) := (if p1 < 1 then some ((-102), S) else (if p1 ≤ 126 then (if (S.1 0 1) < 56 then ((ip_wI S 1 (S.1 0 1) p1).bind fun zS4 => some (((ip_upI zS4 0 1 ((zS4.1 0 1) + 1)).1 0 1), (ip_upI zS4 0 1 ((zS4.1 0 1) + 1)))) else some ((-104), S)) else some ((-102), S)))
set_option maxRecDepth 10000 in
theorem T_A_letter {p1 : Int32} {S : ip_St} {r : Int32} {S9 : ip_St} (h : f_A_letter p1 S = some (r, S9)) : ip_Me 0 [.ref 0, .int p1] S (some (.int r)) S9 := by
  unfold f_A_letter at h
  refine ⟨[some (.ref 0), some (.int p1)], rfl, ?_⟩
  refine ip_Ev.steps 2 (pc' := 2) (lv' := [some (.ref 0), some (.int p1)]) (st' := [.int 1, .int p1]) (S1 := S) rfl ?_
  refine ip_Ev.iff2 rfl rfl ip_cLt (fun zhc1 => ?_) (fun zhc1 => ?_)
  · rw [if_pos zhc1] at h
    refine ip_Ev.steps 1 (pc' := 13) (lv' := [some (.ref 0), some (.int p1)]) (st' := [.int (-102)]) (S1 := S) rfl ?_
    cases h
    exact ip_Ev.ret rfl
  · rw [if_neg zhc1] at h
    refine ip_Ev.steps 2 (pc' := 8) (lv' := [some (.ref 0), some (.int p1)]) (st' := [.int 126, .int p1]) (S1 := S) rfl ?_
    refine ip_Ev.iff2 rfl rfl ip_cLe (fun zhc2 => ?_) (fun zhc2 => ?_)
    · rw [if_pos zhc2] at h
      refine ip_Ev.steps 3 (pc' := 20) (lv' := [some (.ref 0), some (.int p1)]) (st' := [.int 56, .int (S.1 0 1)]) (S1 := S) rfl ?_
      refine ip_Ev.iff2 rfl rfl ip_cLt (fun zhc3 => ?_) (fun zhc3 => ?_)
      · rw [if_pos zhc3] at h
        refine ip_Ev.steps 5 (pc' := 35) (lv' := [some (.ref 0), some (.int p1)]) (st' := [.int p1, .int (S.1 0 1), .ref 1]) (S1 := S) rfl ?_
        obtain ⟨zS4, hzS4, h⟩ := ip_bind h
        refine ip_Ev.iast rfl hzS4 ?_
        refine ip_Ev.steps 8 (pc' := 50) (lv' := [some (.ref 0), some (.int p1)]) (st' := [.int ((ip_upI zS4 0 1 ((zS4.1 0 1) + 1)).1 0 1)]) (S1 := (ip_upI zS4 0 1 ((zS4.1 0 1) + 1))) rfl ?_
        cases h
        exact ip_Ev.ret rfl
      · rw [if_neg zhc3] at h
        refine ip_Ev.steps 1 (pc' := 25) (lv' := [some (.ref 0), some (.int p1)]) (st' := [.int (-104)]) (S1 := S) rfl ?_
        cases h
        exact ip_Ev.ret rfl
    · rw [if_neg zhc2] at h
      refine ip_Ev.steps 1 (pc' := 13) (lv' := [some (.ref 0), some (.int p1)]) (st' := [.int (-102)]) (S1 := S) rfl ?_
      cases h
      exact ip_Ev.ret rfl
-- M_in
def f_M_in (p0 : Int64) (p1 : Int64) (p2 : Int64) : Bool := (if p0 < p1 then false else (if p2 < p0 then false else true))
set_option maxRecDepth 10000 in
theorem T_M_in {p0 : Int64} {p1 : Int64} {p2 : Int64} {S : ip_St} {r : Bool} (h : f_M_in p0 p1 p2 = r) : ip_Me 101 [.long p0, .long p1, .long p2] S (some (.int (ip_b2i r))) S := by
  unfold f_M_in at h
  refine ⟨[some (.long p0), none, some (.long p1), none, some (.long p2), none], rfl, ?_⟩
  refine ip_Ev.steps 3 (pc' := 3) (lv' := [some (.long p0), none, some (.long p1), none, some (.long p2), none]) (st' := [.int (lg_cmp p0 p1)]) (S1 := S) rfl ?_
  refine ip_Ev.iff1 rfl rfl ip_lLt (fun zhc1 => ?_) (fun zhc1 => ?_)
  · rw [if_pos zhc1] at h
    refine ip_Ev.steps 1 (pc' := 18) (lv' := [some (.long p0), none, some (.long p1), none, some (.long p2), none]) (st' := [.int 0]) (S1 := S) rfl ?_
    cases h
    exact ip_Ev.retB (b := false) rfl rfl
  · rw [if_neg zhc1] at h
    refine ip_Ev.steps 3 (pc' := 10) (lv' := [some (.long p0), none, some (.long p1), none, some (.long p2), none]) (st' := [.int (lg_cmp p0 p2)]) (S1 := S) rfl ?_
    refine ip_Ev.iff1 rfl rfl ip_lGt (fun zhc2 => ?_) (fun zhc2 => ?_)
    · rw [if_pos zhc2] at h
      refine ip_Ev.steps 1 (pc' := 18) (lv' := [some (.long p0), none, some (.long p1), none, some (.long p2), none]) (st' := [.int 0]) (S1 := S) rfl ?_
      cases h
      exact ip_Ev.retB (b := false) rfl rfl
    · rw [if_neg zhc2] at h
      refine ip_Ev.steps 2 (pc' := 18) (lv' := [some (.long p0), none, some (.long p1), none, some (.long p2), none]) (st' := [.int 1]) (S1 := S) rfl ?_
      cases h
      exact ip_Ev.retB (b := true) rfl rfl
-- M_letter
def f_M_letter (p1 : Int32) (S : ip_St) : Option (Int32 × ip_St) := (if (f_M_in (Int32.toInt64 p1) 1 126) = true then (if (S.1 30 2) = 56 then some ((-104), S) else ((ip_wI S 32 (S.1 30 2) p1).bind fun zS3 => some (((ip_upI zS3 30 2 ((zS3.1 30 2) + 1)).1 30 2), (ip_upI zS3 30 2 ((zS3.1 30 2) + 1))))) else some ((-102), S))
set_option maxRecDepth 10000 in
theorem T_M_letter {p1 : Int32} {S : ip_St} {r : Int32} {S9 : ip_St} (h : f_M_letter p1 S = some (r, S9)) : ip_Me 102 [.ref 30, .int p1] S (some (.int r)) S9 := by
  unfold f_M_letter at h
  refine ⟨[some (.ref 30), some (.int p1)], rfl, ?_⟩
  refine ip_Ev.steps 4 (pc' := 6) (lv' := [some (.ref 30), some (.int p1)]) (st' := [.long 126, .long 1, .long (Int32.toInt64 p1)]) (S1 := S) rfl ?_
  refine ip_Ev.call (i := 101) (a := [.long (Int32.toInt64 p1), .long 1, .long 126]) (r := []) rfl (T_M_in rfl) ?_
  show ip_Ev 102 9 [some (.ref 30), some (.int p1)] [.int (ip_b2i (f_M_in (Int32.toInt64 p1) 1 126))] S _ _
  refine ip_Ev.iff1 rfl rfl ip_bNe (fun zhc1 => ?_) (fun zhc1 => ?_)
  · rw [if_pos zhc1] at h
    refine ip_Ev.steps 3 (pc' := 21) (lv' := [some (.ref 30), some (.int p1)]) (st' := [.int 56, .int (S.1 30 2)]) (S1 := S) rfl ?_
    refine ip_Ev.iff2 rfl rfl ip_cNe (fun zhc2 => ?_) (fun zhc2 => ?_)
    · rw [if_neg zhc2] at h
      refine ip_Ev.steps 5 (pc' := 36) (lv' := [some (.ref 30), some (.int p1)]) (st' := [.int p1, .int (S.1 30 2), .ref 32]) (S1 := S) rfl ?_
      obtain ⟨zS3, hzS3, h⟩ := ip_bind h
      refine ip_Ev.iast rfl hzS3 ?_
      refine ip_Ev.steps 8 (pc' := 51) (lv' := [some (.ref 30), some (.int p1)]) (st' := [.int ((ip_upI zS3 30 2 ((zS3.1 30 2) + 1)).1 30 2)]) (S1 := (ip_upI zS3 30 2 ((zS3.1 30 2) + 1))) rfl ?_
      cases h
      exact ip_Ev.ret rfl
    · rw [if_pos (Decidable.of_not_not zhc2)] at h
      refine ip_Ev.steps 1 (pc' := 26) (lv' := [some (.ref 30), some (.int p1)]) (st' := [.int (-104)]) (S1 := S) rfl ?_
      cases h
      exact ip_Ev.ret rfl
  · rw [if_neg zhc1] at h
    refine ip_Ev.steps 1 (pc' := 14) (lv' := [some (.ref 30), some (.int p1)]) (st' := [.int (-102)]) (S1 := S) rfl ?_
    cases h
    exact ip_Ev.ret rfl
-- A_blank
def f_A_blank  (S : ip_St) : Int32 × ip_St := ((S.1 0 1), (ip_upI S 0 1 0))
set_option maxRecDepth 10000 in
theorem T_A_blank  {S : ip_St} {r : Int32} {S9 : ip_St} (h : f_A_blank S = (r, S9)) : ip_Me 1 [.ref 0] S (some (.int r)) S9 := by
  unfold f_A_blank at h
  refine ⟨[some (.ref 0), none], rfl, ?_⟩
  refine ip_Ev.steps 7 (pc' := 11) (lv' := [some (.ref 0), some (.int (S.1 0 1))]) (st' := [.int (S.1 0 1)]) (S1 := (ip_upI S 0 1 0)) rfl ?_
  cases h
  exact ip_Ev.ret rfl
-- M_blank
def f_M_blank  (S : ip_St) : Int32 × ip_St := ((S.1 30 2), (ip_upI S 30 2 0))
set_option maxRecDepth 10000 in
theorem T_M_blank  {S : ip_St} {r : Int32} {S9 : ip_St} (h : f_M_blank S = (r, S9)) : ip_Me 103 [.ref 30] S (some (.int r)) S9 := by
  unfold f_M_blank at h
  refine ⟨[some (.ref 30), none], rfl, ?_⟩
  refine ip_Ev.steps 7 (pc' := 11) (lv' := [some (.ref 30), some (.int (S.1 30 2))]) (st' := [.int (S.1 30 2)]) (S1 := (ip_upI S 30 2 0)) rfl ?_
  cases h
  exact ip_Ev.ret rfl
-- L_clear_3
def f_L_clear_3  (S : ip_St) : ip_St := (ip_upI (ip_upI (ip_upI (ip_upI (ip_upL S 3 0 0) 3 1 0) 3 2 0) 3 3 0) 3 4 0)
set_option maxRecDepth 10000 in
theorem T_L_clear_3  {S : ip_St} {S9 : ip_St} (h : f_L_clear_3 S = S9) : ip_Me 2 [.ref 3] S none S9 := by
  unfold f_L_clear_3 at h
  refine ⟨[some (.ref 3)], rfl, ?_⟩
  refine ip_Ev.steps 12 (pc' := 20) (lv' := [some (.ref 3)]) (st' := []) (S1 := (ip_upI (ip_upI (ip_upI (ip_upL S 3 0 0) 3 1 0) 3 2 0) 3 3 0)) rfl ?_
  refine ip_Ev.steps 3 (pc' := 25) (lv' := [some (.ref 3)]) (st' := []) (S1 := (ip_upI (ip_upI (ip_upI (ip_upI (ip_upL S 3 0 0) 3 1 0) 3 2 0) 3 3 0) 3 4 0)) rfl ?_
  cases h
  exact ip_Ev.ret rfl
-- R_startTerm
def f_R_startTerm  (S : ip_St) : Option (ip_St) := ((ip_wL S 8 (S.1 2 9) (-1)).bind fun zS1 => some (ip_upI zS1 2 10 1))
set_option maxRecDepth 10000 in
theorem T_R_startTerm  {S : ip_St} {S9 : ip_St} (h : f_R_startTerm S = some S9) : ip_Me 3 [.ref 2] S none S9 := by
  unfold f_R_startTerm at h
  refine ⟨[some (.ref 2)], rfl, ?_⟩
  refine ip_Ev.steps 5 (pc' := 11) (lv' := [some (.ref 2)]) (st' := [.long (-1), .int (S.1 2 9), .ref 8]) (S1 := S) rfl ?_
  obtain ⟨zS1, hzS1, h⟩ := ip_bind h
  refine ip_Ev.last rfl hzS1 ?_
  refine ip_Ev.steps 3 (pc' := 17) (lv' := [some (.ref 2)]) (st' := []) (S1 := (ip_upI zS1 2 10 1)) rfl ?_
  cases h
  exact ip_Ev.ret rfl
-- R_startLaw
def f_R_startLaw  (S : ip_St) : Option (ip_St) := ((ip_wL S 7 (S.1 2 9) 0).bind fun zS1 => ((f_R_startTerm zS1).bind fun zS3 => some zS3))
set_option maxRecDepth 10000 in
theorem T_R_startLaw  {S : ip_St} {S9 : ip_St} (h : f_R_startLaw S = some S9) : ip_Me 4 [.ref 2] S none S9 := by
  unfold f_R_startLaw at h
  refine ⟨[some (.ref 2)], rfl, ?_⟩
  refine ip_Ev.steps 5 (pc' := 9) (lv' := [some (.ref 2)]) (st' := [.long 0, .int (S.1 2 9), .ref 7]) (S1 := S) rfl ?_
  obtain ⟨zS1, hzS1, h⟩ := ip_bind h
  refine ip_Ev.last rfl hzS1 ?_
  refine ip_Ev.steps 1 (pc' := 11) (lv' := [some (.ref 2)]) (st' := [.ref 2]) (S1 := zS1) rfl ?_
  obtain ⟨zS3, hzq2, h⟩ := ip_bind h
  refine ip_Ev.call (i := 3) (a := [.ref 2]) (r := []) rfl (T_R_startTerm hzq2) ?_
  show ip_Ev 4 14 [some (.ref 2)] [] zS3 _ _
  cases h
  exact ip_Ev.ret rfl
-- R_start
def f_R_start  (S : ip_St) : Option (ip_St) := ((ip_wI (ip_upI (f_L_clear_3 S) 2 9 0) 4 0 0).bind fun zS1 => ((ip_wZ zS1 6 0 0).bind fun zS2 => ((f_R_startLaw zS2).bind fun zS4 => some (ip_upI (ip_upI zS4 2 11 0) 2 12 0))))
set_option maxRecDepth 10000 in
theorem T_R_start  {S : ip_St} {S9 : ip_St} (h : f_R_start S = some S9) : ip_Me 5 [.ref 2] S none S9 := by
  unfold f_R_start at h
  refine ⟨[some (.ref 2)], rfl, ?_⟩
  refine ip_Ev.steps 2 (pc' := 4) (lv' := [some (.ref 2)]) (st' := [.ref 3]) (S1 := S) rfl ?_
  refine ip_Ev.call (i := 2) (a := [.ref 3]) (r := []) rfl (T_L_clear_3 rfl) ?_
  show ip_Ev 5 7 [some (.ref 2)] [] (f_L_clear_3 S) _ _
  refine ip_Ev.steps 7 (pc' := 18) (lv' := [some (.ref 2)]) (st' := [.int 0, .int 0, .ref 4]) (S1 := (ip_upI (f_L_clear_3 S) 2 9 0)) rfl ?_
  obtain ⟨zS1, hzS1, h⟩ := ip_bind h
  refine ip_Ev.iast rfl hzS1 ?_
  refine ip_Ev.steps 4 (pc' := 25) (lv' := [some (.ref 2)]) (st' := [.int 0, .int 0, .ref 6]) (S1 := zS1) rfl ?_
  obtain ⟨zS2, hzS2, h⟩ := ip_bind h
  refine ip_Ev.zast rfl hzS2 ?_
  refine ip_Ev.steps 1 (pc' := 27) (lv' := [some (.ref 2)]) (st' := [.ref 2]) (S1 := zS2) rfl ?_
  obtain ⟨zS4, hzq3, h⟩ := ip_bind h
  refine ip_Ev.call (i := 4) (a := [.ref 2]) (r := []) rfl (T_R_startLaw hzq3) ?_
  show ip_Ev 5 30 [some (.ref 2)] [] zS4 _ _
  refine ip_Ev.steps 6 (pc' := 40) (lv' := [some (.ref 2)]) (st' := []) (S1 := (ip_upI (ip_upI zS4 2 11 0) 2 12 0)) rfl ?_
  cases h
  exact ip_Ev.ret rfl
-- R_openLevel
def f_R_openLevel (p1 : Int32) (S : ip_St) : Option (Bool × ip_St) := (if ((S.1 2 9) + 1) < 57 then ((ip_wI (ip_upI (ip_upI S 2 9 ((S.1 2 9) + 1)) 3 4 (if ((ip_upI S 2 9 ((S.1 2 9) + 1)).1 3 4) < ((ip_upI S 2 9 ((S.1 2 9) + 1)).1 2 9) then ((ip_upI S 2 9 ((S.1 2 9) + 1)).1 2 9) else ((ip_upI S 2 9 ((S.1 2 9) + 1)).1 3 4))) 4 ((ip_upI (ip_upI S 2 9 ((S.1 2 9) + 1)) 3 4 (if ((ip_upI S 2 9 ((S.1 2 9) + 1)).1 3 4) < ((ip_upI S 2 9 ((S.1 2 9) + 1)).1 2 9) then ((ip_upI S 2 9 ((S.1 2 9) + 1)).1 2 9) else ((ip_upI S 2 9 ((S.1 2 9) + 1)).1 3 4))).1 2 9) p1).bind fun zS2 => ((ip_wI zS2 5 (zS2.1 2 9) (zS2.1 2 12)).bind fun zS3 => ((ip_wZ zS3 6 (zS3.1 2 9) (zS3.1 2 11)).bind fun zS4 => ((ip_wL zS4 9 (zS4.1 2 9) 0).bind fun zS5 => ((ip_wL zS5 10 (zS5.1 2 9) 0).bind fun zS6 => ((ip_wL zS6 11 (zS6.1 2 9) 0).bind fun zS7 => ((f_R_startLaw (ip_upI (ip_upI zS7 2 12 0) 2 11 0)).bind fun zS9 => some (true, zS9)))))))) else some (false, S))
set_option maxRecDepth 10000 in
theorem T_R_openLevel {p1 : Int32} {S : ip_St} {r : Bool} {S9 : ip_St} (h : f_R_openLevel p1 S = some (r, S9)) : ip_Me 7 [.ref 2, .int p1] S (some (.int (ip_b2i r))) S9 := by
  unfold f_R_openLevel at h
  refine ⟨[some (.ref 2), some (.int p1)], rfl, ?_⟩
  refine ip_Ev.steps 5 (pc' := 8) (lv' := [some (.ref 2), some (.int p1)]) (st' := [.int 57, .int ((S.1 2 9) + 1)]) (S1 := S) rfl ?_
  refine ip_Ev.iff2 rfl rfl ip_cLt (fun zhc1 => ?_) (fun zhc1 => ?_)
  · rw [if_pos zhc1] at h
    refine ip_Ev.steps 12 (pc' := 35) (lv' := [some (.ref 2), some (.int p1)]) (st' := [.ref 2, .int ((ip_upI S 2 9 ((S.1 2 9) + 1)).1 3 4), .ref 3]) (S1 := (ip_upI S 2 9 ((S.1 2 9) + 1))) rfl ?_
    refine ip_Ev.steps 8 (pc' := 53) (lv' := [some (.ref 2), some (.int p1)]) (st' := [.int p1, .int ((ip_upI (ip_upI S 2 9 ((S.1 2 9) + 1)) 3 4 (if ((ip_upI S 2 9 ((S.1 2 9) + 1)).1 3 4) < ((ip_upI S 2 9 ((S.1 2 9) + 1)).1 2 9) then ((ip_upI S 2 9 ((S.1 2 9) + 1)).1 2 9) else ((ip_upI S 2 9 ((S.1 2 9) + 1)).1 3 4))).1 2 9), .ref 4]) (S1 := (ip_upI (ip_upI S 2 9 ((S.1 2 9) + 1)) 3 4 (if ((ip_upI S 2 9 ((S.1 2 9) + 1)).1 3 4) < ((ip_upI S 2 9 ((S.1 2 9) + 1)).1 2 9) then ((ip_upI S 2 9 ((S.1 2 9) + 1)).1 2 9) else ((ip_upI S 2 9 ((S.1 2 9) + 1)).1 3 4)))) rfl ?_
    obtain ⟨zS2, hzS2, h⟩ := ip_bind h
    refine ip_Ev.iast rfl hzS2 ?_
    refine ip_Ev.steps 6 (pc' := 66) (lv' := [some (.ref 2), some (.int p1)]) (st' := [.int (zS2.1 2 12), .int (zS2.1 2 9), .ref 5]) (S1 := zS2) rfl ?_
    obtain ⟨zS3, hzS3, h⟩ := ip_bind h
    refine ip_Ev.iast rfl hzS3 ?_
    refine ip_Ev.steps 6 (pc' := 79) (lv' := [some (.ref 2), some (.int p1)]) (st' := [.int (zS3.1 2 11), .int (zS3.1 2 9), .ref 6]) (S1 := zS3) rfl ?_
    obtain ⟨zS4, hzS4, h⟩ := ip_bind h
    refine ip_Ev.zast rfl hzS4 ?_
    refine ip_Ev.steps 5 (pc' := 89) (lv' := [some (.ref 2), some (.int p1)]) (st' := [.long 0, .int (zS4.1 2 9), .ref 9]) (S1 := zS4) rfl ?_
    obtain ⟨zS5, hzS5, h⟩ := ip_bind h
    refine ip_Ev.last rfl hzS5 ?_
    refine ip_Ev.steps 5 (pc' := 99) (lv' := [some (.ref 2), some (.int p1)]) (st' := [.long 0, .int (zS5.1 2 9), .ref 10]) (S1 := zS5) rfl ?_
    obtain ⟨zS6, hzS6, h⟩ := ip_bind h
    refine ip_Ev.last rfl hzS6 ?_
    refine ip_Ev.steps 5 (pc' := 109) (lv' := [some (.ref 2), some (.int p1)]) (st' := [.long 0, .int (zS6.1 2 9), .ref 11]) (S1 := zS6) rfl ?_
    obtain ⟨zS7, hzS7, h⟩ := ip_bind h
    refine ip_Ev.last rfl hzS7 ?_
    refine ip_Ev.steps 7 (pc' := 121) (lv' := [some (.ref 2), some (.int p1)]) (st' := [.ref 2]) (S1 := (ip_upI (ip_upI zS7 2 12 0) 2 11 0)) rfl ?_
    obtain ⟨zS9, hzq8, h⟩ := ip_bind h
    refine ip_Ev.call (i := 4) (a := [.ref 2]) (r := []) rfl (T_R_startLaw hzq8) ?_
    show ip_Ev 7 124 [some (.ref 2), some (.int p1)] [] zS9 _ _
    refine ip_Ev.steps 1 (pc' := 125) (lv' := [some (.ref 2), some (.int p1)]) (st' := [.int 1]) (S1 := zS9) rfl ?_
    cases h
    exact ip_Ev.retB (b := true) rfl rfl
  · rw [if_neg zhc1] at h
    refine ip_Ev.steps 1 (pc' := 12) (lv' := [some (.ref 2), some (.int p1)]) (st' := [.int 0]) (S1 := S) rfl ?_
    cases h
    exact ip_Ev.retB (b := false) rfl rfl
-- R_endPart
def f_R_endPart_26 (s1 : Int32) (s2 : Int64) (s3 : Int64) (S : ip_St) : Option (ip_St) := ((ip_wL S 8 s1 (s2 &&& s3)).bind fun zS1 => some (ip_upI (ip_upI zS1 2 11 0) 2 10 0))
set_option maxRecDepth 10000 in
theorem E_R_endPart_26 {s1 : Int32} {s2 : Int64} {s3 : Int64} {S : ip_St} {S9 : ip_St} {d1 : Option Value} {d2 : Option Value} (h : f_R_endPart_26 s1 s2 s3 S = some S9) : ip_Ev 8 26 [some (.ref 2), d1, d2] [.long s3, .long s2, .int s1, .ref 8] S none S9 := by
  unfold f_R_endPart_26 at h
  refine ip_Ev.steps 1 (pc' := 27) (lv' := [some (.ref 2), d1, d2]) (st' := [.long (s2 &&& s3), .int s1, .ref 8]) (S1 := S) rfl ?_
  obtain ⟨zS1, hzS1, h⟩ := ip_bind h
  refine ip_Ev.last rfl hzS1 ?_
  refine ip_Ev.steps 6 (pc' := 38) (lv' := [some (.ref 2), d1, d2]) (st' := []) (S1 := (ip_upI (ip_upI zS1 2 11 0) 2 10 0)) rfl ?_
  cases h
  exact ip_Ev.ret rfl
def f_R_endPart (p1 : Int64) (S : ip_St) : Option (ip_St) := ((ip_aL S 8 (S.1 2 9)).bind fun zv1 => (if (S.1 2 11) = 0 then (f_R_endPart_26 (S.1 2 9) zv1 p1 S) else (f_R_endPart_26 (S.1 2 9) zv1 (p1 ^^^ (-1)) S)))
set_option maxRecDepth 10000 in
theorem T_R_endPart {p1 : Int64} {S : ip_St} {S9 : ip_St} (h : f_R_endPart p1 S = some S9) : ip_Me 8 [.ref 2, .long p1] S none S9 := by
  unfold f_R_endPart at h
  refine ⟨[some (.ref 2), some (.long p1), none], rfl, ?_⟩
  refine ip_Ev.steps 5 (pc' := 9) (lv' := [some (.ref 2), some (.long p1), none]) (st' := [.int (S.1 2 9), .ref 8, .int (S.1 2 9), .ref 8]) (S1 := S) rfl ?_
  obtain ⟨zv1, hzv1, h⟩ := ip_bind h
  refine ip_Ev.lald rfl hzv1 ?_
  refine ip_Ev.steps 2 (pc' := 14) (lv' := [some (.ref 2), some (.long p1), none]) (st' := [.int (S.1 2 11), .long zv1, .int (S.1 2 9), .ref 8]) (S1 := S) rfl ?_
  refine ip_Ev.iff1 rfl rfl ip_cEq (fun zhc2 => ?_) (fun zhc2 => ?_)
  · rw [if_pos zhc2] at h
    refine ip_Ev.steps 1 (pc' := 26) (lv' := [some (.ref 2), some (.long p1), none]) (st' := [.long p1, .long zv1, .int (S.1 2 9), .ref 8]) (S1 := S) rfl ?_
    exact E_R_endPart_26 h
  · rw [if_neg zhc2] at h
    refine ip_Ev.steps 4 (pc' := 26) (lv' := [some (.ref 2), some (.long p1), none]) (st' := [.long (p1 ^^^ (-1)), .long zv1, .int (S.1 2 9), .ref 8]) (S1 := S) rfl ?_
    exact E_R_endPart_26 h
-- R_acceptInPart
def f_R_acceptInPart_111 (x1 : Int32) (S : ip_St) : Option (Bool × ip_St) := (if x1 = 40 then ((f_R_openLevel 1 S).bind fun zq2 => (if zq2.1 = false then some (false, zq2.2) else some (true, zq2.2))) else some (false, S))
set_option maxRecDepth 10000 in
theorem E_R_acceptInPart_111 {x1 : Int32} {S : ip_St} {r : Bool} {S9 : ip_St} (h : f_R_acceptInPart_111 x1 S = some (r, S9)) : ip_Ev 9 111 [some (.ref 2), some (.int x1)] [] S (some (.int (ip_b2i r))) S9 := by
  unfold f_R_acceptInPart_111 at h
  refine ip_Ev.steps 2 (pc' := 114) (lv' := [some (.ref 2), some (.int x1)]) (st' := [.int 40, .int x1]) (S1 := S) rfl ?_
  refine ip_Ev.iff2 rfl rfl ip_cNe (fun zhc1 => ?_) (fun zhc1 => ?_)
  · rw [if_neg zhc1] at h
    refine ip_Ev.steps 1 (pc' := 130) (lv' := [some (.ref 2), some (.int x1)]) (st' := [.int 0]) (S1 := S) rfl ?_
    cases h
    exact ip_Ev.retB (b := false) rfl rfl
  · rw [if_pos (Decidable.of_not_not zhc1)] at h
    refine ip_Ev.steps 2 (pc' := 119) (lv' := [some (.ref 2), some (.int x1)]) (st' := [.int 1, .ref 2]) (S1 := S) rfl ?_
    obtain ⟨⟨zv3, zS4⟩, hzq2, h⟩ := ip_bind h
    dsimp only at h
    refine ip_Ev.call (i := 7) (a := [.ref 2, .int 1]) (r := []) rfl (T_R_openLevel hzq2) ?_
    show ip_Ev 9 122 [some (.ref 2), some (.int x1)] [.int (ip_b2i zv3)] zS4 _ _
    refine ip_Ev.iff1 rfl rfl ip_bEq (fun zhc5 => ?_) (fun zhc5 => ?_)
    · rw [if_pos zhc5] at h
      refine ip_Ev.steps 1 (pc' := 130) (lv' := [some (.ref 2), some (.int x1)]) (st' := [.int 0]) (S1 := zS4) rfl ?_
      cases h
      exact ip_Ev.retB (b := false) rfl rfl
    · rw [if_neg zhc5] at h
      refine ip_Ev.steps 2 (pc' := 130) (lv' := [some (.ref 2), some (.int x1)]) (st' := [.int 1]) (S1 := zS4) rfl ?_
      cases h
      exact ip_Ev.retB (b := true) rfl rfl
def f_R_acceptInPart_71 (s1 : Int32) (S : ip_St) : Option (Bool × ip_St) := (cond (ip_isB s1) (some (true, (ip_upI S 2 11 s1))) none)
set_option maxRecDepth 10000 in
theorem E_R_acceptInPart_71 {s1 : Int32} {S : ip_St} {r : Bool} {S9 : ip_St} {d0 : Option Value} {d1 : Option Value} (h : f_R_acceptInPart_71 s1 S = some (r, S9)) : ip_Ev 9 71 [d0, d1] [.int s1, .ref 2] S (some (.int (ip_b2i r))) S9 := by
  unfold f_R_acceptInPart_71 at h
  have zhb1 : ip_isB s1 = true := by
    cases hz : ip_isB s1 with
    | true => rfl
    | false => rw [hz] at h; cases h
  rw [zhb1] at h
  dsimp only [cond] at h
  refine ip_Ev.pfZ rfl rfl rfl rfl zhb1 ?_
  refine ip_Ev.steps 1 (pc' := 75) (lv' := [d0, d1]) (st' := [.int 1]) (S1 := (ip_upI S 2 11 s1)) rfl ?_
  cases h
  exact ip_Ev.retB (b := true) rfl rfl
def f_R_acceptInPart_39 (x1 : Int32) (S : ip_St) : Option (Bool × ip_St) := (if x1 = 33 then (if ((ip_upI S 3 2 ((S.1 3 2) + 1)).1 2 11) = 0 then (f_R_acceptInPart_71 1 (ip_upI S 3 2 ((S.1 3 2) + 1))) else (f_R_acceptInPart_71 0 (ip_upI S 3 2 ((S.1 3 2) + 1)))) else (if x1 < 49 then (f_R_acceptInPart_111 x1 S) else (if 51 < x1 then (f_R_acceptInPart_111 x1 S) else some (true, (ip_upI (ip_upI S 3 3 ((S.1 3 3) + 1)) 2 12 (x1 - 48))))))
set_option maxRecDepth 10000 in
theorem E_R_acceptInPart_39 {x1 : Int32} {S : ip_St} {r : Bool} {S9 : ip_St} (h : f_R_acceptInPart_39 x1 S = some (r, S9)) : ip_Ev 9 39 [some (.ref 2), some (.int x1)] [] S (some (.int (ip_b2i r))) S9 := by
  unfold f_R_acceptInPart_39 at h
  refine ip_Ev.steps 2 (pc' := 42) (lv' := [some (.ref 2), some (.int x1)]) (st' := [.int 33, .int x1]) (S1 := S) rfl ?_
  refine ip_Ev.iff2 rfl rfl ip_cNe (fun zhc1 => ?_) (fun zhc1 => ?_)
  · rw [if_neg zhc1] at h
    refine ip_Ev.steps 2 (pc' := 79) (lv' := [some (.ref 2), some (.int x1)]) (st' := [.int 49, .int x1]) (S1 := S) rfl ?_
    refine ip_Ev.iff2 rfl rfl ip_cLt (fun zhc2 => ?_) (fun zhc2 => ?_)
    · rw [if_pos zhc2] at h
      exact E_R_acceptInPart_111 h
    · rw [if_neg zhc2] at h
      refine ip_Ev.steps 2 (pc' := 85) (lv' := [some (.ref 2), some (.int x1)]) (st' := [.int 51, .int x1]) (S1 := S) rfl ?_
      refine ip_Ev.iff2 rfl rfl ip_cGt (fun zhc3 => ?_) (fun zhc3 => ?_)
      · rw [if_pos zhc3] at h
        exact E_R_acceptInPart_111 h
      · rw [if_neg zhc3] at h
        refine ip_Ev.steps 12 (pc' := 109) (lv' := [some (.ref 2), some (.int x1)]) (st' := []) (S1 := (ip_upI (ip_upI S 3 3 ((S.1 3 3) + 1)) 2 12 (x1 - 48))) rfl ?_
        refine ip_Ev.steps 1 (pc' := 110) (lv' := [some (.ref 2), some (.int x1)]) (st' := [.int 1]) (S1 := (ip_upI (ip_upI S 3 3 ((S.1 3 3) + 1)) 2 12 (x1 - 48))) rfl ?_
        cases h
        exact ip_Ev.retB (b := true) rfl rfl
  · rw [if_pos (Decidable.of_not_not zhc1)] at h
    refine ip_Ev.steps 10 (pc' := 63) (lv' := [some (.ref 2), some (.int x1)]) (st' := [.int ((ip_upI S 3 2 ((S.1 3 2) + 1)).1 2 11), .ref 2]) (S1 := (ip_upI S 3 2 ((S.1 3 2) + 1))) rfl ?_
    refine ip_Ev.iff1 rfl rfl ip_cNe (fun zhc4 => ?_) (fun zhc4 => ?_)
    · rw [if_neg zhc4] at h
      refine ip_Ev.steps 1 (pc' := 71) (lv' := [some (.ref 2), some (.int x1)]) (st' := [.int 0, .ref 2]) (S1 := (ip_upI S 3 2 ((S.1 3 2) + 1))) rfl ?_
      exact E_R_acceptInPart_71 h
    · rw [if_pos (Decidable.of_not_not zhc4)] at h
      refine ip_Ev.steps 2 (pc' := 71) (lv' := [some (.ref 2), some (.int x1)]) (st' := [.int 1, .ref 2]) (S1 := (ip_upI S 3 2 ((S.1 3 2) + 1))) rfl ?_
      exact E_R_acceptInPart_71 h
def f_R_acceptInPart (p1 : Int32) (S : ip_St) : Option (Bool × ip_St) := (if p1 < 97 then (f_R_acceptInPart_39 p1 S) else (if 102 < p1 then (f_R_acceptInPart_39 p1 S) else ((ip_cL (p1 - 97)).bind fun zv3 => ((f_R_endPart zv3 (ip_upI S 3 1 ((S.1 3 1) + 1))).bind fun zS5 => some (true, zS5)))))
set_option maxRecDepth 10000 in
theorem T_R_acceptInPart {p1 : Int32} {S : ip_St} {r : Bool} {S9 : ip_St} (h : f_R_acceptInPart p1 S = some (r, S9)) : ip_Me 9 [.ref 2, .int p1] S (some (.int (ip_b2i r))) S9 := by
  unfold f_R_acceptInPart at h
  refine ⟨[some (.ref 2), some (.int p1)], rfl, ?_⟩
  refine ip_Ev.steps 2 (pc' := 3) (lv' := [some (.ref 2), some (.int p1)]) (st' := [.int 97, .int p1]) (S1 := S) rfl ?_
  refine ip_Ev.iff2 rfl rfl ip_cLt (fun zhc1 => ?_) (fun zhc1 => ?_)
  · rw [if_pos zhc1] at h
    exact E_R_acceptInPart_39 h
  · rw [if_neg zhc1] at h
    refine ip_Ev.steps 2 (pc' := 9) (lv' := [some (.ref 2), some (.int p1)]) (st' := [.int 102, .int p1]) (S1 := S) rfl ?_
    refine ip_Ev.iff2 rfl rfl ip_cGt (fun zhc2 => ?_) (fun zhc2 => ?_)
    · rw [if_pos zhc2] at h
      exact E_R_acceptInPart_39 h
    · rw [if_neg zhc2] at h
      refine ip_Ev.steps 12 (pc' := 33) (lv' := [some (.ref 2), some (.int p1)]) (st' := [.int (p1 - 97), .ref 55, .ref 2]) (S1 := (ip_upI S 3 1 ((S.1 3 1) + 1))) rfl ?_
      obtain ⟨zv3, hzv3, h⟩ := ip_bind h
      refine ip_Ev.lald rfl hzv3 ?_
      obtain ⟨zS5, hzq4, h⟩ := ip_bind h
      refine ip_Ev.call (i := 8) (a := [.ref 2, .long zv3]) (r := []) rfl (T_R_endPart hzq4) ?_
      show ip_Ev 9 37 [some (.ref 2), some (.int p1)] [] zS5 _ _
      refine ip_Ev.steps 1 (pc' := 38) (lv' := [some (.ref 2), some (.int p1)]) (st' := [.int 1]) (S1 := zS5) rfl ?_
      cases h
      exact ip_Ev.retB (b := true) rfl rfl
-- R_lawSoFar
def f_R_lawSoFar  (S : ip_St) : Option (Int64) := ((ip_aL S 7 (S.1 2 9)).bind fun zv1 => ((ip_aL S 8 (S.1 2 9)).bind fun zv2 => some (zv1 ||| zv2)))
set_option maxRecDepth 10000 in
theorem T_R_lawSoFar  {S : ip_St} {r : Int64} (h : f_R_lawSoFar S = some r) : ip_Me 10 [.ref 2] S (some (.long r)) S := by
  unfold f_R_lawSoFar at h
  refine ⟨[some (.ref 2)], rfl, ?_⟩
  refine ip_Ev.steps 4 (pc' := 8) (lv' := [some (.ref 2)]) (st' := [.int (S.1 2 9), .ref 7]) (S1 := S) rfl ?_
  obtain ⟨zv1, hzv1, h⟩ := ip_bind h
  refine ip_Ev.lald rfl hzv1 ?_
  refine ip_Ev.steps 4 (pc' := 17) (lv' := [some (.ref 2)]) (st' := [.int (S.1 2 9), .ref 8, .long zv1]) (S1 := S) rfl ?_
  obtain ⟨zv2, hzv2, h⟩ := ip_bind h
  refine ip_Ev.lald rfl hzv2 ?_
  refine ip_Ev.steps 1 (pc' := 19) (lv' := [some (.ref 2)]) (st' := [.long (zv1 ||| zv2)]) (S1 := S) rfl ?_
  cases h
  exact ip_Ev.ret rfl
-- R_endLawOfList
def f_R_endLawOfList  (S : ip_St) : Option (Bool × ip_St) := ((f_R_lawSoFar S).bind fun zv2 => ((ip_aL S 11 (S.1 2 9)).bind fun zv3 => ((ip_aL S 10 (S.1 2 9)).bind fun zv4 => ((ip_wL S 11 (S.1 2 9) (zv3 ||| (zv4 &&& zv2))).bind fun zS5 => ((ip_aL zS5 10 (zS5.1 2 9)).bind fun zv6 => ((ip_aL zS5 9 (zS5.1 2 9)).bind fun zv7 => ((ip_wL zS5 10 (zS5.1 2 9) (zv6 ||| (zv7 &&& zv2))).bind fun zS8 => ((ip_aL zS8 9 (zS8.1 2 9)).bind fun zv9 => ((ip_wL zS8 9 (zS8.1 2 9) (zv9 ||| zv2)).bind fun zS10 => ((f_R_startLaw zS10).bind fun zS12 => some (true, zS12)))))))))))
set_option maxRecDepth 10000 in
theorem T_R_endLawOfList  {S : ip_St} {r : Bool} {S9 : ip_St} (h : f_R_endLawOfList S = some (r, S9)) : ip_Me 11 [.ref 2] S (some (.int (ip_b2i r))) S9 := by
  unfold f_R_endLawOfList at h
  refine ⟨[some (.ref 2), none, none], rfl, ?_⟩
  refine ip_Ev.steps 1 (pc' := 1) (lv' := [some (.ref 2), none, none]) (st' := [.ref 2]) (S1 := S) rfl ?_
  obtain ⟨zv2, hzq1, h⟩ := ip_bind h
  refine ip_Ev.call (i := 10) (a := [.ref 2]) (r := []) rfl (T_R_lawSoFar hzq1) ?_
  show ip_Ev 11 4 [some (.ref 2), none, none] [.long zv2] S _ _
  refine ip_Ev.steps 6 (pc' := 14) (lv' := [some (.ref 2), some (.long zv2), none]) (st' := [.int (S.1 2 9), .ref 11, .int (S.1 2 9), .ref 11]) (S1 := S) rfl ?_
  obtain ⟨zv3, hzv3, h⟩ := ip_bind h
  refine ip_Ev.lald rfl hzv3 ?_
  refine ip_Ev.steps 4 (pc' := 23) (lv' := [some (.ref 2), some (.long zv2), none]) (st' := [.int (S.1 2 9), .ref 10, .long zv3, .int (S.1 2 9), .ref 11]) (S1 := S) rfl ?_
  obtain ⟨zv4, hzv4, h⟩ := ip_bind h
  refine ip_Ev.lald rfl hzv4 ?_
  refine ip_Ev.steps 3 (pc' := 27) (lv' := [some (.ref 2), some (.long zv2), none]) (st' := [.long (zv3 ||| (zv4 &&& zv2)), .int (S.1 2 9), .ref 11]) (S1 := S) rfl ?_
  obtain ⟨zS5, hzS5, h⟩ := ip_bind h
  refine ip_Ev.last rfl hzS5 ?_
  refine ip_Ev.steps 5 (pc' := 37) (lv' := [some (.ref 2), some (.long zv2), none]) (st' := [.int (zS5.1 2 9), .ref 10, .int (zS5.1 2 9), .ref 10]) (S1 := zS5) rfl ?_
  obtain ⟨zv6, hzv6, h⟩ := ip_bind h
  refine ip_Ev.lald rfl hzv6 ?_
  refine ip_Ev.steps 4 (pc' := 46) (lv' := [some (.ref 2), some (.long zv2), none]) (st' := [.int (zS5.1 2 9), .ref 9, .long zv6, .int (zS5.1 2 9), .ref 10]) (S1 := zS5) rfl ?_
  obtain ⟨zv7, hzv7, h⟩ := ip_bind h
  refine ip_Ev.lald rfl hzv7 ?_
  refine ip_Ev.steps 3 (pc' := 50) (lv' := [some (.ref 2), some (.long zv2), none]) (st' := [.long (zv6 ||| (zv7 &&& zv2)), .int (zS5.1 2 9), .ref 10]) (S1 := zS5) rfl ?_
  obtain ⟨zS8, hzS8, h⟩ := ip_bind h
  refine ip_Ev.last rfl hzS8 ?_
  refine ip_Ev.steps 5 (pc' := 60) (lv' := [some (.ref 2), some (.long zv2), none]) (st' := [.int (zS8.1 2 9), .ref 9, .int (zS8.1 2 9), .ref 9]) (S1 := zS8) rfl ?_
  obtain ⟨zv9, hzv9, h⟩ := ip_bind h
  refine ip_Ev.lald rfl hzv9 ?_
  refine ip_Ev.steps 2 (pc' := 63) (lv' := [some (.ref 2), some (.long zv2), none]) (st' := [.long (zv9 ||| zv2), .int (zS8.1 2 9), .ref 9]) (S1 := zS8) rfl ?_
  obtain ⟨zS10, hzS10, h⟩ := ip_bind h
  refine ip_Ev.last rfl hzS10 ?_
  refine ip_Ev.steps 1 (pc' := 65) (lv' := [some (.ref 2), some (.long zv2), none]) (st' := [.ref 2]) (S1 := zS10) rfl ?_
  obtain ⟨zS12, hzq11, h⟩ := ip_bind h
  refine ip_Ev.call (i := 4) (a := [.ref 2]) (r := []) rfl (T_R_startLaw hzq11) ?_
  show ip_Ev 11 68 [some (.ref 2), some (.long zv2), none] [] zS12 _ _
  refine ip_Ev.steps 1 (pc' := 69) (lv' := [some (.ref 2), some (.long zv2), none]) (st' := [.int 1]) (S1 := zS12) rfl ?_
  cases h
  exact ip_Ev.retB (b := true) rfl rfl
-- R_listSoFar
def f_R_listSoFar  (S : ip_St) : Option (Int64) := ((ip_aI S 5 (S.1 2 9)).bind fun zv1 => (if zv1 = 1 then ((ip_aL S 9 (S.1 2 9)).bind fun zv3 => some zv3) else (if zv1 = 2 then ((ip_aL S 10 (S.1 2 9)).bind fun zv4 => some zv4) else ((ip_aL S 11 (S.1 2 9)).bind fun zv5 => some zv5))))
set_option maxRecDepth 10000 in
theorem T_R_listSoFar  {S : ip_St} {r : Int64} (h : f_R_listSoFar S = some r) : ip_Me 13 [.ref 2] S (some (.long r)) S := by
  unfold f_R_listSoFar at h
  refine ⟨[some (.ref 2)], rfl, ?_⟩
  refine ip_Ev.steps 4 (pc' := 8) (lv' := [some (.ref 2)]) (st' := [.int (S.1 2 9), .ref 5]) (S1 := S) rfl ?_
  obtain ⟨zv1, hzv1, h⟩ := ip_bind h
  refine ip_Ev.iald rfl hzv1 ?_
  by_cases zhs2_0 : zv1 = 1
  · rw [if_pos zhs2_0] at h
    refine ip_Ev.lsw (off := 27) rfl rfl (by rw [zhs2_0]; rfl) rfl ?_
    refine ip_Ev.steps 4 (pc' := 44) (lv' := [some (.ref 2)]) (st' := [.int (S.1 2 9), .ref 9]) (S1 := S) rfl ?_
    obtain ⟨zv3, hzv3, h⟩ := ip_bind h
    refine ip_Ev.lald rfl hzv3 ?_
    cases h
    exact ip_Ev.ret rfl
  rw [if_neg zhs2_0] at h
  by_cases zhs2_1 : zv1 = 2
  · rw [if_pos zhs2_1] at h
    refine ip_Ev.lsw (off := 37) rfl rfl (by rw [zhs2_1]; rfl) rfl ?_
    refine ip_Ev.steps 4 (pc' := 54) (lv' := [some (.ref 2)]) (st' := [.int (S.1 2 9), .ref 10]) (S1 := S) rfl ?_
    obtain ⟨zv4, hzv4, h⟩ := ip_bind h
    refine ip_Ev.lald rfl hzv4 ?_
    cases h
    exact ip_Ev.ret rfl
  rw [if_neg zhs2_1] at h
  have zhs2_0n : ¬ Int32.toInt zv1 = 1 := fun q => zhs2_0 (Int32.toInt_inj.mp q)
  have zhs2_1n : ¬ Int32.toInt zv1 = 2 := fun q => zhs2_1 (Int32.toInt_inj.mp q)
  refine ip_Ev.lsw (off := 47) rfl rfl (by simp only [Op.lookupswitch.offset]; rw [if_neg (fun q => zhs2_0n q.symm)]; rw [if_neg (fun q => zhs2_1n q.symm)]) rfl ?_
  refine ip_Ev.steps 4 (pc' := 64) (lv' := [some (.ref 2)]) (st' := [.int (S.1 2 9), .ref 11]) (S1 := S) rfl ?_
  obtain ⟨zv5, hzv5, h⟩ := ip_bind h
  refine ip_Ev.lald rfl hzv5 ?_
  cases h
  exact ip_Ev.ret rfl
-- R_closeLevel
def f_R_closeLevel (p1 : Int64) (S : ip_St) : Option (Bool × ip_St) := (if 0 < (S.1 2 9) then ((ip_aZ S 6 (S.1 2 9)).bind fun zv2 => (cond (ip_isB zv2) (((f_R_endPart p1 (ip_upI (ip_upI S 2 11 zv2) 2 9 (((ip_upI S 2 11 zv2).1 2 9) - 1))).bind fun zS5 => some (true, zS5))) none)) else some (false, S))
set_option maxRecDepth 10000 in
theorem T_R_closeLevel {p1 : Int64} {S : ip_St} {r : Bool} {S9 : ip_St} (h : f_R_closeLevel p1 S = some (r, S9)) : ip_Me 12 [.ref 2, .long p1] S (some (.int (ip_b2i r))) S9 := by
  unfold f_R_closeLevel at h
  refine ⟨[some (.ref 2), some (.long p1), none], rfl, ?_⟩
  refine ip_Ev.steps 2 (pc' := 4) (lv' := [some (.ref 2), some (.long p1), none]) (st' := [.int (S.1 2 9)]) (S1 := S) rfl ?_
  refine ip_Ev.iff1 rfl rfl ip_cGt (fun zhc1 => ?_) (fun zhc1 => ?_)
  · rw [if_pos zhc1] at h
    refine ip_Ev.steps 5 (pc' := 18) (lv' := [some (.ref 2), some (.long p1), none]) (st' := [.int (S.1 2 9), .ref 6, .ref 2]) (S1 := S) rfl ?_
    obtain ⟨zv2, hzv2, h⟩ := ip_bind h
    refine ip_Ev.zald rfl hzv2 ?_
    have zhb3 : ip_isB zv2 = true := by
      cases hz : ip_isB zv2 with
      | true => rfl
      | false => rw [hz] at h; cases h
    rw [zhb3] at h
    dsimp only [cond] at h
    refine ip_Ev.pfZ rfl rfl rfl rfl zhb3 ?_
    refine ip_Ev.steps 8 (pc' := 34) (lv' := [some (.ref 2), some (.long p1), none]) (st' := [.long p1, .ref 2]) (S1 := (ip_upI (ip_upI S 2 11 zv2) 2 9 (((ip_upI S 2 11 zv2).1 2 9) - 1))) rfl ?_
    obtain ⟨zS5, hzq4, h⟩ := ip_bind h
    refine ip_Ev.call (i := 8) (a := [.ref 2, .long p1]) (r := []) rfl (T_R_endPart hzq4) ?_
    show ip_Ev 12 37 [some (.ref 2), some (.long p1), none] [] zS5 _ _
    refine ip_Ev.steps 1 (pc' := 38) (lv' := [some (.ref 2), some (.long p1), none]) (st' := [.int 1]) (S1 := zS5) rfl ?_
    cases h
    exact ip_Ev.retB (b := true) rfl rfl
  · rw [if_neg zhc1] at h
    refine ip_Ev.steps 1 (pc' := 8) (lv' := [some (.ref 2), some (.long p1), none]) (st' := [.int 0]) (S1 := S) rfl ?_
    cases h
    exact ip_Ev.retB (b := false) rfl rfl
-- R_acceptBehindPart
def f_R_acceptBehindPart (p1 : Int32) (S : ip_St) : Option (Bool × ip_St) := (if p1 = 38 then some (true, (ip_upI S 2 10 1)) else (if p1 = 41 then ((ip_aI S 4 (S.1 2 9)).bind fun zv2 => (if zv2 = 1 then ((f_R_lawSoFar S).bind fun zv5 => ((f_R_closeLevel zv5 S).bind fun zq6 => (if zq6.1 = false then some (false, zq6.2) else some (true, zq6.2)))) else some (false, S))) else (if p1 = 44 then ((ip_aI S 4 (S.1 2 9)).bind fun zv10 => (if zv10 = 2 then ((f_R_endLawOfList S).bind fun zq12 => (if zq12.1 = false then some (false, zq12.2) else some (true, zq12.2))) else some (false, S))) else (if p1 = 93 then ((ip_aI S 4 (S.1 2 9)).bind fun zv16 => (if zv16 = 2 then ((f_R_endLawOfList S).bind fun zq18 => (if zq18.1 = false then some (false, zq18.2) else ((f_R_listSoFar zq18.2).bind fun zv23 => ((f_R_closeLevel zv23 zq18.2).bind fun zq24 => (if zq24.1 = false then some (false, zq24.2) else some (true, zq24.2)))))) else some (false, S))) else (if p1 = 124 then ((ip_aL S 7 (S.1 2 9)).bind fun zv28 => ((ip_aL S 8 (S.1 2 9)).bind fun zv29 => ((ip_wL S 7 (S.1 2 9) (zv28 ||| zv29)).bind fun zS30 => ((f_R_startTerm zS30).bind fun zS32 => some (true, zS32))))) else some (false, S))))))
set_option maxRecDepth 10000 in
theorem T_R_acceptBehindPart {p1 : Int32} {S : ip_St} {r : Bool} {S9 : ip_St} (h : f_R_acceptBehindPart p1 S = some (r, S9)) : ip_Me 14 [.ref 2, .int p1] S (some (.int (ip_b2i r))) S9 := by
  unfold f_R_acceptBehindPart at h
  refine ⟨[some (.ref 2), some (.int p1)], rfl, ?_⟩
  refine ip_Ev.steps 1 (pc' := 1) (lv' := [some (.ref 2), some (.int p1)]) (st' := [.int p1]) (S1 := S) rfl ?_
  by_cases zhs1_0 : p1 = 38
  · rw [if_pos zhs1_0] at h
    refine ip_Ev.lsw (off := 51) rfl rfl (by rw [zhs1_0]; rfl) rfl ?_
    refine ip_Ev.steps 4 (pc' := 58) (lv' := [some (.ref 2), some (.int p1)]) (st' := [.int 1]) (S1 := (ip_upI S 2 10 1)) rfl ?_
    cases h
    exact ip_Ev.retB (b := true) rfl rfl
  rw [if_neg zhs1_0] at h
  by_cases zhs1_1 : p1 = 41
  · rw [if_pos zhs1_1] at h
    refine ip_Ev.lsw (off := 111) rfl rfl (by rw [zhs1_1]; rfl) rfl ?_
    refine ip_Ev.steps 4 (pc' := 120) (lv' := [some (.ref 2), some (.int p1)]) (st' := [.int (S.1 2 9), .ref 4]) (S1 := S) rfl ?_
    obtain ⟨zv2, hzv2, h⟩ := ip_bind h
    refine ip_Ev.iald rfl hzv2 ?_
    refine ip_Ev.steps 1 (pc' := 122) (lv' := [some (.ref 2), some (.int p1)]) (st' := [.int 1, .int zv2]) (S1 := S) rfl ?_
    refine ip_Ev.iff2 rfl rfl ip_cNe (fun zhc3 => ?_) (fun zhc3 => ?_)
    · rw [if_neg zhc3] at h
      refine ip_Ev.steps 1 (pc' := 141) (lv' := [some (.ref 2), some (.int p1)]) (st' := [.int 0]) (S1 := S) rfl ?_
      cases h
      exact ip_Ev.retB (b := false) rfl rfl
    · rw [if_pos (Decidable.of_not_not zhc3)] at h
      refine ip_Ev.steps 2 (pc' := 127) (lv' := [some (.ref 2), some (.int p1)]) (st' := [.ref 2, .ref 2]) (S1 := S) rfl ?_
      obtain ⟨zv5, hzq4, h⟩ := ip_bind h
      refine ip_Ev.call (i := 10) (a := [.ref 2]) (r := [.ref 2]) rfl (T_R_lawSoFar hzq4) ?_
      show ip_Ev 14 130 [some (.ref 2), some (.int p1)] [.long zv5, .ref 2] S _ _
      obtain ⟨⟨zv7, zS8⟩, hzq6, h⟩ := ip_bind h
      dsimp only at h
      refine ip_Ev.call (i := 12) (a := [.ref 2, .long zv5]) (r := []) rfl (T_R_closeLevel hzq6) ?_
      show ip_Ev 14 133 [some (.ref 2), some (.int p1)] [.int (ip_b2i zv7)] zS8 _ _
      refine ip_Ev.iff1 rfl rfl ip_bEq (fun zhc9 => ?_) (fun zhc9 => ?_)
      · rw [if_pos zhc9] at h
        refine ip_Ev.steps 1 (pc' := 141) (lv' := [some (.ref 2), some (.int p1)]) (st' := [.int 0]) (S1 := zS8) rfl ?_
        cases h
        exact ip_Ev.retB (b := false) rfl rfl
      · rw [if_neg zhc9] at h
        refine ip_Ev.steps 2 (pc' := 141) (lv' := [some (.ref 2), some (.int p1)]) (st' := [.int 1]) (S1 := zS8) rfl ?_
        cases h
        exact ip_Ev.retB (b := true) rfl rfl
  rw [if_neg zhs1_1] at h
  by_cases zhs1_2 : p1 = 44
  · rw [if_pos zhs1_2] at h
    refine ip_Ev.lsw (off := 85) rfl rfl (by rw [zhs1_2]; rfl) rfl ?_
    refine ip_Ev.steps 4 (pc' := 94) (lv' := [some (.ref 2), some (.int p1)]) (st' := [.int (S.1 2 9), .ref 4]) (S1 := S) rfl ?_
    obtain ⟨zv10, hzv10, h⟩ := ip_bind h
    refine ip_Ev.iald rfl hzv10 ?_
    refine ip_Ev.steps 1 (pc' := 96) (lv' := [some (.ref 2), some (.int p1)]) (st' := [.int 2, .int zv10]) (S1 := S) rfl ?_
    refine ip_Ev.iff2 rfl rfl ip_cNe (fun zhc11 => ?_) (fun zhc11 => ?_)
    · rw [if_neg zhc11] at h
      refine ip_Ev.steps 1 (pc' := 111) (lv' := [some (.ref 2), some (.int p1)]) (st' := [.int 0]) (S1 := S) rfl ?_
      cases h
      exact ip_Ev.retB (b := false) rfl rfl
    · rw [if_pos (Decidable.of_not_not zhc11)] at h
      refine ip_Ev.steps 1 (pc' := 100) (lv' := [some (.ref 2), some (.int p1)]) (st' := [.ref 2]) (S1 := S) rfl ?_
      obtain ⟨⟨zv13, zS14⟩, hzq12, h⟩ := ip_bind h
      dsimp only at h
      refine ip_Ev.call (i := 11) (a := [.ref 2]) (r := []) rfl (T_R_endLawOfList hzq12) ?_
      show ip_Ev 14 103 [some (.ref 2), some (.int p1)] [.int (ip_b2i zv13)] zS14 _ _
      refine ip_Ev.iff1 rfl rfl ip_bEq (fun zhc15 => ?_) (fun zhc15 => ?_)
      · rw [if_pos zhc15] at h
        refine ip_Ev.steps 1 (pc' := 111) (lv' := [some (.ref 2), some (.int p1)]) (st' := [.int 0]) (S1 := zS14) rfl ?_
        cases h
        exact ip_Ev.retB (b := false) rfl rfl
      · rw [if_neg zhc15] at h
        refine ip_Ev.steps 2 (pc' := 111) (lv' := [some (.ref 2), some (.int p1)]) (st' := [.int 1]) (S1 := zS14) rfl ?_
        cases h
        exact ip_Ev.retB (b := true) rfl rfl
  rw [if_neg zhs1_2] at h
  by_cases zhs1_3 : p1 = 93
  · rw [if_pos zhs1_3] at h
    refine ip_Ev.lsw (off := 141) rfl rfl (by rw [zhs1_3]; rfl) rfl ?_
    refine ip_Ev.steps 4 (pc' := 150) (lv' := [some (.ref 2), some (.int p1)]) (st' := [.int (S.1 2 9), .ref 4]) (S1 := S) rfl ?_
    obtain ⟨zv16, hzv16, h⟩ := ip_bind h
    refine ip_Ev.iald rfl hzv16 ?_
    refine ip_Ev.steps 1 (pc' := 152) (lv' := [some (.ref 2), some (.int p1)]) (st' := [.int 2, .int zv16]) (S1 := S) rfl ?_
    refine ip_Ev.iff2 rfl rfl ip_cNe (fun zhc17 => ?_) (fun zhc17 => ?_)
    · rw [if_neg zhc17] at h
      refine ip_Ev.steps 1 (pc' := 178) (lv' := [some (.ref 2), some (.int p1)]) (st' := [.int 0]) (S1 := S) rfl ?_
      cases h
      exact ip_Ev.retB (b := false) rfl rfl
    · rw [if_pos (Decidable.of_not_not zhc17)] at h
      refine ip_Ev.steps 1 (pc' := 156) (lv' := [some (.ref 2), some (.int p1)]) (st' := [.ref 2]) (S1 := S) rfl ?_
      obtain ⟨⟨zv19, zS20⟩, hzq18, h⟩ := ip_bind h
      dsimp only at h
      refine ip_Ev.call (i := 11) (a := [.ref 2]) (r := []) rfl (T_R_endLawOfList hzq18) ?_
      show ip_Ev 14 159 [some (.ref 2), some (.int p1)] [.int (ip_b2i zv19)] zS20 _ _
      refine ip_Ev.iff1 rfl rfl ip_bEq (fun zhc21 => ?_) (fun zhc21 => ?_)
      · rw [if_pos zhc21] at h
        refine ip_Ev.steps 1 (pc' := 178) (lv' := [some (.ref 2), some (.int p1)]) (st' := [.int 0]) (S1 := zS20) rfl ?_
        cases h
        exact ip_Ev.retB (b := false) rfl rfl
      · rw [if_neg zhc21] at h
        refine ip_Ev.steps 2 (pc' := 164) (lv' := [some (.ref 2), some (.int p1)]) (st' := [.ref 2, .ref 2]) (S1 := zS20) rfl ?_
        obtain ⟨zv23, hzq22, h⟩ := ip_bind h
        refine ip_Ev.call (i := 13) (a := [.ref 2]) (r := [.ref 2]) rfl (T_R_listSoFar hzq22) ?_
        show ip_Ev 14 167 [some (.ref 2), some (.int p1)] [.long zv23, .ref 2] zS20 _ _
        obtain ⟨⟨zv25, zS26⟩, hzq24, h⟩ := ip_bind h
        dsimp only at h
        refine ip_Ev.call (i := 12) (a := [.ref 2, .long zv23]) (r := []) rfl (T_R_closeLevel hzq24) ?_
        show ip_Ev 14 170 [some (.ref 2), some (.int p1)] [.int (ip_b2i zv25)] zS26 _ _
        refine ip_Ev.iff1 rfl rfl ip_bEq (fun zhc27 => ?_) (fun zhc27 => ?_)
        · rw [if_pos zhc27] at h
          refine ip_Ev.steps 1 (pc' := 178) (lv' := [some (.ref 2), some (.int p1)]) (st' := [.int 0]) (S1 := zS26) rfl ?_
          cases h
          exact ip_Ev.retB (b := false) rfl rfl
        · rw [if_neg zhc27] at h
          refine ip_Ev.steps 2 (pc' := 178) (lv' := [some (.ref 2), some (.int p1)]) (st' := [.int 1]) (S1 := zS26) rfl ?_
          cases h
          exact ip_Ev.retB (b := true) rfl rfl
  rw [if_neg zhs1_3] at h
  by_cases zhs1_4 : p1 = 124
  · rw [if_pos zhs1_4] at h
    refine ip_Ev.lsw (off := 58) rfl rfl (by rw [zhs1_4]; rfl) rfl ?_
    refine ip_Ev.steps 5 (pc' := 68) (lv' := [some (.ref 2), some (.int p1)]) (st' := [.int (S.1 2 9), .ref 7, .int (S.1 2 9), .ref 7]) (S1 := S) rfl ?_
    obtain ⟨zv28, hzv28, h⟩ := ip_bind h
    refine ip_Ev.lald rfl hzv28 ?_
    refine ip_Ev.steps 4 (pc' := 77) (lv' := [some (.ref 2), some (.int p1)]) (st' := [.int (S.1 2 9), .ref 8, .long zv28, .int (S.1 2 9), .ref 7]) (S1 := S) rfl ?_
    obtain ⟨zv29, hzv29, h⟩ := ip_bind h
    refine ip_Ev.lald rfl hzv29 ?_
    refine ip_Ev.steps 1 (pc' := 79) (lv' := [some (.ref 2), some (.int p1)]) (st' := [.long (zv28 ||| zv29), .int (S.1 2 9), .ref 7]) (S1 := S) rfl ?_
    obtain ⟨zS30, hzS30, h⟩ := ip_bind h
    refine ip_Ev.last rfl hzS30 ?_
    refine ip_Ev.steps 1 (pc' := 81) (lv' := [some (.ref 2), some (.int p1)]) (st' := [.ref 2]) (S1 := zS30) rfl ?_
    obtain ⟨zS32, hzq31, h⟩ := ip_bind h
    refine ip_Ev.call (i := 3) (a := [.ref 2]) (r := []) rfl (T_R_startTerm hzq31) ?_
    show ip_Ev 14 84 [some (.ref 2), some (.int p1)] [] zS32 _ _
    refine ip_Ev.steps 1 (pc' := 85) (lv' := [some (.ref 2), some (.int p1)]) (st' := [.int 1]) (S1 := zS32) rfl ?_
    cases h
    exact ip_Ev.retB (b := true) rfl rfl
  rw [if_neg zhs1_4] at h
  have zhs1_0n : ¬ Int32.toInt p1 = 38 := fun q => zhs1_0 (Int32.toInt_inj.mp q)
  have zhs1_1n : ¬ Int32.toInt p1 = 41 := fun q => zhs1_1 (Int32.toInt_inj.mp q)
  have zhs1_2n : ¬ Int32.toInt p1 = 44 := fun q => zhs1_2 (Int32.toInt_inj.mp q)
  have zhs1_3n : ¬ Int32.toInt p1 = 93 := fun q => zhs1_3 (Int32.toInt_inj.mp q)
  have zhs1_4n : ¬ Int32.toInt p1 = 124 := fun q => zhs1_4 (Int32.toInt_inj.mp q)
  refine ip_Ev.lsw (off := 178) rfl rfl (by simp only [Op.lookupswitch.offset]; rw [if_neg (fun q => zhs1_0n q.symm)]; rw [if_neg (fun q => zhs1_1n q.symm)]; rw [if_neg (fun q => zhs1_2n q.symm)]; rw [if_neg (fun q => zhs1_3n q.symm)]; rw [if_neg (fun q => zhs1_4n q.symm)]) rfl ?_
  refine ip_Ev.steps 1 (pc' := 180) (lv' := [some (.ref 2), some (.int p1)]) (st' := [.int 0]) (S1 := S) rfl ?_
  cases h
  exact ip_Ev.retB (b := false) rfl rfl
-- R_accept
def f_R_accept (p1 : Int32) (S : ip_St) : Option (Bool × ip_St) := (if (S.1 2 12) = 0 then (if (S.1 2 10) = 0 then ((f_R_acceptBehindPart p1 S).bind fun zq3 => some (zq3.1, zq3.2)) else ((f_R_acceptInPart p1 S).bind fun zq6 => some (zq6.1, zq6.2))) else (if p1 = 91 then ((f_R_openLevel 2 S).bind fun zq10 => (if zq10.1 = false then some (false, zq10.2) else some (true, zq10.2))) else some (false, S)))
set_option maxRecDepth 10000 in
theorem T_R_accept {p1 : Int32} {S : ip_St} {r : Bool} {S9 : ip_St} (h : f_R_accept p1 S = some (r, S9)) : ip_Me 15 [.ref 2, .int p1] S (some (.int (ip_b2i r))) S9 := by
  unfold f_R_accept at h
  refine ⟨[some (.ref 2), some (.int p1)], rfl, ?_⟩
  refine ip_Ev.steps 2 (pc' := 4) (lv' := [some (.ref 2), some (.int p1)]) (st' := [.int (S.1 2 12)]) (S1 := S) rfl ?_
  refine ip_Ev.iff1 rfl rfl ip_cEq (fun zhc1 => ?_) (fun zhc1 => ?_)
  · rw [if_pos zhc1] at h
    refine ip_Ev.steps 2 (pc' := 31) (lv' := [some (.ref 2), some (.int p1)]) (st' := [.int (S.1 2 10)]) (S1 := S) rfl ?_
    refine ip_Ev.iff1 rfl rfl ip_cEq (fun zhc2 => ?_) (fun zhc2 => ?_)
    · rw [if_pos zhc2] at h
      refine ip_Ev.steps 2 (pc' := 44) (lv' := [some (.ref 2), some (.int p1)]) (st' := [.int p1, .ref 2]) (S1 := S) rfl ?_
      obtain ⟨⟨zv4, zS5⟩, hzq3, h⟩ := ip_bind h
      dsimp only at h
      refine ip_Ev.call (i := 14) (a := [.ref 2, .int p1]) (r := []) rfl (T_R_acceptBehindPart hzq3) ?_
      show ip_Ev 15 47 [some (.ref 2), some (.int p1)] [.int (ip_b2i zv4)] zS5 _ _
      cases h
      exact ip_Ev.retB rfl rfl
    · rw [if_neg zhc2] at h
      refine ip_Ev.steps 2 (pc' := 36) (lv' := [some (.ref 2), some (.int p1)]) (st' := [.int p1, .ref 2]) (S1 := S) rfl ?_
      obtain ⟨⟨zv7, zS8⟩, hzq6, h⟩ := ip_bind h
      dsimp only at h
      refine ip_Ev.call (i := 9) (a := [.ref 2, .int p1]) (r := []) rfl (T_R_acceptInPart hzq6) ?_
      show ip_Ev 15 39 [some (.ref 2), some (.int p1)] [.int (ip_b2i zv7)] zS8 _ _
      refine ip_Ev.steps 1 (pc' := 47) (lv' := [some (.ref 2), some (.int p1)]) (st' := [.int (ip_b2i zv7)]) (S1 := zS8) rfl ?_
      cases h
      exact ip_Ev.retB rfl rfl
  · rw [if_neg zhc1] at h
    refine ip_Ev.steps 2 (pc' := 10) (lv' := [some (.ref 2), some (.int p1)]) (st' := [.int 91, .int p1]) (S1 := S) rfl ?_
    refine ip_Ev.iff2 rfl rfl ip_cNe (fun zhc9 => ?_) (fun zhc9 => ?_)
    · rw [if_neg zhc9] at h
      refine ip_Ev.steps 1 (pc' := 26) (lv' := [some (.ref 2), some (.int p1)]) (st' := [.int 0]) (S1 := S) rfl ?_
      cases h
      exact ip_Ev.retB (b := false) rfl rfl
    · rw [if_pos (Decidable.of_not_not zhc9)] at h
      refine ip_Ev.steps 2 (pc' := 15) (lv' := [some (.ref 2), some (.int p1)]) (st' := [.int 2, .ref 2]) (S1 := S) rfl ?_
      obtain ⟨⟨zv11, zS12⟩, hzq10, h⟩ := ip_bind h
      dsimp only at h
      refine ip_Ev.call (i := 7) (a := [.ref 2, .int 2]) (r := []) rfl (T_R_openLevel hzq10) ?_
      show ip_Ev 15 18 [some (.ref 2), some (.int p1)] [.int (ip_b2i zv11)] zS12 _ _
      refine ip_Ev.iff1 rfl rfl ip_bEq (fun zhc13 => ?_) (fun zhc13 => ?_)
      · rw [if_pos zhc13] at h
        refine ip_Ev.steps 1 (pc' := 26) (lv' := [some (.ref 2), some (.int p1)]) (st' := [.int 0]) (S1 := zS12) rfl ?_
        cases h
        exact ip_Ev.retB (b := false) rfl rfl
      · rw [if_neg zhc13] at h
        refine ip_Ev.steps 2 (pc' := 26) (lv' := [some (.ref 2), some (.int p1)]) (st' := [.int 1]) (S1 := zS12) rfl ?_
        cases h
        exact ip_Ev.retB (b := true) rfl rfl
-- A_scanLaw
def f_A_scanLaw_9 : Nat → Int32 → ip_St → Option (Int32 × ip_St)
  | 0, _, _ => none
  | n + 1, x2, S => (if (S.1 0 1) ≤ x2 then some ((S.1 0 1), S) else ((ip_aI S 1 x2).bind fun zv2 => ((f_R_accept zv2 S).bind fun zq3 => (if zq3.1 = true then (f_A_scanLaw_9 n (x2 + 1) zq3.2) else some (x2, zq3.2)))))
set_option maxRecDepth 10000 in
theorem E_A_scanLaw_9 : ∀ (n : Nat) {x2 : Int32} {S : ip_St} {r : Int32} {S9 : ip_St} {d1 : Option Value}, f_A_scanLaw_9 n x2 S = some (r, S9) → ip_Ev 16 9 [some (.ref 0), d1, some (.int x2)] [] S (some (.int r)) S9 := by
  intro n
  induction n with
  | zero =>
    intro x2 S r S9 d1 h
    cases h
  | succ n ih =>
    intro x2 S r S9 d1 h
    rw [f_A_scanLaw_9] at h
    refine ip_Ev.steps 3 (pc' := 14) (lv' := [some (.ref 0), d1, some (.int x2)]) (st' := [.int (S.1 0 1), .int x2]) (S1 := S) rfl ?_
    refine ip_Ev.iff2 rfl rfl ip_cGe (fun zhc1 => ?_) (fun zhc1 => ?_)
    · rw [if_pos zhc1] at h
      refine ip_Ev.steps 2 (pc' := 45) (lv' := [some (.ref 0), d1, some (.int x2)]) (st' := [.int (S.1 0 1)]) (S1 := S) rfl ?_
      cases h
      exact ip_Ev.ret rfl
    · rw [if_neg zhc1] at h
      refine ip_Ev.steps 5 (pc' := 26) (lv' := [some (.ref 0), d1, some (.int x2)]) (st' := [.int x2, .ref 1, .ref 2]) (S1 := S) rfl ?_
      obtain ⟨zv2, hzv2, h⟩ := ip_bind h
      refine ip_Ev.iald rfl hzv2 ?_
      obtain ⟨⟨zv4, zS5⟩, hzq3, h⟩ := ip_bind h
      dsimp only at h
      refine ip_Ev.call (i := 15) (a := [.ref 2, .int zv2]) (r := []) rfl (T_R_accept hzq3) ?_
      show ip_Ev 16 30 [some (.ref 0), d1, some (.int x2)] [.int (ip_b2i zv4)] zS5 _ _
      refine ip_Ev.iff1 rfl rfl ip_bNe (fun zhc6 => ?_) (fun zhc6 => ?_)
      · rw [if_pos zhc6] at h
        refine ip_Ev.steps 2 (pc' := 9) (lv' := [some (.ref 0), (ip_kd d1), some (.int (x2 + 1))]) (st' := []) (S1 := zS5) rfl ?_
        exact ih h
      · rw [if_neg zhc6] at h
        refine ip_Ev.steps 1 (pc' := 34) (lv' := [some (.ref 0), d1, some (.int x2)]) (st' := [.int x2]) (S1 := zS5) rfl ?_
        cases h
        exact ip_Ev.ret rfl
def f_A_scanLaw (p1 : Int32) (S : ip_St) : Option (Int32 × ip_St) := ((f_R_start S).bind fun zS2 => (f_A_scanLaw_9 ip_FU p1 zS2))
set_option maxRecDepth 10000 in
theorem T_A_scanLaw {p1 : Int32} {S : ip_St} {r : Int32} {S9 : ip_St} (h : f_A_scanLaw p1 S = some (r, S9)) : ip_Me 16 [.ref 0, .int p1] S (some (.int r)) S9 := by
  unfold f_A_scanLaw at h
  refine ⟨[some (.ref 0), some (.int p1), none], rfl, ?_⟩
  refine ip_Ev.steps 2 (pc' := 4) (lv' := [some (.ref 0), some (.int p1), none]) (st' := [.ref 2]) (S1 := S) rfl ?_
  obtain ⟨zS2, hzq1, h⟩ := ip_bind h
  refine ip_Ev.call (i := 5) (a := [.ref 2]) (r := []) rfl (T_R_start hzq1) ?_
  show ip_Ev 16 7 [some (.ref 0), some (.int p1), none] [] zS2 _ _
  refine ip_Ev.steps 2 (pc' := 9) (lv' := [some (.ref 0), some (.int p1), some (.int p1)]) (st' := []) (S1 := zS2) rfl ?_
  exact E_A_scanLaw_9 ip_FU h
-- A_kindOf
def f_A_kindOf (p0 : Int32) : Int32 := (if p0 = 99 then 2 else (if p0 = 106 then 0 else (if p0 = 112 then 3 else (if p0 = 115 then 1 else (if p0 = 118 then 4 else (-1))))))
set_option maxRecDepth 10000 in
theorem T_A_kindOf {p0 : Int32} {S : ip_St} {r : Int32} (h : f_A_kindOf p0 = r) : ip_Me 17 [.int p0] S (some (.int r)) S := by
  unfold f_A_kindOf at h
  refine ⟨[some (.int p0)], rfl, ?_⟩
  refine ip_Ev.steps 1 (pc' := 1) (lv' := [some (.int p0)]) (st' := [.int p0]) (S1 := S) rfl ?_
  by_cases zhs1_0 : p0 = 99
  · rw [if_pos zhs1_0] at h
    refine ip_Ev.lsw (off := 55) rfl rfl (by rw [zhs1_0]; rfl) rfl ?_
    refine ip_Ev.steps 1 (pc' := 57) (lv' := [some (.int p0)]) (st' := [.int 2]) (S1 := S) rfl ?_
    cases h
    exact ip_Ev.ret rfl
  rw [if_neg zhs1_0] at h
  by_cases zhs1_1 : p0 = 106
  · rw [if_pos zhs1_1] at h
    refine ip_Ev.lsw (off := 51) rfl rfl (by rw [zhs1_1]; rfl) rfl ?_
    refine ip_Ev.steps 1 (pc' := 53) (lv' := [some (.int p0)]) (st' := [.int 0]) (S1 := S) rfl ?_
    cases h
    exact ip_Ev.ret rfl
  rw [if_neg zhs1_1] at h
  by_cases zhs1_2 : p0 = 112
  · rw [if_pos zhs1_2] at h
    refine ip_Ev.lsw (off := 57) rfl rfl (by rw [zhs1_2]; rfl) rfl ?_
    refine ip_Ev.steps 1 (pc' := 59) (lv' := [some (.int p0)]) (st' := [.int 3]) (S1 := S) rfl ?_
    cases h
    exact ip_Ev.ret rfl
  rw [if_neg zhs1_2] at h
  by_cases zhs1_3 : p0 = 115
  · rw [if_pos zhs1_3] at h
    refine ip_Ev.lsw (off := 53) rfl rfl (by rw [zhs1_3]; rfl) rfl ?_
    refine ip_Ev.steps 1 (pc' := 55) (lv' := [some (.int p0)]) (st' := [.int 1]) (S1 := S) rfl ?_
    cases h
    exact ip_Ev.ret rfl
  rw [if_neg zhs1_3] at h
  by_cases zhs1_4 : p0 = 118
  · rw [if_pos zhs1_4] at h
    refine ip_Ev.lsw (off := 59) rfl rfl (by rw [zhs1_4]; rfl) rfl ?_
    refine ip_Ev.steps 1 (pc' := 61) (lv' := [some (.int p0)]) (st' := [.int 4]) (S1 := S) rfl ?_
    cases h
    exact ip_Ev.ret rfl
  rw [if_neg zhs1_4] at h
  have zhs1_0n : ¬ Int32.toInt p0 = 99 := fun q => zhs1_0 (Int32.toInt_inj.mp q)
  have zhs1_1n : ¬ Int32.toInt p0 = 106 := fun q => zhs1_1 (Int32.toInt_inj.mp q)
  have zhs1_2n : ¬ Int32.toInt p0 = 112 := fun q => zhs1_2 (Int32.toInt_inj.mp q)
  have zhs1_3n : ¬ Int32.toInt p0 = 115 := fun q => zhs1_3 (Int32.toInt_inj.mp q)
  have zhs1_4n : ¬ Int32.toInt p0 = 118 := fun q => zhs1_4 (Int32.toInt_inj.mp q)
  refine ip_Ev.lsw (off := 61) rfl rfl (by simp only [Op.lookupswitch.offset]; rw [if_neg (fun q => zhs1_0n q.symm)]; rw [if_neg (fun q => zhs1_1n q.symm)]; rw [if_neg (fun q => zhs1_2n q.symm)]; rw [if_neg (fun q => zhs1_3n q.symm)]; rw [if_neg (fun q => zhs1_4n q.symm)]) rfl ?_
  refine ip_Ev.steps 1 (pc' := 63) (lv' := [some (.int p0)]) (st' := [.int (-1)]) (S1 := S) rfl ?_
  cases h
  exact ip_Ev.ret rfl
-- A_fitsAmongJudges
def f_A_fitsAmongJudges (p1 : Int32) (S : ip_St) : Option (Bool) := ((ip_aI S 1 p1).bind fun zv1 => (if (ip_irem p1 8) = 0 then (if (f_A_kindOf zv1) = (-1) then some false else some true) else (if (ip_irem p1 8) = 7 then (if zv1 = 44 then (if 2 ≤ (p1 / 8) then some false else some true) else some false) else (if zv1 = 48 then some true else (if zv1 = 49 then some true else (if zv1 = 63 then some true else some false))))))
set_option maxRecDepth 10000 in
theorem T_A_fitsAmongJudges {p1 : Int32} {S : ip_St} {r : Bool} (h : f_A_fitsAmongJudges p1 S = some r) : ip_Me 18 [.ref 0, .int p1] S (some (.int (ip_b2i r))) S := by
  unfold f_A_fitsAmongJudges at h
  refine ⟨[some (.ref 0), some (.int p1), none, none], rfl, ?_⟩
  refine ip_Ev.steps 3 (pc' := 5) (lv' := [some (.ref 0), some (.int p1), none, none]) (st' := [.int p1, .ref 1]) (S1 := S) rfl ?_
  obtain ⟨zv1, hzv1, h⟩ := ip_bind h
  refine ip_Ev.iald rfl hzv1 ?_
  refine ip_Ev.steps 3 (pc' := 10) (lv' := [some (.ref 0), some (.int p1), some (.int zv1), none]) (st' := [.int 8, .int p1]) (S1 := S) rfl ?_
  refine ip_Ev.irem rfl (by decide) ?_
  show ip_Ev 18 11 [some (.ref 0), some (.int p1), some (.int zv1), none] [.int (ip_irem p1 8)] S _ _
  refine ip_Ev.steps 2 (pc' := 13) (lv' := [some (.ref 0), some (.int p1), some (.int zv1), some (.int (ip_irem p1 8))]) (st' := [.int (ip_irem p1 8)]) (S1 := S) rfl ?_
  refine ip_Ev.iff1 rfl rfl ip_cNe (fun zhc2 => ?_) (fun zhc2 => ?_)
  · rw [if_neg zhc2] at h
    refine ip_Ev.steps 2 (pc' := 33) (lv' := [some (.ref 0), some (.int p1), some (.int zv1), some (.int (ip_irem p1 8))]) (st' := [.int 7, .int (ip_irem p1 8)]) (S1 := S) rfl ?_
    refine ip_Ev.iff2 rfl rfl ip_cNe (fun zhc3 => ?_) (fun zhc3 => ?_)
    · rw [if_neg zhc3] at h
      refine ip_Ev.steps 2 (pc' := 59) (lv' := [some (.ref 0), some (.int p1), some (.int zv1), some (.int (ip_irem p1 8))]) (st' := [.int 48, .int zv1]) (S1 := S) rfl ?_
      refine ip_Ev.iff2 rfl rfl ip_cEq (fun zhc4 => ?_) (fun zhc4 => ?_)
      · rw [if_pos zhc4] at h
        refine ip_Ev.steps 2 (pc' := 79) (lv' := [some (.ref 0), some (.int p1), some (.int zv1), some (.int (ip_irem p1 8))]) (st' := [.int 1]) (S1 := S) rfl ?_
        cases h
        exact ip_Ev.retB (b := true) rfl rfl
      · rw [if_neg zhc4] at h
        refine ip_Ev.steps 2 (pc' := 65) (lv' := [some (.ref 0), some (.int p1), some (.int zv1), some (.int (ip_irem p1 8))]) (st' := [.int 49, .int zv1]) (S1 := S) rfl ?_
        refine ip_Ev.iff2 rfl rfl ip_cEq (fun zhc5 => ?_) (fun zhc5 => ?_)
        · rw [if_pos zhc5] at h
          refine ip_Ev.steps 2 (pc' := 79) (lv' := [some (.ref 0), some (.int p1), some (.int zv1), some (.int (ip_irem p1 8))]) (st' := [.int 1]) (S1 := S) rfl ?_
          cases h
          exact ip_Ev.retB (b := true) rfl rfl
        · rw [if_neg zhc5] at h
          refine ip_Ev.steps 2 (pc' := 71) (lv' := [some (.ref 0), some (.int p1), some (.int zv1), some (.int (ip_irem p1 8))]) (st' := [.int 63, .int zv1]) (S1 := S) rfl ?_
          refine ip_Ev.iff2 rfl rfl ip_cNe (fun zhc6 => ?_) (fun zhc6 => ?_)
          · rw [if_neg zhc6] at h
            refine ip_Ev.steps 1 (pc' := 79) (lv' := [some (.ref 0), some (.int p1), some (.int zv1), some (.int (ip_irem p1 8))]) (st' := [.int 0]) (S1 := S) rfl ?_
            cases h
            exact ip_Ev.retB (b := false) rfl rfl
          · rw [if_pos (Decidable.of_not_not zhc6)] at h
            refine ip_Ev.steps 2 (pc' := 79) (lv' := [some (.ref 0), some (.int p1), some (.int zv1), some (.int (ip_irem p1 8))]) (st' := [.int 1]) (S1 := S) rfl ?_
            cases h
            exact ip_Ev.retB (b := true) rfl rfl
    · rw [if_pos (Decidable.of_not_not zhc3)] at h
      refine ip_Ev.steps 2 (pc' := 39) (lv' := [some (.ref 0), some (.int p1), some (.int zv1), some (.int (ip_irem p1 8))]) (st' := [.int 44, .int zv1]) (S1 := S) rfl ?_
      refine ip_Ev.iff2 rfl rfl ip_cNe (fun zhc7 => ?_) (fun zhc7 => ?_)
      · rw [if_neg zhc7] at h
        refine ip_Ev.steps 1 (pc' := 55) (lv' := [some (.ref 0), some (.int p1), some (.int zv1), some (.int (ip_irem p1 8))]) (st' := [.int 0]) (S1 := S) rfl ?_
        cases h
        exact ip_Ev.retB (b := false) rfl rfl
      · rw [if_pos (Decidable.of_not_not zhc7)] at h
        refine ip_Ev.steps 2 (pc' := 45) (lv' := [some (.ref 0), some (.int p1), some (.int zv1), some (.int (ip_irem p1 8))]) (st' := [.int 8, .int p1]) (S1 := S) rfl ?_
        refine ip_Ev.idiv rfl (by decide) ?_
        refine ip_Ev.steps 1 (pc' := 47) (lv' := [some (.ref 0), some (.int p1), some (.int zv1), some (.int (ip_irem p1 8))]) (st' := [.int 2, .int (p1 / 8)]) (S1 := S) rfl ?_
        refine ip_Ev.iff2 rfl rfl ip_cGe (fun zhc8 => ?_) (fun zhc8 => ?_)
        · rw [if_pos zhc8] at h
          refine ip_Ev.steps 1 (pc' := 55) (lv' := [some (.ref 0), some (.int p1), some (.int zv1), some (.int (ip_irem p1 8))]) (st' := [.int 0]) (S1 := S) rfl ?_
          cases h
          exact ip_Ev.retB (b := false) rfl rfl
        · rw [if_neg zhc8] at h
          refine ip_Ev.steps 2 (pc' := 55) (lv' := [some (.ref 0), some (.int p1), some (.int zv1), some (.int (ip_irem p1 8))]) (st' := [.int 1]) (S1 := S) rfl ?_
          cases h
          exact ip_Ev.retB (b := true) rfl rfl
  · rw [if_pos (Decidable.of_not_not zhc2)] at h
    refine ip_Ev.steps 1 (pc' := 17) (lv' := [some (.ref 0), some (.int p1), some (.int zv1), some (.int (ip_irem p1 8))]) (st' := [.int zv1]) (S1 := S) rfl ?_
    refine ip_Ev.call (i := 17) (a := [.int zv1]) (r := []) rfl (T_A_kindOf rfl) ?_
    show ip_Ev 18 20 [some (.ref 0), some (.int p1), some (.int zv1), some (.int (ip_irem p1 8))] [.int (f_A_kindOf zv1)] S _ _
    refine ip_Ev.steps 1 (pc' := 21) (lv' := [some (.ref 0), some (.int p1), some (.int zv1), some (.int (ip_irem p1 8))]) (st' := [.int (-1), .int (f_A_kindOf zv1)]) (S1 := S) rfl ?_
    refine ip_Ev.iff2 rfl rfl ip_cEq (fun zhc9 => ?_) (fun zhc9 => ?_)
    · rw [if_pos zhc9] at h
      refine ip_Ev.steps 1 (pc' := 29) (lv' := [some (.ref 0), some (.int p1), some (.int zv1), some (.int (ip_irem p1 8))]) (st' := [.int 0]) (S1 := S) rfl ?_
      cases h
      exact ip_Ev.retB (b := false) rfl rfl
    · rw [if_neg zhc9] at h
      refine ip_Ev.steps 2 (pc' := 29) (lv' := [some (.ref 0), some (.int p1), some (.int zv1), some (.int (ip_irem p1 8))]) (st' := [.int 1]) (S1 := S) rfl ?_
      cases h
      exact ip_Ev.retB (b := true) rfl rfl
-- A_scanCourt
def f_A_scanCourt_60 (k14 : Int32 → ip_St → Option (Int32 × ip_St)) (x1 : Int32) (S : ip_St) : Option (Int32 × ip_St) := ((f_A_fitsAmongJudges x1 S).bind fun zv2 => (if zv2 = true then (k14 (x1 + 1) S) else some (x1, S)))
set_option maxRecDepth 10000 in
theorem E_A_scanCourt_60 {k14 : Int32 → ip_St → Option (Int32 × ip_St)} (hk14 : ∀ {x1 : Int32} {S : ip_St} {r : Int32} {S9 : ip_St}, k14 x1 S = some (r, S9) → ip_Ev 19 14 [some (.ref 0), some (.int x1)] [] S (some (.int r)) S9) {x1 : Int32} {S : ip_St} {r : Int32} {S9 : ip_St} (h : f_A_scanCourt_60 k14 x1 S = some (r, S9)) : ip_Ev 19 60 [some (.ref 0), some (.int x1)] [] S (some (.int r)) S9 := by
  unfold f_A_scanCourt_60 at h
  refine ip_Ev.steps 2 (pc' := 62) (lv' := [some (.ref 0), some (.int x1)]) (st' := [.int x1, .ref 0]) (S1 := S) rfl ?_
  obtain ⟨zv2, hzq1, h⟩ := ip_bind h
  refine ip_Ev.call (i := 18) (a := [.ref 0, .int x1]) (r := []) rfl (T_A_fitsAmongJudges hzq1) ?_
  show ip_Ev 19 65 [some (.ref 0), some (.int x1)] [.int (ip_b2i zv2)] S _ _
  refine ip_Ev.iff1 rfl rfl ip_bNe (fun zhc3 => ?_) (fun zhc3 => ?_)
  · rw [if_pos zhc3] at h
    refine ip_Ev.steps 2 (pc' := 14) (lv' := [some (.ref 0), some (.int (x1 + 1))]) (st' := []) (S1 := S) rfl ?_
    exact hk14 h
  · rw [if_neg zhc3] at h
    refine ip_Ev.steps 1 (pc' := 69) (lv' := [some (.ref 0), some (.int x1)]) (st' := [.int x1]) (S1 := S) rfl ?_
    cases h
    exact ip_Ev.ret rfl
def f_A_scanCourt_14 : Nat → Int32 → ip_St → Option (Int32 × ip_St)
  | 0, _, _ => none
  | n + 1, x1, S => (if (S.1 0 1) ≤ x1 then some ((S.1 0 1), S) else (if (ip_irem x1 8) = 7 then ((ip_aI S 1 x1).bind fun zv3 => (if zv3 = 59 then ((f_A_scanLaw (x1 + 1) (ip_upI S 0 3 ((x1 / 8) + 1))).bind fun zq5 => some (zq5.1, zq5.2)) else (f_A_scanCourt_60 (f_A_scanCourt_14 n) x1 S))) else (f_A_scanCourt_60 (f_A_scanCourt_14 n) x1 S)))
set_option maxRecDepth 10000 in
theorem E_A_scanCourt_14 : ∀ (n : Nat) {x1 : Int32} {S : ip_St} {r : Int32} {S9 : ip_St}, f_A_scanCourt_14 n x1 S = some (r, S9) → ip_Ev 19 14 [some (.ref 0), some (.int x1)] [] S (some (.int r)) S9 := by
  intro n
  induction n with
  | zero =>
    intro x1 S r S9 h
    cases h
  | succ n ih =>
    intro x1 S r S9 h
    rw [f_A_scanCourt_14] at h
    refine ip_Ev.steps 3 (pc' := 19) (lv' := [some (.ref 0), some (.int x1)]) (st' := [.int (S.1 0 1), .int x1]) (S1 := S) rfl ?_
    refine ip_Ev.iff2 rfl rfl ip_cGe (fun zhc1 => ?_) (fun zhc1 => ?_)
    · rw [if_pos zhc1] at h
      refine ip_Ev.steps 2 (pc' := 80) (lv' := [some (.ref 0), some (.int x1)]) (st' := [.int (S.1 0 1)]) (S1 := S) rfl ?_
      cases h
      exact ip_Ev.ret rfl
    · rw [if_neg zhc1] at h
      refine ip_Ev.steps 2 (pc' := 25) (lv' := [some (.ref 0), some (.int x1)]) (st' := [.int 8, .int x1]) (S1 := S) rfl ?_
      refine ip_Ev.irem rfl (by decide) ?_
      show ip_Ev 19 26 [some (.ref 0), some (.int x1)] [.int (ip_irem x1 8)] S _ _
      refine ip_Ev.steps 1 (pc' := 28) (lv' := [some (.ref 0), some (.int x1)]) (st' := [.int 7, .int (ip_irem x1 8)]) (S1 := S) rfl ?_
      refine ip_Ev.iff2 rfl rfl ip_cNe (fun zhc2 => ?_) (fun zhc2 => ?_)
      · rw [if_neg zhc2] at h
        exact E_A_scanCourt_60 ih h
      · rw [if_pos (Decidable.of_not_not zhc2)] at h
        refine ip_Ev.steps 3 (pc' := 36) (lv' := [some (.ref 0), some (.int x1)]) (st' := [.int x1, .ref 1]) (S1 := S) rfl ?_
        obtain ⟨zv3, hzv3, h⟩ := ip_bind h
        refine ip_Ev.iald rfl hzv3 ?_
        refine ip_Ev.steps 1 (pc' := 39) (lv' := [some (.ref 0), some (.int x1)]) (st' := [.int 59, .int zv3]) (S1 := S) rfl ?_
        refine ip_Ev.iff2 rfl rfl ip_cNe (fun zhc4 => ?_) (fun zhc4 => ?_)
        · rw [if_neg zhc4] at h
          exact E_A_scanCourt_60 ih h
        · rw [if_pos (Decidable.of_not_not zhc4)] at h
          refine ip_Ev.steps 3 (pc' := 46) (lv' := [some (.ref 0), some (.int x1)]) (st' := [.int 8, .int x1, .ref 0]) (S1 := S) rfl ?_
          refine ip_Ev.idiv rfl (by decide) ?_
          refine ip_Ev.steps 7 (pc' := 56) (lv' := [some (.ref 0), some (.int x1)]) (st' := [.int (x1 + 1), .ref 0]) (S1 := (ip_upI S 0 3 ((x1 / 8) + 1))) rfl ?_
          obtain ⟨⟨zv6, zS7⟩, hzq5, h⟩ := ip_bind h
          dsimp only at h
          refine ip_Ev.call (i := 16) (a := [.ref 0, .int (x1 + 1)]) (r := []) rfl (T_A_scanLaw hzq5) ?_
          show ip_Ev 19 59 [some (.ref 0), some (.int x1)] [.int zv6] zS7 _ _
          cases h
          exact ip_Ev.ret rfl
def f_A_scanCourt  (S : ip_St) : Option (Int32 × ip_St) := ((f_R_start (ip_upI S 0 3 0)).bind fun zS2 => (f_A_scanCourt_14 ip_FU 0 zS2))
set_option maxRecDepth 10000 in
theorem T_A_scanCourt  {S : ip_St} {r : Int32} {S9 : ip_St} (h : f_A_scanCourt S = some (r, S9)) : ip_Me 19 [.ref 0] S (some (.int r)) S9 := by
  unfold f_A_scanCourt at h
  refine ⟨[some (.ref 0), none], rfl, ?_⟩
  refine ip_Ev.steps 5 (pc' := 9) (lv' := [some (.ref 0), none]) (st' := [.ref 2]) (S1 := (ip_upI S 0 3 0)) rfl ?_
  obtain ⟨zS2, hzq1, h⟩ := ip_bind h
  refine ip_Ev.call (i := 5) (a := [.ref 2]) (r := []) rfl (T_R_start hzq1) ?_
  show ip_Ev 19 12 [some (.ref 0), none] [] zS2 _ _
  refine ip_Ev.steps 2 (pc' := 14) (lv' := [some (.ref 0), some (.int 0)]) (st' := []) (S1 := zS2) rfl ?_
  exact E_A_scanCourt_14 ip_FU h
-- A_fault
def f_A_fault  (S : ip_St) : Option (Int32 × ip_St) := ((f_A_scanCourt S).bind fun zq1 => some (zq1.1, zq1.2))
set_option maxRecDepth 10000 in
theorem T_A_fault  {S : ip_St} {r : Int32} {S9 : ip_St} (h : f_A_fault S = some (r, S9)) : ip_Me 20 [.ref 0] S (some (.int r)) S9 := by
  unfold f_A_fault at h
  refine ⟨[some (.ref 0)], rfl, ?_⟩
  refine ip_Ev.steps 1 (pc' := 1) (lv' := [some (.ref 0)]) (st' := [.ref 0]) (S1 := S) rfl ?_
  obtain ⟨⟨zv2, zS3⟩, hzq1, h⟩ := ip_bind h
  dsimp only at h
  refine ip_Ev.call (i := 19) (a := [.ref 0]) (r := []) rfl (T_A_scanCourt hzq1) ?_
  show ip_Ev 20 4 [some (.ref 0)] [.int zv2] zS3 _ _
  cases h
  exact ip_Ev.ret rfl
-- M_kindBy
def f_M_kindBy (p0 : Int32) : Int32 := (if p0 = 99 then 2 else (if p0 = 106 then 0 else (if p0 = 112 then 3 else (if p0 = 115 then 1 else (if p0 = 118 then 4 else (-1))))))
set_option maxRecDepth 10000 in
theorem T_M_kindBy {p0 : Int32} {S : ip_St} {r : Int32} (h : f_M_kindBy p0 = r) : ip_Me 104 [.int p0] S (some (.int r)) S := by
  unfold f_M_kindBy at h
  refine ⟨[some (.int p0)], rfl, ?_⟩
  refine ip_Ev.steps 1 (pc' := 1) (lv' := [some (.int p0)]) (st' := [.int p0]) (S1 := S) rfl ?_
  by_cases zhs1_0 : p0 = 99
  · rw [if_pos zhs1_0] at h
    refine ip_Ev.lsw (off := 55) rfl rfl (by rw [zhs1_0]; rfl) rfl ?_
    refine ip_Ev.steps 1 (pc' := 57) (lv' := [some (.int p0)]) (st' := [.int 2]) (S1 := S) rfl ?_
    cases h
    exact ip_Ev.ret rfl
  rw [if_neg zhs1_0] at h
  by_cases zhs1_1 : p0 = 106
  · rw [if_pos zhs1_1] at h
    refine ip_Ev.lsw (off := 51) rfl rfl (by rw [zhs1_1]; rfl) rfl ?_
    refine ip_Ev.steps 1 (pc' := 53) (lv' := [some (.int p0)]) (st' := [.int 0]) (S1 := S) rfl ?_
    cases h
    exact ip_Ev.ret rfl
  rw [if_neg zhs1_1] at h
  by_cases zhs1_2 : p0 = 112
  · rw [if_pos zhs1_2] at h
    refine ip_Ev.lsw (off := 57) rfl rfl (by rw [zhs1_2]; rfl) rfl ?_
    refine ip_Ev.steps 1 (pc' := 59) (lv' := [some (.int p0)]) (st' := [.int 3]) (S1 := S) rfl ?_
    cases h
    exact ip_Ev.ret rfl
  rw [if_neg zhs1_2] at h
  by_cases zhs1_3 : p0 = 115
  · rw [if_pos zhs1_3] at h
    refine ip_Ev.lsw (off := 53) rfl rfl (by rw [zhs1_3]; rfl) rfl ?_
    refine ip_Ev.steps 1 (pc' := 55) (lv' := [some (.int p0)]) (st' := [.int 1]) (S1 := S) rfl ?_
    cases h
    exact ip_Ev.ret rfl
  rw [if_neg zhs1_3] at h
  by_cases zhs1_4 : p0 = 118
  · rw [if_pos zhs1_4] at h
    refine ip_Ev.lsw (off := 59) rfl rfl (by rw [zhs1_4]; rfl) rfl ?_
    refine ip_Ev.steps 1 (pc' := 61) (lv' := [some (.int p0)]) (st' := [.int 4]) (S1 := S) rfl ?_
    cases h
    exact ip_Ev.ret rfl
  rw [if_neg zhs1_4] at h
  have zhs1_0n : ¬ Int32.toInt p0 = 99 := fun q => zhs1_0 (Int32.toInt_inj.mp q)
  have zhs1_1n : ¬ Int32.toInt p0 = 106 := fun q => zhs1_1 (Int32.toInt_inj.mp q)
  have zhs1_2n : ¬ Int32.toInt p0 = 112 := fun q => zhs1_2 (Int32.toInt_inj.mp q)
  have zhs1_3n : ¬ Int32.toInt p0 = 115 := fun q => zhs1_3 (Int32.toInt_inj.mp q)
  have zhs1_4n : ¬ Int32.toInt p0 = 118 := fun q => zhs1_4 (Int32.toInt_inj.mp q)
  refine ip_Ev.lsw (off := 61) rfl rfl (by simp only [Op.lookupswitch.offset]; rw [if_neg (fun q => zhs1_0n q.symm)]; rw [if_neg (fun q => zhs1_1n q.symm)]; rw [if_neg (fun q => zhs1_2n q.symm)]; rw [if_neg (fun q => zhs1_3n q.symm)]; rw [if_neg (fun q => zhs1_4n q.symm)]) rfl ?_
  refine ip_Ev.steps 1 (pc' := 63) (lv' := [some (.int p0)]) (st' := [.int (-1)]) (S1 := S) rfl ?_
  cases h
  exact ip_Ev.ret rfl
-- M_isJudgesLetter
def f_M_isJudgesLetter (p1 : Int32) (S : ip_St) : Option (Bool) := ((ip_aI S 32 p1).bind fun zv1 => (if (ip_irem p1 8) = 0 then (if (f_M_kindBy zv1) = (-1) then some false else some true) else (if 7 ≤ (ip_irem p1 8) then (if zv1 = 59 then some true else (if zv1 = 44 then (if 23 ≤ p1 then some false else some true) else some false)) else (if zv1 = 48 then some true else (if zv1 = 49 then some true else (if zv1 = 63 then some true else some false))))))
set_option maxRecDepth 10000 in
theorem T_M_isJudgesLetter {p1 : Int32} {S : ip_St} {r : Bool} (h : f_M_isJudgesLetter p1 S = some r) : ip_Me 105 [.ref 30, .int p1] S (some (.int (ip_b2i r))) S := by
  unfold f_M_isJudgesLetter at h
  refine ⟨[some (.ref 30), some (.int p1), none], rfl, ?_⟩
  refine ip_Ev.steps 3 (pc' := 5) (lv' := [some (.ref 30), some (.int p1), none]) (st' := [.int p1, .ref 32]) (S1 := S) rfl ?_
  obtain ⟨zv1, hzv1, h⟩ := ip_bind h
  refine ip_Ev.iald rfl hzv1 ?_
  refine ip_Ev.steps 3 (pc' := 10) (lv' := [some (.ref 30), some (.int p1), some (.int zv1)]) (st' := [.int 8, .int p1]) (S1 := S) rfl ?_
  refine ip_Ev.irem rfl (by decide) ?_
  show ip_Ev 105 11 [some (.ref 30), some (.int p1), some (.int zv1)] [.int (ip_irem p1 8)] S _ _
  refine ip_Ev.iff1 rfl rfl ip_cNe (fun zhc2 => ?_) (fun zhc2 => ?_)
  · rw [if_neg zhc2] at h
    refine ip_Ev.steps 2 (pc' := 31) (lv' := [some (.ref 30), some (.int p1), some (.int zv1)]) (st' := [.int 8, .int p1]) (S1 := S) rfl ?_
    refine ip_Ev.irem rfl (by decide) ?_
    show ip_Ev 105 32 [some (.ref 30), some (.int p1), some (.int zv1)] [.int (ip_irem p1 8)] S _ _
    refine ip_Ev.steps 1 (pc' := 34) (lv' := [some (.ref 30), some (.int p1), some (.int zv1)]) (st' := [.int 7, .int (ip_irem p1 8)]) (S1 := S) rfl ?_
    refine ip_Ev.iff2 rfl rfl ip_cGe (fun zhc3 => ?_) (fun zhc3 => ?_)
    · rw [if_pos zhc3] at h
      refine ip_Ev.steps 2 (pc' := 64) (lv' := [some (.ref 30), some (.int p1), some (.int zv1)]) (st' := [.int 59, .int zv1]) (S1 := S) rfl ?_
      refine ip_Ev.iff2 rfl rfl ip_cEq (fun zhc4 => ?_) (fun zhc4 => ?_)
      · rw [if_pos zhc4] at h
        refine ip_Ev.steps 2 (pc' := 84) (lv' := [some (.ref 30), some (.int p1), some (.int zv1)]) (st' := [.int 1]) (S1 := S) rfl ?_
        cases h
        exact ip_Ev.retB (b := true) rfl rfl
      · rw [if_neg zhc4] at h
        refine ip_Ev.steps 2 (pc' := 70) (lv' := [some (.ref 30), some (.int p1), some (.int zv1)]) (st' := [.int 44, .int zv1]) (S1 := S) rfl ?_
        refine ip_Ev.iff2 rfl rfl ip_cNe (fun zhc5 => ?_) (fun zhc5 => ?_)
        · rw [if_neg zhc5] at h
          refine ip_Ev.steps 1 (pc' := 84) (lv' := [some (.ref 30), some (.int p1), some (.int zv1)]) (st' := [.int 0]) (S1 := S) rfl ?_
          cases h
          exact ip_Ev.retB (b := false) rfl rfl
        · rw [if_pos (Decidable.of_not_not zhc5)] at h
          refine ip_Ev.steps 2 (pc' := 76) (lv' := [some (.ref 30), some (.int p1), some (.int zv1)]) (st' := [.int 23, .int p1]) (S1 := S) rfl ?_
          refine ip_Ev.iff2 rfl rfl ip_cGe (fun zhc6 => ?_) (fun zhc6 => ?_)
          · rw [if_pos zhc6] at h
            refine ip_Ev.steps 1 (pc' := 84) (lv' := [some (.ref 30), some (.int p1), some (.int zv1)]) (st' := [.int 0]) (S1 := S) rfl ?_
            cases h
            exact ip_Ev.retB (b := false) rfl rfl
          · rw [if_neg zhc6] at h
            refine ip_Ev.steps 2 (pc' := 84) (lv' := [some (.ref 30), some (.int p1), some (.int zv1)]) (st' := [.int 1]) (S1 := S) rfl ?_
            cases h
            exact ip_Ev.retB (b := true) rfl rfl
    · rw [if_neg zhc3] at h
      refine ip_Ev.steps 2 (pc' := 40) (lv' := [some (.ref 30), some (.int p1), some (.int zv1)]) (st' := [.int 48, .int zv1]) (S1 := S) rfl ?_
      refine ip_Ev.iff2 rfl rfl ip_cEq (fun zhc7 => ?_) (fun zhc7 => ?_)
      · rw [if_pos zhc7] at h
        refine ip_Ev.steps 2 (pc' := 60) (lv' := [some (.ref 30), some (.int p1), some (.int zv1)]) (st' := [.int 1]) (S1 := S) rfl ?_
        cases h
        exact ip_Ev.retB (b := true) rfl rfl
      · rw [if_neg zhc7] at h
        refine ip_Ev.steps 2 (pc' := 46) (lv' := [some (.ref 30), some (.int p1), some (.int zv1)]) (st' := [.int 49, .int zv1]) (S1 := S) rfl ?_
        refine ip_Ev.iff2 rfl rfl ip_cEq (fun zhc8 => ?_) (fun zhc8 => ?_)
        · rw [if_pos zhc8] at h
          refine ip_Ev.steps 2 (pc' := 60) (lv' := [some (.ref 30), some (.int p1), some (.int zv1)]) (st' := [.int 1]) (S1 := S) rfl ?_
          cases h
          exact ip_Ev.retB (b := true) rfl rfl
        · rw [if_neg zhc8] at h
          refine ip_Ev.steps 2 (pc' := 52) (lv' := [some (.ref 30), some (.int p1), some (.int zv1)]) (st' := [.int 63, .int zv1]) (S1 := S) rfl ?_
          refine ip_Ev.iff2 rfl rfl ip_cNe (fun zhc9 => ?_) (fun zhc9 => ?_)
          · rw [if_neg zhc9] at h
            refine ip_Ev.steps 1 (pc' := 60) (lv' := [some (.ref 30), some (.int p1), some (.int zv1)]) (st' := [.int 0]) (S1 := S) rfl ?_
            cases h
            exact ip_Ev.retB (b := false) rfl rfl
          · rw [if_pos (Decidable.of_not_not zhc9)] at h
            refine ip_Ev.steps 2 (pc' := 60) (lv' := [some (.ref 30), some (.int p1), some (.int zv1)]) (st' := [.int 1]) (S1 := S) rfl ?_
            cases h
            exact ip_Ev.retB (b := true) rfl rfl
  · rw [if_pos (Decidable.of_not_not zhc2)] at h
    refine ip_Ev.steps 1 (pc' := 15) (lv' := [some (.ref 30), some (.int p1), some (.int zv1)]) (st' := [.int zv1]) (S1 := S) rfl ?_
    refine ip_Ev.call (i := 104) (a := [.int zv1]) (r := []) rfl (T_M_kindBy rfl) ?_
    show ip_Ev 105 18 [some (.ref 30), some (.int p1), some (.int zv1)] [.int (f_M_kindBy zv1)] S _ _
    refine ip_Ev.steps 1 (pc' := 19) (lv' := [some (.ref 30), some (.int p1), some (.int zv1)]) (st' := [.int (-1), .int (f_M_kindBy zv1)]) (S1 := S) rfl ?_
    refine ip_Ev.iff2 rfl rfl ip_cEq (fun zhc10 => ?_) (fun zhc10 => ?_)
    · rw [if_pos zhc10] at h
      refine ip_Ev.steps 1 (pc' := 27) (lv' := [some (.ref 30), some (.int p1), some (.int zv1)]) (st' := [.int 0]) (S1 := S) rfl ?_
      cases h
      exact ip_Ev.retB (b := false) rfl rfl
    · rw [if_neg zhc10] at h
      refine ip_Ev.steps 2 (pc' := 27) (lv' := [some (.ref 30), some (.int p1), some (.int zv1)]) (st' := [.int 1]) (S1 := S) rfl ?_
      cases h
      exact ip_Ev.retB (b := true) rfl rfl
-- M_opens
def f_M_opens (p1 : Int32) (S : ip_St) : Option (Bool × ip_St) := ((ip_wI S 33 (S.1 30 4) p1).bind fun zS1 => some (true, (ip_upI (ip_upI zS1 30 4 ((zS1.1 30 4) + 1)) 30 5 0)))
set_option maxRecDepth 10000 in
theorem T_M_opens {p1 : Int32} {S : ip_St} {r : Bool} {S9 : ip_St} (h : f_M_opens p1 S = some (r, S9)) : ip_Me 106 [.ref 30, .int p1] S (some (.int (ip_b2i r))) S9 := by
  unfold f_M_opens at h
  refine ⟨[some (.ref 30), some (.int p1)], rfl, ?_⟩
  refine ip_Ev.steps 5 (pc' := 9) (lv' := [some (.ref 30), some (.int p1)]) (st' := [.int p1, .int (S.1 30 4), .ref 33]) (S1 := S) rfl ?_
  obtain ⟨zS1, hzS1, h⟩ := ip_bind h
  refine ip_Ev.iast rfl hzS1 ?_
  refine ip_Ev.steps 10 (pc' := 26) (lv' := [some (.ref 30), some (.int p1)]) (st' := [.int 1]) (S1 := (ip_upI (ip_upI zS1 30 4 ((zS1.1 30 4) + 1)) 30 5 0)) rfl ?_
  cases h
  exact ip_Ev.retB (b := true) rfl rfl
-- M_isTop
def f_M_isTop (p1 : Int32) (S : ip_St) : Option (Bool) := (if (S.1 30 4) ≤ 0 then some false else ((ip_aI S 33 ((S.1 30 4) - 1)).bind fun zv2 => (if zv2 = p1 then some true else some false)))
set_option maxRecDepth 10000 in
theorem T_M_isTop {p1 : Int32} {S : ip_St} {r : Bool} (h : f_M_isTop p1 S = some r) : ip_Me 108 [.ref 30, .int p1] S (some (.int (ip_b2i r))) S := by
  unfold f_M_isTop at h
  refine ⟨[some (.ref 30), some (.int p1)], rfl, ?_⟩
  refine ip_Ev.steps 2 (pc' := 4) (lv' := [some (.ref 30), some (.int p1)]) (st' := [.int (S.1 30 4)]) (S1 := S) rfl ?_
  refine ip_Ev.iff1 rfl rfl ip_cLe (fun zhc1 => ?_) (fun zhc1 => ?_)
  · rw [if_pos zhc1] at h
    refine ip_Ev.steps 1 (pc' := 27) (lv' := [some (.ref 30), some (.int p1)]) (st' := [.int 0]) (S1 := S) rfl ?_
    cases h
    exact ip_Ev.retB (b := false) rfl rfl
  · rw [if_neg zhc1] at h
    refine ip_Ev.steps 6 (pc' := 17) (lv' := [some (.ref 30), some (.int p1)]) (st' := [.int ((S.1 30 4) - 1), .ref 33]) (S1 := S) rfl ?_
    obtain ⟨zv2, hzv2, h⟩ := ip_bind h
    refine ip_Ev.iald rfl hzv2 ?_
    refine ip_Ev.steps 1 (pc' := 19) (lv' := [some (.ref 30), some (.int p1)]) (st' := [.int p1, .int zv2]) (S1 := S) rfl ?_
    refine ip_Ev.iff2 rfl rfl ip_cNe (fun zhc3 => ?_) (fun zhc3 => ?_)
    · rw [if_neg zhc3] at h
      refine ip_Ev.steps 1 (pc' := 27) (lv' := [some (.ref 30), some (.int p1)]) (st' := [.int 0]) (S1 := S) rfl ?_
      cases h
      exact ip_Ev.retB (b := false) rfl rfl
    · rw [if_pos (Decidable.of_not_not zhc3)] at h
      refine ip_Ev.steps 2 (pc' := 27) (lv' := [some (.ref 30), some (.int p1)]) (st' := [.int 1]) (S1 := S) rfl ?_
      cases h
      exact ip_Ev.retB (b := true) rfl rfl
-- M_goBehindPart
def f_M_goBehindPart_64  (S : ip_St) : Option (Bool × ip_St) := some (true, (ip_upI S 30 4 ((S.1 30 4) - 1)))
set_option maxRecDepth 10000 in
theorem E_M_goBehindPart_64  {S : ip_St} {r : Bool} {S9 : ip_St} {d1 : Option Value} (h : f_M_goBehindPart_64 S = some (r, S9)) : ip_Ev 109 64 [some (.ref 30), d1] [] S (some (.int (ip_b2i r))) S9 := by
  unfold f_M_goBehindPart_64 at h
  refine ip_Ev.steps 7 (pc' := 75) (lv' := [some (.ref 30), d1]) (st' := [.int 1]) (S1 := (ip_upI S 30 4 ((S.1 30 4) - 1))) rfl ?_
  cases h
  exact ip_Ev.retB (b := true) rfl rfl
def f_M_goBehindPart_49 (x1 : Int32) (S : ip_St) : Option (Bool × ip_St) := (if x1 = 93 then ((f_M_isTop 91 S).bind fun zv3 => (if zv3 = false then some (false, S) else (f_M_goBehindPart_64 S))) else some (false, S))
set_option maxRecDepth 10000 in
theorem E_M_goBehindPart_49 {x1 : Int32} {S : ip_St} {r : Bool} {S9 : ip_St} (h : f_M_goBehindPart_49 x1 S = some (r, S9)) : ip_Ev 109 49 [some (.ref 30), some (.int x1)] [] S (some (.int (ip_b2i r))) S9 := by
  unfold f_M_goBehindPart_49 at h
  refine ip_Ev.steps 2 (pc' := 52) (lv' := [some (.ref 30), some (.int x1)]) (st' := [.int 93, .int x1]) (S1 := S) rfl ?_
  refine ip_Ev.iff2 rfl rfl ip_cNe (fun zhc1 => ?_) (fun zhc1 => ?_)
  · rw [if_neg zhc1] at h
    refine ip_Ev.steps 1 (pc' := 77) (lv' := [some (.ref 30), some (.int x1)]) (st' := [.int 0]) (S1 := S) rfl ?_
    cases h
    exact ip_Ev.retB (b := false) rfl rfl
  · rw [if_pos (Decidable.of_not_not zhc1)] at h
    refine ip_Ev.steps 2 (pc' := 58) (lv' := [some (.ref 30), some (.int x1)]) (st' := [.int 91, .ref 30]) (S1 := S) rfl ?_
    obtain ⟨zv3, hzq2, h⟩ := ip_bind h
    refine ip_Ev.call (i := 108) (a := [.ref 30, .int 91]) (r := []) rfl (T_M_isTop hzq2) ?_
    show ip_Ev 109 61 [some (.ref 30), some (.int x1)] [.int (ip_b2i zv3)] S _ _
    refine ip_Ev.iff1 rfl rfl ip_bEq (fun zhc4 => ?_) (fun zhc4 => ?_)
    · rw [if_pos zhc4] at h
      refine ip_Ev.steps 1 (pc' := 77) (lv' := [some (.ref 30), some (.int x1)]) (st' := [.int 0]) (S1 := S) rfl ?_
      cases h
      exact ip_Ev.retB (b := false) rfl rfl
    · rw [if_neg zhc4] at h
      exact E_M_goBehindPart_64 h
def f_M_goBehindPart_34 (x1 : Int32) (S : ip_St) : Option (Bool × ip_St) := (if x1 = 41 then ((f_M_isTop 40 S).bind fun zv3 => (if zv3 = true then (f_M_goBehindPart_64 S) else (f_M_goBehindPart_49 x1 S))) else (f_M_goBehindPart_49 x1 S))
set_option maxRecDepth 10000 in
theorem E_M_goBehindPart_34 {x1 : Int32} {S : ip_St} {r : Bool} {S9 : ip_St} (h : f_M_goBehindPart_34 x1 S = some (r, S9)) : ip_Ev 109 34 [some (.ref 30), some (.int x1)] [] S (some (.int (ip_b2i r))) S9 := by
  unfold f_M_goBehindPart_34 at h
  refine ip_Ev.steps 2 (pc' := 37) (lv' := [some (.ref 30), some (.int x1)]) (st' := [.int 41, .int x1]) (S1 := S) rfl ?_
  refine ip_Ev.iff2 rfl rfl ip_cNe (fun zhc1 => ?_) (fun zhc1 => ?_)
  · rw [if_neg zhc1] at h
    exact E_M_goBehindPart_49 h
  · rw [if_pos (Decidable.of_not_not zhc1)] at h
    refine ip_Ev.steps 2 (pc' := 43) (lv' := [some (.ref 30), some (.int x1)]) (st' := [.int 40, .ref 30]) (S1 := S) rfl ?_
    obtain ⟨zv3, hzq2, h⟩ := ip_bind h
    refine ip_Ev.call (i := 108) (a := [.ref 30, .int 40]) (r := []) rfl (T_M_isTop hzq2) ?_
    show ip_Ev 109 46 [some (.ref 30), some (.int x1)] [.int (ip_b2i zv3)] S _ _
    refine ip_Ev.iff1 rfl rfl ip_bNe (fun zhc4 => ?_) (fun zhc4 => ?_)
    · rw [if_pos zhc4] at h
      exact E_M_goBehindPart_64 h
    · rw [if_neg zhc4] at h
      exact E_M_goBehindPart_49 h
def f_M_goBehindPart_27  (S : ip_St) : Option (Bool × ip_St) := some (true, (ip_upI S 30 5 0))
set_option maxRecDepth 10000 in
theorem E_M_goBehindPart_27  {S : ip_St} {r : Bool} {S9 : ip_St} {d1 : Option Value} (h : f_M_goBehindPart_27 S = some (r, S9)) : ip_Ev 109 27 [some (.ref 30), d1] [] S (some (.int (ip_b2i r))) S9 := by
  unfold f_M_goBehindPart_27 at h
  refine ip_Ev.steps 4 (pc' := 33) (lv' := [some (.ref 30), d1]) (st' := [.int 1]) (S1 := (ip_upI S 30 5 0)) rfl ?_
  cases h
  exact ip_Ev.retB (b := true) rfl rfl
def f_M_goBehindPart (p1 : Int32) (S : ip_St) : Option (Bool × ip_St) := (if p1 = 124 then (f_M_goBehindPart_27 S) else (if p1 = 38 then (f_M_goBehindPart_27 S) else (if p1 = 44 then ((f_M_isTop 91 S).bind fun zv5 => (if zv5 = false then (f_M_goBehindPart_34 p1 S) else (f_M_goBehindPart_27 S))) else (f_M_goBehindPart_34 p1 S))))
set_option maxRecDepth 10000 in
theorem T_M_goBehindPart {p1 : Int32} {S : ip_St} {r : Bool} {S9 : ip_St} (h : f_M_goBehindPart p1 S = some (r, S9)) : ip_Me 109 [.ref 30, .int p1] S (some (.int (ip_b2i r))) S9 := by
  unfold f_M_goBehindPart at h
  refine ⟨[some (.ref 30), some (.int p1)], rfl, ?_⟩
  refine ip_Ev.steps 2 (pc' := 3) (lv' := [some (.ref 30), some (.int p1)]) (st' := [.int 124, .int p1]) (S1 := S) rfl ?_
  refine ip_Ev.iff2 rfl rfl ip_cEq (fun zhc1 => ?_) (fun zhc1 => ?_)
  · rw [if_pos zhc1] at h
    exact E_M_goBehindPart_27 h
  · rw [if_neg zhc1] at h
    refine ip_Ev.steps 2 (pc' := 9) (lv' := [some (.ref 30), some (.int p1)]) (st' := [.int 38, .int p1]) (S1 := S) rfl ?_
    refine ip_Ev.iff2 rfl rfl ip_cEq (fun zhc2 => ?_) (fun zhc2 => ?_)
    · rw [if_pos zhc2] at h
      exact E_M_goBehindPart_27 h
    · rw [if_neg zhc2] at h
      refine ip_Ev.steps 2 (pc' := 15) (lv' := [some (.ref 30), some (.int p1)]) (st' := [.int 44, .int p1]) (S1 := S) rfl ?_
      refine ip_Ev.iff2 rfl rfl ip_cNe (fun zhc3 => ?_) (fun zhc3 => ?_)
      · rw [if_neg zhc3] at h
        exact E_M_goBehindPart_34 h
      · rw [if_pos (Decidable.of_not_not zhc3)] at h
        refine ip_Ev.steps 2 (pc' := 21) (lv' := [some (.ref 30), some (.int p1)]) (st' := [.int 91, .ref 30]) (S1 := S) rfl ?_
        obtain ⟨zv5, hzq4, h⟩ := ip_bind h
        refine ip_Ev.call (i := 108) (a := [.ref 30, .int 91]) (r := []) rfl (T_M_isTop hzq4) ?_
        show ip_Ev 109 24 [some (.ref 30), some (.int p1)] [.int (ip_b2i zv5)] S _ _
        refine ip_Ev.iff1 rfl rfl ip_bEq (fun zhc6 => ?_) (fun zhc6 => ?_)
        · rw [if_pos zhc6] at h
          exact E_M_goBehindPart_34 h
        · rw [if_neg zhc6] at h
          exact E_M_goBehindPart_27 h
-- M_goPart
def f_M_goPart (p1 : Int32) (S : ip_St) : Option (Bool × ip_St) := (if (f_M_in (Int32.toInt64 p1) 97 102) = false then (if (f_M_in (Int32.toInt64 p1) 49 51) = false then (if p1 = 33 then some (true, S) else (if p1 = 40 then ((f_M_opens 40 S).bind fun zq5 => (if zq5.1 = false then some (false, zq5.2) else some (true, zq5.2))) else some (false, S))) else some (true, (ip_upI S 30 5 2))) else some (true, (ip_upI S 30 5 1)))
set_option maxRecDepth 10000 in
theorem T_M_goPart {p1 : Int32} {S : ip_St} {r : Bool} {S9 : ip_St} (h : f_M_goPart p1 S = some (r, S9)) : ip_Me 107 [.ref 30, .int p1] S (some (.int (ip_b2i r))) S9 := by
  unfold f_M_goPart at h
  refine ⟨[some (.ref 30), some (.int p1)], rfl, ?_⟩
  refine ip_Ev.steps 4 (pc' := 8) (lv' := [some (.ref 30), some (.int p1)]) (st' := [.long 102, .long 97, .long (Int32.toInt64 p1)]) (S1 := S) rfl ?_
  refine ip_Ev.call (i := 101) (a := [.long (Int32.toInt64 p1), .long 97, .long 102]) (r := []) rfl (T_M_in rfl) ?_
  show ip_Ev 107 11 [some (.ref 30), some (.int p1)] [.int (ip_b2i (f_M_in (Int32.toInt64 p1) 97 102))] S _ _
  refine ip_Ev.iff1 rfl rfl ip_bEq (fun zhc1 => ?_) (fun zhc1 => ?_)
  · rw [if_pos zhc1] at h
    refine ip_Ev.steps 4 (pc' := 29) (lv' := [some (.ref 30), some (.int p1)]) (st' := [.long 51, .long 49, .long (Int32.toInt64 p1)]) (S1 := S) rfl ?_
    refine ip_Ev.call (i := 101) (a := [.long (Int32.toInt64 p1), .long 49, .long 51]) (r := []) rfl (T_M_in rfl) ?_
    show ip_Ev 107 32 [some (.ref 30), some (.int p1)] [.int (ip_b2i (f_M_in (Int32.toInt64 p1) 49 51))] S _ _
    refine ip_Ev.iff1 rfl rfl ip_bEq (fun zhc2 => ?_) (fun zhc2 => ?_)
    · rw [if_pos zhc2] at h
      refine ip_Ev.steps 2 (pc' := 45) (lv' := [some (.ref 30), some (.int p1)]) (st' := [.int 33, .int p1]) (S1 := S) rfl ?_
      refine ip_Ev.iff2 rfl rfl ip_cEq (fun zhc3 => ?_) (fun zhc3 => ?_)
      · rw [if_pos zhc3] at h
        refine ip_Ev.steps 2 (pc' := 68) (lv' := [some (.ref 30), some (.int p1)]) (st' := [.int 1]) (S1 := S) rfl ?_
        cases h
        exact ip_Ev.retB (b := true) rfl rfl
      · rw [if_neg zhc3] at h
        refine ip_Ev.steps 2 (pc' := 51) (lv' := [some (.ref 30), some (.int p1)]) (st' := [.int 40, .int p1]) (S1 := S) rfl ?_
        refine ip_Ev.iff2 rfl rfl ip_cNe (fun zhc4 => ?_) (fun zhc4 => ?_)
        · rw [if_neg zhc4] at h
          refine ip_Ev.steps 1 (pc' := 68) (lv' := [some (.ref 30), some (.int p1)]) (st' := [.int 0]) (S1 := S) rfl ?_
          cases h
          exact ip_Ev.retB (b := false) rfl rfl
        · rw [if_pos (Decidable.of_not_not zhc4)] at h
          refine ip_Ev.steps 2 (pc' := 57) (lv' := [some (.ref 30), some (.int p1)]) (st' := [.int 40, .ref 30]) (S1 := S) rfl ?_
          obtain ⟨⟨zv6, zS7⟩, hzq5, h⟩ := ip_bind h
          dsimp only at h
          refine ip_Ev.call (i := 106) (a := [.ref 30, .int 40]) (r := []) rfl (T_M_opens hzq5) ?_
          show ip_Ev 107 60 [some (.ref 30), some (.int p1)] [.int (ip_b2i zv6)] zS7 _ _
          refine ip_Ev.iff1 rfl rfl ip_bEq (fun zhc8 => ?_) (fun zhc8 => ?_)
          · rw [if_pos zhc8] at h
            refine ip_Ev.steps 1 (pc' := 68) (lv' := [some (.ref 30), some (.int p1)]) (st' := [.int 0]) (S1 := zS7) rfl ?_
            cases h
            exact ip_Ev.retB (b := false) rfl rfl
          · rw [if_neg zhc8] at h
            refine ip_Ev.steps 2 (pc' := 68) (lv' := [some (.ref 30), some (.int p1)]) (st' := [.int 1]) (S1 := zS7) rfl ?_
            cases h
            exact ip_Ev.retB (b := true) rfl rfl
    · rw [if_neg zhc2] at h
      refine ip_Ev.steps 4 (pc' := 41) (lv' := [some (.ref 30), some (.int p1)]) (st' := [.int 1]) (S1 := (ip_upI S 30 5 2)) rfl ?_
      cases h
      exact ip_Ev.retB (b := true) rfl rfl
  · rw [if_neg zhc1] at h
    refine ip_Ev.steps 4 (pc' := 20) (lv' := [some (.ref 30), some (.int p1)]) (st' := [.int 1]) (S1 := (ip_upI S 30 5 1)) rfl ?_
    cases h
    exact ip_Ev.retB (b := true) rfl rfl
-- M_goLaw
def f_M_goLaw (p1 : Int32) (S : ip_St) : Option (Bool × ip_St) := (if (S.1 30 5) = 0 then ((f_M_goPart p1 S).bind fun zq2 => some (zq2.1, zq2.2)) else (if (S.1 30 5) = 1 then ((f_M_goBehindPart p1 S).bind fun zq5 => some (zq5.1, zq5.2)) else (if p1 = 91 then ((f_M_opens 91 S).bind fun zq9 => (if zq9.1 = false then some (false, zq9.2) else some (true, zq9.2))) else some (false, S))))
set_option maxRecDepth 10000 in
theorem T_M_goLaw {p1 : Int32} {S : ip_St} {r : Bool} {S9 : ip_St} (h : f_M_goLaw p1 S = some (r, S9)) : ip_Me 110 [.ref 30, .int p1] S (some (.int (ip_b2i r))) S9 := by
  unfold f_M_goLaw at h
  refine ⟨[some (.ref 30), some (.int p1)], rfl, ?_⟩
  refine ip_Ev.steps 2 (pc' := 4) (lv' := [some (.ref 30), some (.int p1)]) (st' := [.int (S.1 30 5)]) (S1 := S) rfl ?_
  by_cases zhs1_0 : (S.1 30 5) = 0
  · rw [if_pos zhs1_0] at h
    refine ip_Ev.lsw (off := 28) rfl rfl (by rw [zhs1_0]; rfl) rfl ?_
    refine ip_Ev.steps 2 (pc' := 34) (lv' := [some (.ref 30), some (.int p1)]) (st' := [.int p1, .ref 30]) (S1 := S) rfl ?_
    obtain ⟨⟨zv3, zS4⟩, hzq2, h⟩ := ip_bind h
    dsimp only at h
    refine ip_Ev.call (i := 107) (a := [.ref 30, .int p1]) (r := []) rfl (T_M_goPart hzq2) ?_
    show ip_Ev 110 37 [some (.ref 30), some (.int p1)] [.int (ip_b2i zv3)] zS4 _ _
    cases h
    exact ip_Ev.retB rfl rfl
  rw [if_neg zhs1_0] at h
  by_cases zhs1_1 : (S.1 30 5) = 1
  · rw [if_pos zhs1_1] at h
    refine ip_Ev.lsw (off := 34) rfl rfl (by rw [zhs1_1]; rfl) rfl ?_
    refine ip_Ev.steps 2 (pc' := 40) (lv' := [some (.ref 30), some (.int p1)]) (st' := [.int p1, .ref 30]) (S1 := S) rfl ?_
    obtain ⟨⟨zv6, zS7⟩, hzq5, h⟩ := ip_bind h
    dsimp only at h
    refine ip_Ev.call (i := 109) (a := [.ref 30, .int p1]) (r := []) rfl (T_M_goBehindPart hzq5) ?_
    show ip_Ev 110 43 [some (.ref 30), some (.int p1)] [.int (ip_b2i zv6)] zS7 _ _
    cases h
    exact ip_Ev.retB rfl rfl
  rw [if_neg zhs1_1] at h
  have zhs1_0n : ¬ Int32.toInt (S.1 30 5) = 0 := fun q => zhs1_0 (Int32.toInt_inj.mp q)
  have zhs1_1n : ¬ Int32.toInt (S.1 30 5) = 1 := fun q => zhs1_1 (Int32.toInt_inj.mp q)
  refine ip_Ev.lsw (off := 40) rfl rfl (by simp only [Op.lookupswitch.offset]; rw [if_neg (fun q => zhs1_0n q.symm)]; rw [if_neg (fun q => zhs1_1n q.symm)]) rfl ?_
  refine ip_Ev.steps 2 (pc' := 47) (lv' := [some (.ref 30), some (.int p1)]) (st' := [.int 91, .int p1]) (S1 := S) rfl ?_
  refine ip_Ev.iff2 rfl rfl ip_cNe (fun zhc8 => ?_) (fun zhc8 => ?_)
  · rw [if_neg zhc8] at h
    refine ip_Ev.steps 1 (pc' := 64) (lv' := [some (.ref 30), some (.int p1)]) (st' := [.int 0]) (S1 := S) rfl ?_
    cases h
    exact ip_Ev.retB (b := false) rfl rfl
  · rw [if_pos (Decidable.of_not_not zhc8)] at h
    refine ip_Ev.steps 2 (pc' := 53) (lv' := [some (.ref 30), some (.int p1)]) (st' := [.int 91, .ref 30]) (S1 := S) rfl ?_
    obtain ⟨⟨zv10, zS11⟩, hzq9, h⟩ := ip_bind h
    dsimp only at h
    refine ip_Ev.call (i := 106) (a := [.ref 30, .int 91]) (r := []) rfl (T_M_opens hzq9) ?_
    show ip_Ev 110 56 [some (.ref 30), some (.int p1)] [.int (ip_b2i zv10)] zS11 _ _
    refine ip_Ev.iff1 rfl rfl ip_bEq (fun zhc12 => ?_) (fun zhc12 => ?_)
    · rw [if_pos zhc12] at h
      refine ip_Ev.steps 1 (pc' := 64) (lv' := [some (.ref 30), some (.int p1)]) (st' := [.int 0]) (S1 := zS11) rfl ?_
      cases h
      exact ip_Ev.retB (b := false) rfl rfl
    · rw [if_neg zhc12] at h
      refine ip_Ev.steps 2 (pc' := 64) (lv' := [some (.ref 30), some (.int p1)]) (st' := [.int 1]) (S1 := zS11) rfl ?_
      cases h
      exact ip_Ev.retB (b := true) rfl rfl
-- M_goLawFrom
def f_M_goLawFrom_12 : Nat → Int32 → ip_St → Option (Int32 × ip_St)
  | 0, _, _ => none
  | n + 1, x2, S => (if (S.1 30 2) ≤ x2 then some (x2, S) else ((ip_aI S 32 x2).bind fun zv2 => ((f_M_goLaw zv2 S).bind fun zq3 => (if zq3.1 = false then some (x2, zq3.2) else (f_M_goLawFrom_12 n (x2 + 1) zq3.2)))))
set_option maxRecDepth 10000 in
theorem E_M_goLawFrom_12 : ∀ (n : Nat) {x2 : Int32} {S : ip_St} {r : Int32} {S9 : ip_St} {d1 : Option Value}, f_M_goLawFrom_12 n x2 S = some (r, S9) → ip_Ev 111 12 [some (.ref 30), d1, some (.int x2)] [] S (some (.int r)) S9 := by
  intro n
  induction n with
  | zero =>
    intro x2 S r S9 d1 h
    cases h
  | succ n ih =>
    intro x2 S r S9 d1 h
    rw [f_M_goLawFrom_12] at h
    refine ip_Ev.steps 3 (pc' := 17) (lv' := [some (.ref 30), d1, some (.int x2)]) (st' := [.int (S.1 30 2), .int x2]) (S1 := S) rfl ?_
    refine ip_Ev.iff2 rfl rfl ip_cGe (fun zhc1 => ?_) (fun zhc1 => ?_)
    · rw [if_pos zhc1] at h
      refine ip_Ev.steps 1 (pc' := 40) (lv' := [some (.ref 30), d1, some (.int x2)]) (st' := [.int x2]) (S1 := S) rfl ?_
      cases h
      exact ip_Ev.ret rfl
    · rw [if_neg zhc1] at h
      refine ip_Ev.steps 4 (pc' := 26) (lv' := [some (.ref 30), d1, some (.int x2)]) (st' := [.int x2, .ref 32, .ref 30]) (S1 := S) rfl ?_
      obtain ⟨zv2, hzv2, h⟩ := ip_bind h
      refine ip_Ev.iald rfl hzv2 ?_
      obtain ⟨⟨zv4, zS5⟩, hzq3, h⟩ := ip_bind h
      dsimp only at h
      refine ip_Ev.call (i := 110) (a := [.ref 30, .int zv2]) (r := []) rfl (T_M_goLaw hzq3) ?_
      show ip_Ev 111 30 [some (.ref 30), d1, some (.int x2)] [.int (ip_b2i zv4)] zS5 _ _
      refine ip_Ev.iff1 rfl rfl ip_bEq (fun zhc6 => ?_) (fun zhc6 => ?_)
      · rw [if_pos zhc6] at h
        refine ip_Ev.steps 1 (pc' := 40) (lv' := [some (.ref 30), d1, some (.int x2)]) (st' := [.int x2]) (S1 := zS5) rfl ?_
        cases h
        exact ip_Ev.ret rfl
      · rw [if_neg zhc6] at h
        refine ip_Ev.steps 2 (pc' := 12) (lv' := [some (.ref 30), (ip_kd d1), some (.int (x2 + 1))]) (st' := []) (S1 := zS5) rfl ?_
        exact ih h
def f_M_goLawFrom (p1 : Int32) (S : ip_St) : Option (Int32 × ip_St) := (f_M_goLawFrom_12 ip_FU p1 (ip_upI (ip_upI S 30 4 0) 30 5 0))
set_option maxRecDepth 10000 in
theorem T_M_goLawFrom {p1 : Int32} {S : ip_St} {r : Int32} {S9 : ip_St} (h : f_M_goLawFrom p1 S = some (r, S9)) : ip_Me 111 [.ref 30, .int p1] S (some (.int r)) S9 := by
  unfold f_M_goLawFrom at h
  refine ⟨[some (.ref 30), some (.int p1), none], rfl, ?_⟩
  refine ip_Ev.steps 8 (pc' := 12) (lv' := [some (.ref 30), some (.int p1), some (.int p1)]) (st' := []) (S1 := (ip_upI (ip_upI S 30 4 0) 30 5 0)) rfl ?_
  exact E_M_goLawFrom_12 ip_FU h
-- M_faultOf
def f_M_faultOf_61 (x1 : Int32) (S : ip_St) : Option (Int32 × ip_St) := (if (S.1 30 6) = (-1) then some (x1, S) else ((f_M_goLawFrom (S.1 30 6) S).bind fun zq2 => some (zq2.1, zq2.2)))
set_option maxRecDepth 10000 in
theorem E_M_faultOf_61 {x1 : Int32} {S : ip_St} {r : Int32} {S9 : ip_St} (h : f_M_faultOf_61 x1 S = some (r, S9)) : ip_Ev 112 61 [some (.ref 30), some (.int x1)] [] S (some (.int r)) S9 := by
  unfold f_M_faultOf_61 at h
  refine ip_Ev.steps 3 (pc' := 66) (lv' := [some (.ref 30), some (.int x1)]) (st' := [.int (-1), .int (S.1 30 6)]) (S1 := S) rfl ?_
  refine ip_Ev.iff2 rfl rfl ip_cNe (fun zhc1 => ?_) (fun zhc1 => ?_)
  · rw [if_neg zhc1] at h
    refine ip_Ev.steps 3 (pc' := 78) (lv' := [some (.ref 30), some (.int x1)]) (st' := [.int (S.1 30 6), .ref 30]) (S1 := S) rfl ?_
    obtain ⟨⟨zv3, zS4⟩, hzq2, h⟩ := ip_bind h
    dsimp only at h
    refine ip_Ev.call (i := 111) (a := [.ref 30, .int (S.1 30 6)]) (r := []) rfl (T_M_goLawFrom hzq2) ?_
    show ip_Ev 112 81 [some (.ref 30), some (.int x1)] [.int zv3] zS4 _ _
    cases h
    exact ip_Ev.ret rfl
  · rw [if_pos (Decidable.of_not_not zhc1)] at h
    refine ip_Ev.steps 2 (pc' := 81) (lv' := [some (.ref 30), some (.int x1)]) (st' := [.int x1]) (S1 := S) rfl ?_
    cases h
    exact ip_Ev.ret rfl
def f_M_faultOf_52 (k7 : Int32 → ip_St → Option (Int32 × ip_St)) (x1 : Int32) (s1 : Int32) (S : ip_St) : Option (Int32 × ip_St) := (k7 (x1 + 1) (ip_upI S 30 6 s1))
set_option maxRecDepth 10000 in
theorem E_M_faultOf_52 {k7 : Int32 → ip_St → Option (Int32 × ip_St)} (hk7 : ∀ {x1 : Int32} {S : ip_St} {r : Int32} {S9 : ip_St}, k7 x1 S = some (r, S9) → ip_Ev 112 7 [some (.ref 30), some (.int x1)] [] S (some (.int r)) S9) {x1 : Int32} {s1 : Int32} {S : ip_St} {r : Int32} {S9 : ip_St} (h : f_M_faultOf_52 k7 x1 s1 S = some (r, S9)) : ip_Ev 112 52 [some (.ref 30), some (.int x1)] [.int s1, .ref 30] S (some (.int r)) S9 := by
  unfold f_M_faultOf_52 at h
  refine ip_Ev.steps 3 (pc' := 7) (lv' := [some (.ref 30), some (.int (x1 + 1))]) (st' := []) (S1 := (ip_upI S 30 6 s1)) rfl ?_
  exact hk7 h
def f_M_faultOf_7 : Nat → Int32 → ip_St → Option (Int32 × ip_St)
  | 0, _, _ => none
  | n + 1, x1, S => (if (S.1 30 2) ≤ x1 then (f_M_faultOf_61 x1 S) else (if (S.1 30 6) = (-1) then ((f_M_isJudgesLetter x1 S).bind fun zv4 => (if zv4 = true then ((ip_aI S 32 x1).bind fun zv6 => (if zv6 = 59 then (f_M_faultOf_52 (f_M_faultOf_7 n) x1 (x1 + 1) S) else (f_M_faultOf_52 (f_M_faultOf_7 n) x1 (-1) S))) else some (x1, S))) else (f_M_faultOf_61 x1 S)))
set_option maxRecDepth 10000 in
theorem E_M_faultOf_7 : ∀ (n : Nat) {x1 : Int32} {S : ip_St} {r : Int32} {S9 : ip_St}, f_M_faultOf_7 n x1 S = some (r, S9) → ip_Ev 112 7 [some (.ref 30), some (.int x1)] [] S (some (.int r)) S9 := by
  intro n
  induction n with
  | zero =>
    intro x1 S r S9 h
    cases h
  | succ n ih =>
    intro x1 S r S9 h
    rw [f_M_faultOf_7] at h
    refine ip_Ev.steps 3 (pc' := 12) (lv' := [some (.ref 30), some (.int x1)]) (st' := [.int (S.1 30 2), .int x1]) (S1 := S) rfl ?_
    refine ip_Ev.iff2 rfl rfl ip_cGe (fun zhc1 => ?_) (fun zhc1 => ?_)
    · rw [if_pos zhc1] at h
      exact E_M_faultOf_61 h
    · rw [if_neg zhc1] at h
      refine ip_Ev.steps 3 (pc' := 20) (lv' := [some (.ref 30), some (.int x1)]) (st' := [.int (-1), .int (S.1 30 6)]) (S1 := S) rfl ?_
      refine ip_Ev.iff2 rfl rfl ip_cNe (fun zhc2 => ?_) (fun zhc2 => ?_)
      · rw [if_neg zhc2] at h
        exact E_M_faultOf_61 h
      · rw [if_pos (Decidable.of_not_not zhc2)] at h
        refine ip_Ev.steps 2 (pc' := 25) (lv' := [some (.ref 30), some (.int x1)]) (st' := [.int x1, .ref 30]) (S1 := S) rfl ?_
        obtain ⟨zv4, hzq3, h⟩ := ip_bind h
        refine ip_Ev.call (i := 105) (a := [.ref 30, .int x1]) (r := []) rfl (T_M_isJudgesLetter hzq3) ?_
        show ip_Ev 112 28 [some (.ref 30), some (.int x1)] [.int (ip_b2i zv4)] S _ _
        refine ip_Ev.iff1 rfl rfl ip_bNe (fun zhc5 => ?_) (fun zhc5 => ?_)
        · rw [if_pos zhc5] at h
          refine ip_Ev.steps 4 (pc' := 39) (lv' := [some (.ref 30), some (.int x1)]) (st' := [.int x1, .ref 32, .ref 30]) (S1 := S) rfl ?_
          obtain ⟨zv6, hzv6, h⟩ := ip_bind h
          refine ip_Ev.iald rfl hzv6 ?_
          refine ip_Ev.steps 1 (pc' := 42) (lv' := [some (.ref 30), some (.int x1)]) (st' := [.int 59, .int zv6, .ref 30]) (S1 := S) rfl ?_
          refine ip_Ev.iff2 rfl rfl ip_cNe (fun zhc7 => ?_) (fun zhc7 => ?_)
          · rw [if_neg zhc7] at h
            refine ip_Ev.steps 1 (pc' := 52) (lv' := [some (.ref 30), some (.int x1)]) (st' := [.int (-1), .ref 30]) (S1 := S) rfl ?_
            exact E_M_faultOf_52 ih h
          · rw [if_pos (Decidable.of_not_not zhc7)] at h
            refine ip_Ev.steps 4 (pc' := 52) (lv' := [some (.ref 30), some (.int x1)]) (st' := [.int (x1 + 1), .ref 30]) (S1 := S) rfl ?_
            exact E_M_faultOf_52 ih h
        · rw [if_neg zhc5] at h
          refine ip_Ev.steps 1 (pc' := 32) (lv' := [some (.ref 30), some (.int x1)]) (st' := [.int x1]) (S1 := S) rfl ?_
          cases h
          exact ip_Ev.ret rfl
def f_M_faultOf  (S : ip_St) : Option (Int32 × ip_St) := (f_M_faultOf_7 ip_FU 0 (ip_upI S 30 6 (-1)))
set_option maxRecDepth 10000 in
theorem T_M_faultOf  {S : ip_St} {r : Int32} {S9 : ip_St} (h : f_M_faultOf S = some (r, S9)) : ip_Me 112 [.ref 30] S (some (.int r)) S9 := by
  unfold f_M_faultOf at h
  refine ⟨[some (.ref 30), none], rfl, ?_⟩
  refine ip_Ev.steps 5 (pc' := 7) (lv' := [some (.ref 30), some (.int 0)]) (st' := []) (S1 := (ip_upI S 30 6 (-1))) rfl ?_
  exact E_M_faultOf_7 ip_FU h
-- M_fault
def f_M_fault  (S : ip_St) : Option (Int32 × ip_St) := ((f_M_faultOf S).bind fun zq1 => some (zq1.1, zq1.2))
set_option maxRecDepth 10000 in
theorem T_M_fault  {S : ip_St} {r : Int32} {S9 : ip_St} (h : f_M_fault S = some (r, S9)) : ip_Me 113 [.ref 30] S (some (.int r)) S9 := by
  unfold f_M_fault at h
  refine ⟨[some (.ref 30)], rfl, ?_⟩
  refine ip_Ev.steps 1 (pc' := 1) (lv' := [some (.ref 30)]) (st' := [.ref 30]) (S1 := S) rfl ?_
  obtain ⟨⟨zv2, zS3⟩, hzq1, h⟩ := ip_bind h
  dsimp only at h
  refine ip_Ev.call (i := 112) (a := [.ref 30]) (r := []) rfl (T_M_faultOf hzq1) ?_
  show ip_Ev 113 4 [some (.ref 30)] [.int zv2] zS3 _ _
  cases h
  exact ip_Ev.ret rfl
-- R_isWhole
def f_R_isWhole  (S : ip_St) : Bool := (if (S.1 2 9) = 0 then (if (S.1 2 10) = 0 then true else false) else false)
set_option maxRecDepth 10000 in
theorem T_R_isWhole  {S : ip_St} {r : Bool} (h : f_R_isWhole S = r) : ip_Me 21 [.ref 2] S (some (.int (ip_b2i r))) S := by
  unfold f_R_isWhole at h
  refine ⟨[some (.ref 2)], rfl, ?_⟩
  refine ip_Ev.steps 2 (pc' := 4) (lv' := [some (.ref 2)]) (st' := [.int (S.1 2 9)]) (S1 := S) rfl ?_
  refine ip_Ev.iff1 rfl rfl ip_cNe (fun zhc1 => ?_) (fun zhc1 => ?_)
  · rw [if_neg zhc1] at h
    refine ip_Ev.steps 1 (pc' := 19) (lv' := [some (.ref 2)]) (st' := [.int 0]) (S1 := S) rfl ?_
    cases h
    exact ip_Ev.retB (b := false) rfl rfl
  · rw [if_pos (Decidable.of_not_not zhc1)] at h
    refine ip_Ev.steps 2 (pc' := 11) (lv' := [some (.ref 2)]) (st' := [.int (S.1 2 10)]) (S1 := S) rfl ?_
    refine ip_Ev.iff1 rfl rfl ip_cNe (fun zhc2 => ?_) (fun zhc2 => ?_)
    · rw [if_neg zhc2] at h
      refine ip_Ev.steps 1 (pc' := 19) (lv' := [some (.ref 2)]) (st' := [.int 0]) (S1 := S) rfl ?_
      cases h
      exact ip_Ev.retB (b := false) rfl rfl
    · rw [if_pos (Decidable.of_not_not zhc2)] at h
      refine ip_Ev.steps 2 (pc' := 19) (lv' := [some (.ref 2)]) (st' := [.int 1]) (S1 := S) rfl ?_
      cases h
      exact ip_Ev.retB (b := true) rfl rfl
-- D_open_12
def f_D_open_12 (p1 : Int32) (S : ip_St) : ip_St := (ip_upI (ip_upI (ip_upI (ip_upI S 12 1 p1) 12 3 0) 12 4 0) 12 6 0)
set_option maxRecDepth 10000 in
theorem T_D_open_12 {p1 : Int32} {S : ip_St} {S9 : ip_St} (h : f_D_open_12 p1 S = S9) : ip_Me 22 [.ref 12, .int p1] S none S9 := by
  unfold f_D_open_12 at h
  refine ⟨[some (.ref 12), some (.int p1)], rfl, ?_⟩
  refine ip_Ev.steps 12 (pc' := 20) (lv' := [some (.ref 12), some (.int p1)]) (st' := []) (S1 := (ip_upI (ip_upI (ip_upI (ip_upI S 12 1 p1) 12 3 0) 12 4 0) 12 6 0)) rfl ?_
  cases h
  exact ip_Ev.ret rfl
-- J_unhear
def f_J_unhear (p0 : Nat) (S : ip_St) : ip_St := (ip_upI (ip_upI (ip_upI S p0 3 0) p0 4 0) p0 5 0)
set_option maxRecDepth 10000 in
theorem T_J_unhear {p0 : Nat} {S : ip_St} {S9 : ip_St} (hp0 : ip_ob p0 = some 1) (h : f_J_unhear p0 S = S9) : ip_Me 23 [.ref p0] S none S9 := by
  unfold f_J_unhear at h
  refine ⟨[some (.ref p0)], rfl, ?_⟩
  refine ip_Ev.steps 2 (pc' := 2) (lv' := [some (.ref p0)]) (st' := [.int 0, .ref p0]) (S1 := S) rfl ?_
  refine ip_Ev.pfI rfl rfl hp0 rfl ?_
  refine ip_Ev.steps 2 (pc' := 7) (lv' := [some (.ref p0)]) (st' := [.int 0, .ref p0]) (S1 := (ip_upI S p0 3 0)) rfl ?_
  refine ip_Ev.pfI rfl rfl hp0 rfl ?_
  refine ip_Ev.steps 2 (pc' := 12) (lv' := [some (.ref p0)]) (st' := [.int 0, .ref p0]) (S1 := (ip_upI (ip_upI S p0 3 0) p0 4 0)) rfl ?_
  refine ip_Ev.pfZ rfl rfl hp0 rfl rfl ?_
  cases h
  exact ip_Ev.ret rfl
-- J_clear
def f_J_clear (p0 : Nat) (p1 : Int32) (S : ip_St) : ip_St := (f_J_unhear p0 (ip_upI (ip_upI (ip_upI S p0 0 p1) p0 1 0) p0 2 0))
set_option maxRecDepth 10000 in
theorem T_J_clear {p0 : Nat} {p1 : Int32} {S : ip_St} {S9 : ip_St} (hp0 : ip_ob p0 = some 1) (h : f_J_clear p0 p1 S = S9) : ip_Me 24 [.ref p0, .int p1] S none S9 := by
  unfold f_J_clear at h
  refine ⟨[some (.ref p0), some (.int p1)], rfl, ?_⟩
  refine ip_Ev.steps 2 (pc' := 2) (lv' := [some (.ref p0), some (.int p1)]) (st' := [.int p1, .ref p0]) (S1 := S) rfl ?_
  refine ip_Ev.pfI rfl rfl hp0 rfl ?_
  refine ip_Ev.steps 2 (pc' := 7) (lv' := [some (.ref p0), some (.int p1)]) (st' := [.int 0, .ref p0]) (S1 := (ip_upI S p0 0 p1)) rfl ?_
  refine ip_Ev.pfI rfl rfl hp0 rfl ?_
  refine ip_Ev.steps 2 (pc' := 12) (lv' := [some (.ref p0), some (.int p1)]) (st' := [.int 0, .ref p0]) (S1 := (ip_upI (ip_upI S p0 0 p1) p0 1 0)) rfl ?_
  refine ip_Ev.pfI rfl rfl hp0 rfl ?_
  refine ip_Ev.steps 1 (pc' := 16) (lv' := [some (.ref p0), some (.int p1)]) (st' := [.ref p0]) (S1 := (ip_upI (ip_upI (ip_upI S p0 0 p1) p0 1 0) p0 2 0)) rfl ?_
  refine ip_Ev.callJ (i := 23) (b := p0) (a := []) (r := []) rfl rfl rfl rfl hp0 rfl rfl (T_J_unhear hp0 rfl) ?_
  show ip_Ev 24 19 [some (.ref p0), some (.int p1)] [] (f_J_unhear p0 (ip_upI (ip_upI (ip_upI S p0 0 p1) p0 1 0) p0 2 0)) _ _
  cases h
  exact ip_Ev.ret rfl
-- J_know
def f_J_know (p0 : Nat) (p1 : Int32) (p2 : Int32) (S : ip_St) : ip_St := (ip_upI (ip_upI S p0 1 ((S.1 p0 1) ||| (ip_ishl 1 p1))) p0 2 (((ip_upI S p0 1 ((S.1 p0 1) ||| (ip_ishl 1 p1))).1 p0 2) ||| (ip_ishl p2 p1)))
set_option maxRecDepth 10000 in
theorem T_J_know {p0 : Nat} {p1 : Int32} {p2 : Int32} {S : ip_St} {S9 : ip_St} (hp0 : ip_ob p0 = some 1) (h : f_J_know p0 p1 p2 S = S9) : ip_Me 25 [.ref p0, .int p1, .int p2] S none S9 := by
  unfold f_J_know at h
  refine ⟨[some (.ref p0), some (.int p1), some (.int p2)], rfl, ?_⟩
  refine ip_Ev.steps 2 (pc' := 2) (lv' := [some (.ref p0), some (.int p1), some (.int p2)]) (st' := [.ref p0, .ref p0]) (S1 := S) rfl ?_
  refine ip_Ev.gfI rfl rfl hp0 (by decide) ?_
  refine ip_Ev.steps 4 (pc' := 9) (lv' := [some (.ref p0), some (.int p1), some (.int p2)]) (st' := [.int ((S.1 p0 1) ||| (ip_ishl 1 p1)), .ref p0]) (S1 := S) rfl ?_
  refine ip_Ev.pfI rfl rfl hp0 rfl ?_
  refine ip_Ev.steps 2 (pc' := 14) (lv' := [some (.ref p0), some (.int p1), some (.int p2)]) (st' := [.ref p0, .ref p0]) (S1 := (ip_upI S p0 1 ((S.1 p0 1) ||| (ip_ishl 1 p1)))) rfl ?_
  refine ip_Ev.gfI rfl rfl hp0 (by decide) ?_
  refine ip_Ev.steps 4 (pc' := 21) (lv' := [some (.ref p0), some (.int p1), some (.int p2)]) (st' := [.int (((ip_upI S p0 1 ((S.1 p0 1) ||| (ip_ishl 1 p1))).1 p0 2) ||| (ip_ishl p2 p1)), .ref p0]) (S1 := (ip_upI S p0 1 ((S.1 p0 1) ||| (ip_ishl 1 p1)))) rfl ?_
  refine ip_Ev.pfI rfl rfl hp0 rfl ?_
  cases h
  exact ip_Ev.ret rfl
-- A_seat
def f_A_seat_54 (k15 : Nat → Int32 → Int32 → ip_St → Option (ip_St)) (c1 : Nat) (x2 : Int32) (x3 : Int32) (t0 : Nat) (s1 : Int32) (s2 : Int32) (S : ip_St) : Option (ip_St) := (k15 c1 x2 (x3 + 1) (f_J_know t0 s1 s2 S))
set_option maxRecDepth 10000 in
theorem E_A_seat_54 {k15 : Nat → Int32 → Int32 → ip_St → Option (ip_St)} (hk15 : ∀ {c1 : Nat} {x2 : Int32} {x3 : Int32} {S : ip_St} {S9 : ip_St} {d4 : Option Value}, ip_ob c1 = some 1 → k15 c1 x2 x3 S = some S9 → ip_Ev 26 15 [some (.ref 0), some (.ref c1), some (.int x2), some (.int x3), d4] [] S none S9) {c1 : Nat} {x2 : Int32} {x3 : Int32} {t0 : Nat} {s1 : Int32} {s2 : Int32} {S : ip_St} {S9 : ip_St} {d4 : Option Value} (hc1 : ip_ob c1 = some 1) (ht0 : ip_ob t0 = some 1) (h : f_A_seat_54 k15 c1 x2 x3 t0 s1 s2 S = some S9) : ip_Ev 26 54 [some (.ref 0), some (.ref c1), some (.int x2), some (.int x3), d4] [.int s2, .int s1, .ref t0] S none S9 := by
  unfold f_A_seat_54 at h
  refine ip_Ev.callJ (i := 25) (b := t0) (a := [.int s1, .int s2]) (r := []) rfl rfl rfl rfl ht0 rfl rfl (T_J_know ht0 rfl) ?_
  show ip_Ev 26 57 [some (.ref 0), some (.ref c1), some (.int x2), some (.int x3), d4] [] (f_J_know t0 s1 s2 S) _ _
  refine ip_Ev.steps 2 (pc' := 15) (lv' := [some (.ref 0), some (.ref c1), some (.int x2), some (.int (x3 + 1)), d4]) (st' := []) (S1 := (f_J_know t0 s1 s2 S)) rfl ?_
  exact hk15 hc1 h
def f_A_seat_15 : Nat → Nat → Int32 → Int32 → ip_St → Option (ip_St)
  | 0, _, _, _, _ => none
  | n + 1, c1, x2, x3, S => (if 6 ≤ x3 then some S else ((ip_aI S 1 ((x2 + 1) + x3)).bind fun zv2 => (if zv2 = 63 then (f_A_seat_15 n c1 x2 (x3 + 1) S) else (if zv2 = 49 then (f_A_seat_54 (f_A_seat_15 n) c1 x2 x3 c1 x3 1 S) else (f_A_seat_54 (f_A_seat_15 n) c1 x2 x3 c1 x3 0 S)))))
set_option maxRecDepth 10000 in
theorem E_A_seat_15 : ∀ (n : Nat) {c1 : Nat} {x2 : Int32} {x3 : Int32} {S : ip_St} {S9 : ip_St} {d4 : Option Value}, ip_ob c1 = some 1 → f_A_seat_15 n c1 x2 x3 S = some S9 → ip_Ev 26 15 [some (.ref 0), some (.ref c1), some (.int x2), some (.int x3), d4] [] S none S9 := by
  intro n
  induction n with
  | zero =>
    intro c1 x2 x3 S S9 d4 hc1 h
    cases h
  | succ n ih =>
    intro c1 x2 x3 S S9 d4 hc1 h
    rw [f_A_seat_15] at h
    refine ip_Ev.steps 2 (pc' := 18) (lv' := [some (.ref 0), some (.ref c1), some (.int x2), some (.int x3), d4]) (st' := [.int 6, .int x3]) (S1 := S) rfl ?_
    refine ip_Ev.iff2 rfl rfl ip_cGe (fun zhc1 => ?_) (fun zhc1 => ?_)
    · rw [if_pos zhc1] at h
      cases h
      exact ip_Ev.ret rfl
    · rw [if_neg zhc1] at h
      refine ip_Ev.steps 7 (pc' := 30) (lv' := [some (.ref 0), some (.ref c1), some (.int x2), some (.int x3), d4]) (st' := [.int ((x2 + 1) + x3), .ref 1]) (S1 := S) rfl ?_
      obtain ⟨zv2, hzv2, h⟩ := ip_bind h
      refine ip_Ev.iald rfl hzv2 ?_
      refine ip_Ev.steps 3 (pc' := 37) (lv' := [some (.ref 0), some (.ref c1), some (.int x2), some (.int x3), some (.int zv2)]) (st' := [.int 63, .int zv2]) (S1 := S) rfl ?_
      refine ip_Ev.iff2 rfl rfl ip_cEq (fun zhc3 => ?_) (fun zhc3 => ?_)
      · rw [if_pos zhc3] at h
        refine ip_Ev.steps 2 (pc' := 15) (lv' := [some (.ref 0), some (.ref c1), some (.int x2), some (.int (x3 + 1)), some (.int zv2)]) (st' := []) (S1 := S) rfl ?_
        exact ih hc1 h
      · rw [if_neg zhc3] at h
        refine ip_Ev.steps 4 (pc' := 46) (lv' := [some (.ref 0), some (.ref c1), some (.int x2), some (.int x3), some (.int zv2)]) (st' := [.int 49, .int zv2, .int x3, .ref c1]) (S1 := S) rfl ?_
        refine ip_Ev.iff2 rfl rfl ip_cNe (fun zhc4 => ?_) (fun zhc4 => ?_)
        · rw [if_neg zhc4] at h
          refine ip_Ev.steps 1 (pc' := 54) (lv' := [some (.ref 0), some (.ref c1), some (.int x2), some (.int x3), some (.int zv2)]) (st' := [.int 0, .int x3, .ref c1]) (S1 := S) rfl ?_
          exact E_A_seat_54 ih hc1 hc1 h
        · rw [if_pos (Decidable.of_not_not zhc4)] at h
          refine ip_Ev.steps 2 (pc' := 54) (lv' := [some (.ref 0), some (.ref c1), some (.int x2), some (.int x3), some (.int zv2)]) (st' := [.int 1, .int x3, .ref c1]) (S1 := S) rfl ?_
          exact E_A_seat_54 ih hc1 hc1 h
def f_A_seat (p1 : Nat) (p2 : Int32) (S : ip_St) : Option (ip_St) := ((ip_aI S 1 p2).bind fun zv1 => (f_A_seat_15 ip_FU p1 p2 0 (f_J_clear p1 (f_A_kindOf zv1) S)))
set_option maxRecDepth 10000 in
theorem T_A_seat {p1 : Nat} {p2 : Int32} {S : ip_St} {S9 : ip_St} (hp1 : ip_ob p1 = some 1) (h : f_A_seat p1 p2 S = some S9) : ip_Me 26 [.ref 0, .ref p1, .int p2] S none S9 := by
  unfold f_A_seat at h
  refine ⟨[some (.ref 0), some (.ref p1), some (.int p2), none, none], rfl, ?_⟩
  refine ip_Ev.steps 4 (pc' := 6) (lv' := [some (.ref 0), some (.ref p1), some (.int p2), none, none]) (st' := [.int p2, .ref 1, .ref p1]) (S1 := S) rfl ?_
  obtain ⟨zv1, hzv1, h⟩ := ip_bind h
  refine ip_Ev.iald rfl hzv1 ?_
  refine ip_Ev.call (i := 17) (a := [.int zv1]) (r := [.ref p1]) rfl (T_A_kindOf rfl) ?_
  show ip_Ev 26 10 [some (.ref 0), some (.ref p1), some (.int p2), none, none] [.int (f_A_kindOf zv1), .ref p1] S _ _
  refine ip_Ev.callJ (i := 24) (b := p1) (a := [.int (f_A_kindOf zv1)]) (r := []) rfl rfl rfl rfl hp1 rfl rfl (T_J_clear hp1 rfl) ?_
  show ip_Ev 26 13 [some (.ref 0), some (.ref p1), some (.int p2), none, none] [] (f_J_clear p1 (f_A_kindOf zv1) S) _ _
  refine ip_Ev.steps 2 (pc' := 15) (lv' := [some (.ref 0), some (.ref p1), some (.int p2), some (.int 0), none]) (st' := []) (S1 := (f_J_clear p1 (f_A_kindOf zv1) S)) rfl ?_
  exact E_A_seat_15 ip_FU hp1 h
-- R_result
def f_R_result  (S : ip_St) : Option (ip_St) := ((f_R_lawSoFar S).bind fun zv2 => some (ip_upL S 3 0 zv2))
set_option maxRecDepth 10000 in
theorem T_R_result  {S : ip_St} {S9 : ip_St} (h : f_R_result S = some S9) : ip_Me 27 [.ref 2] S (some (.ref 3)) S9 := by
  unfold f_R_result at h
  refine ⟨[some (.ref 2)], rfl, ?_⟩
  refine ip_Ev.steps 3 (pc' := 5) (lv' := [some (.ref 2)]) (st' := [.ref 2, .ref 3]) (S1 := S) rfl ?_
  obtain ⟨zv2, hzq1, h⟩ := ip_bind h
  refine ip_Ev.call (i := 10) (a := [.ref 2]) (r := [.ref 3]) rfl (T_R_lawSoFar hzq1) ?_
  show ip_Ev 27 8 [some (.ref 2)] [.long zv2, .ref 3] S _ _
  refine ip_Ev.steps 3 (pc' := 15) (lv' := [some (.ref 2)]) (st' := [.ref 3]) (S1 := (ip_upL S 3 0 zv2)) rfl ?_
  cases h
  exact ip_Ev.ret rfl
