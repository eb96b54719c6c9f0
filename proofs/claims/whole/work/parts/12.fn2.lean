-- L_take_17_3
def f_L_take_17_3  (S : ip_St) : ip_St := (ip_upI (ip_upI (ip_upI (ip_upI (ip_upL S 17 0 (S.2 3 0)) 17 1 ((ip_upL S 17 0 (S.2 3 0)).1 3 1)) 17 2 ((ip_upI (ip_upL S 17 0 (S.2 3 0)) 17 1 ((ip_upL S 17 0 (S.2 3 0)).1 3 1)).1 3 2)) 17 3 ((ip_upI (ip_upI (ip_upL S 17 0 (S.2 3 0)) 17 1 ((ip_upL S 17 0 (S.2 3 0)).1 3 1)) 17 2 ((ip_upI (ip_upL S 17 0 (S.2 3 0)) 17 1 ((ip_upL S 17 0 (S.2 3 0)).1 3 1)).1 3 2)).1 3 3)) 17 4 ((ip_upI (ip_upI (ip_upI (ip_upL S 17 0 (S.2 3 0)) 17 1 ((ip_upL S 17 0 (S.2 3 0)).1 3 1)) 17 2 ((ip_upI (ip_upL S 17 0 (S.2 3 0)) 17 1 ((ip_upL S 17 0 (S.2 3 0)).1 3 1)).1 3 2)) 17 3 ((ip_upI (ip_upI (ip_upL S 17 0 (S.2 3 0)) 17 1 ((ip_upL S 17 0 (S.2 3 0)).1 3 1)) 17 2 ((ip_upI (ip_upL S 17 0 (S.2 3 0)) 17 1 ((ip_upL S 17 0 (S.2 3 0)).1 3 1)).1 3 2)).1 3 3)).1 3 4))
set_option maxRecDepth 10000 in
theorem T_L_take_17_3  {S : ip_St} {S9 : ip_St} (h : f_L_take_17_3 S = S9) : ip_Me 28 [.ref 17, .ref 3] S none S9 := by
  unfold f_L_take_17_3 at h
  refine ⟨[some (.ref 17), some (.ref 3)], rfl, ?_⟩
  refine ip_Ev.steps 12 (pc' := 24) (lv' := [some (.ref 17), some (.ref 3)]) (st' := []) (S1 := (ip_upI (ip_upI (ip_upL S 17 0 (S.2 3 0)) 17 1 ((ip_upL S 17 0 (S.2 3 0)).1 3 1)) 17 2 ((ip_upI (ip_upL S 17 0 (S.2 3 0)) 17 1 ((ip_upL S 17 0 (S.2 3 0)).1 3 1)).1 3 2))) rfl ?_
  refine ip_Ev.steps 8 (pc' := 40) (lv' := [some (.ref 17), some (.ref 3)]) (st' := []) (S1 := (ip_upI (ip_upI (ip_upI (ip_upI (ip_upL S 17 0 (S.2 3 0)) 17 1 ((ip_upL S 17 0 (S.2 3 0)).1 3 1)) 17 2 ((ip_upI (ip_upL S 17 0 (S.2 3 0)) 17 1 ((ip_upL S 17 0 (S.2 3 0)).1 3 1)).1 3 2)) 17 3 ((ip_upI (ip_upI (ip_upL S 17 0 (S.2 3 0)) 17 1 ((ip_upL S 17 0 (S.2 3 0)).1 3 1)) 17 2 ((ip_upI (ip_upL S 17 0 (S.2 3 0)) 17 1 ((ip_upL S 17 0 (S.2 3 0)).1 3 1)).1 3 2)).1 3 3)) 17 4 ((ip_upI (ip_upI (ip_upI (ip_upL S 17 0 (S.2 3 0)) 17 1 ((ip_upL S 17 0 (S.2 3 0)).1 3 1)) 17 2 ((ip_upI (ip_upL S 17 0 (S.2 3 0)) 17 1 ((ip_upL S 17 0 (S.2 3 0)).1 3 1)).1 3 2)) 17 3 ((ip_upI (ip_upI (ip_upL S 17 0 (S.2 3 0)) 17 1 ((ip_upL S 17 0 (S.2 3 0)).1 3 1)) 17 2 ((ip_upI (ip_upL S 17 0 (S.2 3 0)) 17 1 ((ip_upL S 17 0 (S.2 3 0)).1 3 1)).1 3 2)).1 3 3)).1 3 4))) rfl ?_
  cases h
  exact ip_Ev.ret rfl
-- A_court
def f_A_court_44 : Nat → Int32 → ip_St → Option (Int32 × ip_St)
  | 0, _, _ => none
  | n + 1, x1, S => (if (S.1 0 3) ≤ x1 then ((f_R_result S).bind fun zS3 => some (((ip_upI (ip_upI (ip_upI (f_L_take_17_3 zS3) 0 6 0) 0 7 (((ip_upI (f_L_take_17_3 zS3) 0 6 0).1 0 7) + 1)) 0 1 0).1 0 3), (ip_upI (ip_upI (ip_upI (f_L_take_17_3 zS3) 0 6 0) 0 7 (((ip_upI (f_L_take_17_3 zS3) 0 6 0).1 0 7) + 1)) 0 1 0))) else ((ip_aA 13 x1).bind fun zv4 => ((f_A_seat zv4 (x1 * 8) S).bind fun zS6 => (f_A_court_44 n (x1 + 1) zS6))))
set_option maxRecDepth 10000 in
theorem E_A_court_44 : ∀ (n : Nat) {x1 : Int32} {S : ip_St} {r : Int32} {S9 : ip_St}, f_A_court_44 n x1 S = some (r, S9) → ip_Ev 29 44 [some (.ref 0), some (.int x1)] [] S (some (.int r)) S9 := by
  intro n
  induction n with
  | zero =>
    intro x1 S r S9 h
    cases h
  | succ n ih =>
    intro x1 S r S9 h
    rw [f_A_court_44] at h
    refine ip_Ev.steps 3 (pc' := 49) (lv' := [some (.ref 0), some (.int x1)]) (st' := [.int (S.1 0 3), .int x1]) (S1 := S) rfl ?_
    refine ip_Ev.iff2 rfl rfl ip_cGe (fun zhc1 => ?_) (fun zhc1 => ?_)
    · rw [if_pos zhc1] at h
      refine ip_Ev.steps 5 (pc' := 86) (lv' := [some (.ref 0), some (.int x1)]) (st' := [.ref 2, .ref 17]) (S1 := S) rfl ?_
      obtain ⟨zS3, hzq2, h⟩ := ip_bind h
      refine ip_Ev.call (i := 27) (a := [.ref 2]) (r := [.ref 17]) rfl (T_R_result hzq2) ?_
      show ip_Ev 29 89 [some (.ref 0), some (.int x1)] [.ref 3, .ref 17] zS3 _ _
      refine ip_Ev.call (i := 28) (a := [.ref 17, .ref 3]) (r := []) rfl (T_L_take_17_3 rfl) ?_
      show ip_Ev 29 92 [some (.ref 0), some (.int x1)] [] (f_L_take_17_3 zS3) _ _
      refine ip_Ev.steps 12 (pc' := 112) (lv' := [some (.ref 0), some (.int x1)]) (st' := []) (S1 := (ip_upI (ip_upI (ip_upI (f_L_take_17_3 zS3) 0 6 0) 0 7 (((ip_upI (f_L_take_17_3 zS3) 0 6 0).1 0 7) + 1)) 0 1 0)) rfl ?_
      refine ip_Ev.steps 2 (pc' := 116) (lv' := [some (.ref 0), some (.int x1)]) (st' := [.int ((ip_upI (ip_upI (ip_upI (f_L_take_17_3 zS3) 0 6 0) 0 7 (((ip_upI (f_L_take_17_3 zS3) 0 6 0).1 0 7) + 1)) 0 1 0).1 0 3)]) (S1 := (ip_upI (ip_upI (ip_upI (f_L_take_17_3 zS3) 0 6 0) 0 7 (((ip_upI (f_L_take_17_3 zS3) 0 6 0).1 0 7) + 1)) 0 1 0)) rfl ?_
      cases h
      exact ip_Ev.ret rfl
    · rw [if_neg zhc1] at h
      refine ip_Ev.steps 5 (pc' := 61) (lv' := [some (.ref 0), some (.int x1)]) (st' := [.int x1, .ref 13, .ref 0]) (S1 := S) rfl ?_
      obtain ⟨zv4, hzv4, h⟩ := ip_bind h
      refine ip_Ev.aald rfl hzv4 ?_
      have hozv4 := ip_aA_ob hzv4
      refine ip_Ev.steps 3 (pc' := 66) (lv' := [some (.ref 0), some (.int x1)]) (st' := [.int (x1 * 8), .ref zv4, .ref 0]) (S1 := S) rfl ?_
      obtain ⟨zS6, hzq5, h⟩ := ip_bind h
      refine ip_Ev.call (i := 26) (a := [.ref 0, .ref zv4, .int (x1 * 8)]) (r := []) rfl (T_A_seat hozv4 hzq5) ?_
      show ip_Ev 29 69 [some (.ref 0), some (.int x1)] [] zS6 _ _
      refine ip_Ev.steps 2 (pc' := 44) (lv' := [some (.ref 0), some (.int (x1 + 1))]) (st' := []) (S1 := zS6) rfl ?_
      exact ih h
def f_A_court  (S : ip_St) : Option (Int32 × ip_St) := ((f_A_scanCourt S).bind fun zq1 => (if zq1.1 < (zq1.2.1 0 1) then some ((-103), zq1.2) else (if (zq1.2.1 0 3) = 0 then some ((-103), zq1.2) else (if (f_R_isWhole zq1.2) = true then (f_A_court_44 ip_FU 0 (f_D_open_12 (zq1.2.1 0 3) zq1.2)) else some ((-103), zq1.2)))))
set_option maxRecDepth 10000 in
theorem T_A_court  {S : ip_St} {r : Int32} {S9 : ip_St} (h : f_A_court S = some (r, S9)) : ip_Me 29 [.ref 0] S (some (.int r)) S9 := by
  unfold f_A_court at h
  refine ⟨[some (.ref 0), none], rfl, ?_⟩
  refine ip_Ev.steps 1 (pc' := 1) (lv' := [some (.ref 0), none]) (st' := [.ref 0]) (S1 := S) rfl ?_
  obtain ⟨⟨zv2, zS3⟩, hzq1, h⟩ := ip_bind h
  dsimp only at h
  refine ip_Ev.call (i := 19) (a := [.ref 0]) (r := []) rfl (T_A_scanCourt hzq1) ?_
  show ip_Ev 29 4 [some (.ref 0), none] [.int zv2] zS3 _ _
  refine ip_Ev.steps 2 (pc' := 8) (lv' := [some (.ref 0), none]) (st' := [.int (zS3.1 0 1), .int zv2]) (S1 := zS3) rfl ?_
  refine ip_Ev.iff2 rfl rfl ip_cLt (fun zhc4 => ?_) (fun zhc4 => ?_)
  · rw [if_pos zhc4] at h
    refine ip_Ev.steps 1 (pc' := 30) (lv' := [some (.ref 0), none]) (st' := [.int (-103)]) (S1 := zS3) rfl ?_
    cases h
    exact ip_Ev.ret rfl
  · rw [if_neg zhc4] at h
    refine ip_Ev.steps 2 (pc' := 15) (lv' := [some (.ref 0), none]) (st' := [.int (zS3.1 0 3)]) (S1 := zS3) rfl ?_
    refine ip_Ev.iff1 rfl rfl ip_cEq (fun zhc5 => ?_) (fun zhc5 => ?_)
    · rw [if_pos zhc5] at h
      refine ip_Ev.steps 1 (pc' := 30) (lv' := [some (.ref 0), none]) (st' := [.int (-103)]) (S1 := zS3) rfl ?_
      cases h
      exact ip_Ev.ret rfl
    · rw [if_neg zhc5] at h
      refine ip_Ev.steps 2 (pc' := 22) (lv' := [some (.ref 0), none]) (st' := [.ref 2]) (S1 := zS3) rfl ?_
      refine ip_Ev.call (i := 21) (a := [.ref 2]) (r := []) rfl (T_R_isWhole rfl) ?_
      show ip_Ev 29 25 [some (.ref 0), none] [.int (ip_b2i (f_R_isWhole zS3))] zS3 _ _
      refine ip_Ev.iff1 rfl rfl ip_bNe (fun zhc6 => ?_) (fun zhc6 => ?_)
      · rw [if_pos zhc6] at h
        refine ip_Ev.steps 4 (pc' := 39) (lv' := [some (.ref 0), none]) (st' := [.int (zS3.1 0 3), .ref 12]) (S1 := zS3) rfl ?_
        refine ip_Ev.call (i := 22) (a := [.ref 12, .int (zS3.1 0 3)]) (r := []) rfl (T_D_open_12 rfl) ?_
        show ip_Ev 29 42 [some (.ref 0), none] [] (f_D_open_12 (zS3.1 0 3) zS3) _ _
        refine ip_Ev.steps 2 (pc' := 44) (lv' := [some (.ref 0), some (.int 0)]) (st' := []) (S1 := (f_D_open_12 (zS3.1 0 3) zS3)) rfl ?_
        exact E_A_court_44 ip_FU h
      · rw [if_neg zhc6] at h
        refine ip_Ev.steps 1 (pc' := 30) (lv' := [some (.ref 0), none]) (st' := [.int (-103)]) (S1 := zS3) rfl ?_
        cases h
        exact ip_Ev.ret rfl
-- M_isLawWhole
def f_M_isLawWhole  (S : ip_St) : Bool := (if (S.1 30 5) = 1 then (if (S.1 30 4) = 0 then true else false) else false)
set_option maxRecDepth 10000 in
theorem T_M_isLawWhole  {S : ip_St} {r : Bool} (h : f_M_isLawWhole S = r) : ip_Me 115 [.ref 30] S (some (.int (ip_b2i r))) S := by
  unfold f_M_isLawWhole at h
  refine ⟨[some (.ref 30)], rfl, ?_⟩
  refine ip_Ev.steps 3 (pc' := 5) (lv' := [some (.ref 30)]) (st' := [.int 1, .int (S.1 30 5)]) (S1 := S) rfl ?_
  refine ip_Ev.iff2 rfl rfl ip_cNe (fun zhc1 => ?_) (fun zhc1 => ?_)
  · rw [if_neg zhc1] at h
    refine ip_Ev.steps 1 (pc' := 20) (lv' := [some (.ref 30)]) (st' := [.int 0]) (S1 := S) rfl ?_
    cases h
    exact ip_Ev.retB (b := false) rfl rfl
  · rw [if_pos (Decidable.of_not_not zhc1)] at h
    refine ip_Ev.steps 2 (pc' := 12) (lv' := [some (.ref 30)]) (st' := [.int (S.1 30 4)]) (S1 := S) rfl ?_
    refine ip_Ev.iff1 rfl rfl ip_cNe (fun zhc2 => ?_) (fun zhc2 => ?_)
    · rw [if_neg zhc2] at h
      refine ip_Ev.steps 1 (pc' := 20) (lv' := [some (.ref 30)]) (st' := [.int 0]) (S1 := S) rfl ?_
      cases h
      exact ip_Ev.retB (b := false) rfl rfl
    · rw [if_pos (Decidable.of_not_not zhc2)] at h
      refine ip_Ev.steps 2 (pc' := 20) (lv' := [some (.ref 30)]) (st' := [.int 1]) (S1 := S) rfl ?_
      cases h
      exact ip_Ev.retB (b := true) rfl rfl
-- M_beginLaw
def f_M_beginLaw  (S : ip_St) : Option (ip_St) := ((ip_wL S 34 (S.1 30 14) 0).bind fun zS1 => ((ip_wL zS1 35 (zS1.1 30 14) (-1)).bind fun zS2 => ((ip_wI zS2 36 (zS2.1 30 14) 0).bind fun zS3 => some zS3)))
set_option maxRecDepth 10000 in
theorem T_M_beginLaw  {S : ip_St} {S9 : ip_St} (h : f_M_beginLaw S = some S9) : ip_Me 116 [.ref 30] S none S9 := by
  unfold f_M_beginLaw at h
  refine ⟨[some (.ref 30)], rfl, ?_⟩
  refine ip_Ev.steps 5 (pc' := 9) (lv' := [some (.ref 30)]) (st' := [.long 0, .int (S.1 30 14), .ref 34]) (S1 := S) rfl ?_
  obtain ⟨zS1, hzS1, h⟩ := ip_bind h
  refine ip_Ev.last rfl hzS1 ?_
  refine ip_Ev.steps 5 (pc' := 21) (lv' := [some (.ref 30)]) (st' := [.long (-1), .int (zS1.1 30 14), .ref 35]) (S1 := zS1) rfl ?_
  obtain ⟨zS2, hzS2, h⟩ := ip_bind h
  refine ip_Ev.last rfl hzS2 ?_
  refine ip_Ev.steps 5 (pc' := 31) (lv' := [some (.ref 30)]) (st' := [.int 0, .int (zS2.1 30 14), .ref 36]) (S1 := zS2) rfl ?_
  obtain ⟨zS3, hzS3, h⟩ := ip_bind h
  refine ip_Ev.iast rfl hzS3 ?_
  cases h
  exact ip_Ev.ret rfl
-- M_beginLevel
def f_M_beginLevel (p1 : Int32) (S : ip_St) : Option (ip_St) := ((ip_wI (ip_upI S 30 14 ((S.1 30 14) + 1)) 37 ((ip_upI S 30 14 ((S.1 30 14) + 1)).1 30 14) p1).bind fun zS1 => ((ip_wL zS1 38 (zS1.1 30 14) 0).bind fun zS2 => ((ip_wL zS2 39 (zS2.1 30 14) 0).bind fun zS3 => ((ip_wL zS3 40 (zS3.1 30 14) 0).bind fun zS4 => ((f_M_beginLaw zS4).bind fun zS6 => some zS6)))))
set_option maxRecDepth 10000 in
theorem T_M_beginLevel {p1 : Int32} {S : ip_St} {S9 : ip_St} (h : f_M_beginLevel p1 S = some S9) : ip_Me 117 [.ref 30, .int p1] S none S9 := by
  unfold f_M_beginLevel at h
  refine ⟨[some (.ref 30), some (.int p1)], rfl, ?_⟩
  refine ip_Ev.steps 11 (pc' := 19) (lv' := [some (.ref 30), some (.int p1)]) (st' := [.int p1, .int ((ip_upI S 30 14 ((S.1 30 14) + 1)).1 30 14), .ref 37]) (S1 := (ip_upI S 30 14 ((S.1 30 14) + 1))) rfl ?_
  obtain ⟨zS1, hzS1, h⟩ := ip_bind h
  refine ip_Ev.iast rfl hzS1 ?_
  refine ip_Ev.steps 5 (pc' := 29) (lv' := [some (.ref 30), some (.int p1)]) (st' := [.long 0, .int (zS1.1 30 14), .ref 38]) (S1 := zS1) rfl ?_
  obtain ⟨zS2, hzS2, h⟩ := ip_bind h
  refine ip_Ev.last rfl hzS2 ?_
  refine ip_Ev.steps 5 (pc' := 39) (lv' := [some (.ref 30), some (.int p1)]) (st' := [.long 0, .int (zS2.1 30 14), .ref 39]) (S1 := zS2) rfl ?_
  obtain ⟨zS3, hzS3, h⟩ := ip_bind h
  refine ip_Ev.last rfl hzS3 ?_
  refine ip_Ev.steps 5 (pc' := 49) (lv' := [some (.ref 30), some (.int p1)]) (st' := [.long 0, .int (zS3.1 30 14), .ref 40]) (S1 := zS3) rfl ?_
  obtain ⟨zS4, hzS4, h⟩ := ip_bind h
  refine ip_Ev.last rfl hzS4 ?_
  refine ip_Ev.steps 1 (pc' := 51) (lv' := [some (.ref 30), some (.int p1)]) (st' := [.ref 30]) (S1 := zS4) rfl ?_
  obtain ⟨zS6, hzq5, h⟩ := ip_bind h
  refine ip_Ev.call (i := 116) (a := [.ref 30]) (r := []) rfl (T_M_beginLaw hzq5) ?_
  show ip_Ev 117 54 [some (.ref 30), some (.int p1)] [] zS6 _ _
  cases h
  exact ip_Ev.ret rfl
-- M_feedPart
def f_M_feedPart_34 (s1 : Int32) (s2 : Int64) (s3 : Int64) (S : ip_St) : Option (ip_St) := ((ip_wL S 35 s1 (s2 &&& s3)).bind fun zS1 => ((ip_wI zS1 36 (zS1.1 30 14) 0).bind fun zS2 => some zS2))
set_option maxRecDepth 10000 in
theorem E_M_feedPart_34 {s1 : Int32} {s2 : Int64} {s3 : Int64} {S : ip_St} {S9 : ip_St} {d1 : Option Value} {d2 : Option Value} (h : f_M_feedPart_34 s1 s2 s3 S = some S9) : ip_Ev 119 34 [some (.ref 30), d1, d2] [.long s3, .long s2, .int s1, .ref 35] S none S9 := by
  unfold f_M_feedPart_34 at h
  refine ip_Ev.steps 1 (pc' := 35) (lv' := [some (.ref 30), d1, d2]) (st' := [.long (s2 &&& s3), .int s1, .ref 35]) (S1 := S) rfl ?_
  obtain ⟨zS1, hzS1, h⟩ := ip_bind h
  refine ip_Ev.last rfl hzS1 ?_
  refine ip_Ev.steps 5 (pc' := 45) (lv' := [some (.ref 30), d1, d2]) (st' := [.int 0, .int (zS1.1 30 14), .ref 36]) (S1 := zS1) rfl ?_
  obtain ⟨zS2, hzS2, h⟩ := ip_bind h
  refine ip_Ev.iast rfl hzS2 ?_
  cases h
  exact ip_Ev.ret rfl
def f_M_feedPart (p1 : Int64) (S : ip_St) : Option (ip_St) := ((ip_aL S 35 (S.1 30 14)).bind fun zv1 => ((ip_aI S 36 (S.1 30 14)).bind fun zv2 => (if (ip_irem zv2 2) = 1 then (f_M_feedPart_34 (S.1 30 14) zv1 (p1 ^^^ (-1)) S) else (f_M_feedPart_34 (S.1 30 14) zv1 p1 S))))
set_option maxRecDepth 10000 in
theorem T_M_feedPart {p1 : Int64} {S : ip_St} {S9 : ip_St} (h : f_M_feedPart p1 S = some S9) : ip_Me 119 [.ref 30, .long p1] S none S9 := by
  unfold f_M_feedPart at h
  refine ⟨[some (.ref 30), some (.long p1), none], rfl, ?_⟩
  refine ip_Ev.steps 5 (pc' := 9) (lv' := [some (.ref 30), some (.long p1), none]) (st' := [.int (S.1 30 14), .ref 35, .int (S.1 30 14), .ref 35]) (S1 := S) rfl ?_
  obtain ⟨zv1, hzv1, h⟩ := ip_bind h
  refine ip_Ev.lald rfl hzv1 ?_
  refine ip_Ev.steps 4 (pc' := 18) (lv' := [some (.ref 30), some (.long p1), none]) (st' := [.int (S.1 30 14), .ref 36, .long zv1, .int (S.1 30 14), .ref 35]) (S1 := S) rfl ?_
  obtain ⟨zv2, hzv2, h⟩ := ip_bind h
  refine ip_Ev.iald rfl hzv2 ?_
  refine ip_Ev.steps 1 (pc' := 20) (lv' := [some (.ref 30), some (.long p1), none]) (st' := [.int 2, .int zv2, .long zv1, .int (S.1 30 14), .ref 35]) (S1 := S) rfl ?_
  refine ip_Ev.irem rfl (by decide) ?_
  show ip_Ev 119 21 [some (.ref 30), some (.long p1), none] [.int (ip_irem zv2 2), .long zv1, .int (S.1 30 14), .ref 35] S _ _
  refine ip_Ev.steps 1 (pc' := 22) (lv' := [some (.ref 30), some (.long p1), none]) (st' := [.int 1, .int (ip_irem zv2 2), .long zv1, .int (S.1 30 14), .ref 35]) (S1 := S) rfl ?_
  refine ip_Ev.iff2 rfl rfl ip_cNe (fun zhc3 => ?_) (fun zhc3 => ?_)
  · rw [if_neg zhc3] at h
    refine ip_Ev.steps 1 (pc' := 34) (lv' := [some (.ref 30), some (.long p1), none]) (st' := [.long p1, .long zv1, .int (S.1 30 14), .ref 35]) (S1 := S) rfl ?_
    exact E_M_feedPart_34 h
  · rw [if_pos (Decidable.of_not_not zhc3)] at h
    refine ip_Ev.steps 4 (pc' := 34) (lv' := [some (.ref 30), some (.long p1), none]) (st' := [.long (p1 ^^^ (-1)), .long zv1, .int (S.1 30 14), .ref 35]) (S1 := S) rfl ?_
    exact E_M_feedPart_34 h
-- M_rowOf
def f_M_rowOf (p1 : Int32) (S : ip_St) : Option (Int64) := ((ip_aL S 31 p1).bind fun zv1 => some zv1)
set_option maxRecDepth 10000 in
theorem T_M_rowOf {p1 : Int32} {S : ip_St} {r : Int64} (h : f_M_rowOf p1 S = some r) : ip_Me 118 [.ref 30, .int p1] S (some (.long r)) S := by
  unfold f_M_rowOf at h
  refine ⟨[some (.ref 30), some (.int p1)], rfl, ?_⟩
  refine ip_Ev.steps 3 (pc' := 5) (lv' := [some (.ref 30), some (.int p1)]) (st' := [.int p1, .ref 31]) (S1 := S) rfl ?_
  obtain ⟨zv1, hzv1, h⟩ := ip_bind h
  refine ip_Ev.lald rfl hzv1 ?_
  cases h
  exact ip_Ev.ret rfl
-- M_endLaw
def f_M_endLaw  (S : ip_St) : Option (Int64) := ((ip_aL S 34 (S.1 30 14)).bind fun zv1 => ((ip_aL S 35 (S.1 30 14)).bind fun zv2 => some (zv1 ||| zv2)))
set_option maxRecDepth 10000 in
theorem T_M_endLaw  {S : ip_St} {r : Int64} (h : f_M_endLaw S = some r) : ip_Me 120 [.ref 30] S (some (.long r)) S := by
  unfold f_M_endLaw at h
  refine ⟨[some (.ref 30)], rfl, ?_⟩
  refine ip_Ev.steps 4 (pc' := 8) (lv' := [some (.ref 30)]) (st' := [.int (S.1 30 14), .ref 34]) (S1 := S) rfl ?_
  obtain ⟨zv1, hzv1, h⟩ := ip_bind h
  refine ip_Ev.lald rfl hzv1 ?_
  refine ip_Ev.steps 4 (pc' := 17) (lv' := [some (.ref 30)]) (st' := [.int (S.1 30 14), .ref 35, .long zv1]) (S1 := S) rfl ?_
  obtain ⟨zv2, hzv2, h⟩ := ip_bind h
  refine ip_Ev.lald rfl hzv2 ?_
  refine ip_Ev.steps 1 (pc' := 19) (lv' := [some (.ref 30)]) (st' := [.long (zv1 ||| zv2)]) (S1 := S) rfl ?_
  cases h
  exact ip_Ev.ret rfl
-- M_countLaw
def f_M_countLaw  (S : ip_St) : Option (ip_St) := ((f_M_endLaw S).bind fun zv2 => ((ip_aL S 40 (S.1 30 14)).bind fun zv3 => ((ip_aL S 39 (S.1 30 14)).bind fun zv4 => ((ip_wL S 40 (S.1 30 14) (zv3 ||| (zv4 &&& zv2))).bind fun zS5 => ((ip_aL zS5 39 (zS5.1 30 14)).bind fun zv6 => ((ip_aL zS5 38 (zS5.1 30 14)).bind fun zv7 => ((ip_wL zS5 39 (zS5.1 30 14) (zv6 ||| (zv7 &&& zv2))).bind fun zS8 => ((ip_aL zS8 38 (zS8.1 30 14)).bind fun zv9 => ((ip_wL zS8 38 (zS8.1 30 14) (zv9 ||| zv2)).bind fun zS10 => some zS10)))))))))
set_option maxRecDepth 10000 in
theorem T_M_countLaw  {S : ip_St} {S9 : ip_St} (h : f_M_countLaw S = some S9) : ip_Me 121 [.ref 30] S none S9 := by
  unfold f_M_countLaw at h
  refine ⟨[some (.ref 30), none, none], rfl, ?_⟩
  refine ip_Ev.steps 1 (pc' := 1) (lv' := [some (.ref 30), none, none]) (st' := [.ref 30]) (S1 := S) rfl ?_
  obtain ⟨zv2, hzq1, h⟩ := ip_bind h
  refine ip_Ev.call (i := 120) (a := [.ref 30]) (r := []) rfl (T_M_endLaw hzq1) ?_
  show ip_Ev 121 4 [some (.ref 30), none, none] [.long zv2] S _ _
  refine ip_Ev.steps 6 (pc' := 14) (lv' := [some (.ref 30), some (.long zv2), none]) (st' := [.int (S.1 30 14), .ref 40, .int (S.1 30 14), .ref 40]) (S1 := S) rfl ?_
  obtain ⟨zv3, hzv3, h⟩ := ip_bind h
  refine ip_Ev.lald rfl hzv3 ?_
  refine ip_Ev.steps 4 (pc' := 23) (lv' := [some (.ref 30), some (.long zv2), none]) (st' := [.int (S.1 30 14), .ref 39, .long zv3, .int (S.1 30 14), .ref 40]) (S1 := S) rfl ?_
  obtain ⟨zv4, hzv4, h⟩ := ip_bind h
  refine ip_Ev.lald rfl hzv4 ?_
  refine ip_Ev.steps 3 (pc' := 27) (lv' := [some (.ref 30), some (.long zv2), none]) (st' := [.long (zv3 ||| (zv4 &&& zv2)), .int (S.1 30 14), .ref 40]) (S1 := S) rfl ?_
  obtain ⟨zS5, hzS5, h⟩ := ip_bind h
  refine ip_Ev.last rfl hzS5 ?_
  refine ip_Ev.steps 5 (pc' := 37) (lv' := [some (.ref 30), some (.long zv2), none]) (st' := [.int (zS5.1 30 14), .ref 39, .int (zS5.1 30 14), .ref 39]) (S1 := zS5) rfl ?_
  obtain ⟨zv6, hzv6, h⟩ := ip_bind h
  refine ip_Ev.lald rfl hzv6 ?_
  refine ip_Ev.steps 4 (pc' := 46) (lv' := [some (.ref 30), some (.long zv2), none]) (st' := [.int (zS5.1 30 14), .ref 38, .long zv6, .int (zS5.1 30 14), .ref 39]) (S1 := zS5) rfl ?_
  obtain ⟨zv7, hzv7, h⟩ := ip_bind h
  refine ip_Ev.lald rfl hzv7 ?_
  refine ip_Ev.steps 3 (pc' := 50) (lv' := [some (.ref 30), some (.long zv2), none]) (st' := [.long (zv6 ||| (zv7 &&& zv2)), .int (zS5.1 30 14), .ref 39]) (S1 := zS5) rfl ?_
  obtain ⟨zS8, hzS8, h⟩ := ip_bind h
  refine ip_Ev.last rfl hzS8 ?_
  refine ip_Ev.steps 5 (pc' := 60) (lv' := [some (.ref 30), some (.long zv2), none]) (st' := [.int (zS8.1 30 14), .ref 38, .int (zS8.1 30 14), .ref 38]) (S1 := zS8) rfl ?_
  obtain ⟨zv9, hzv9, h⟩ := ip_bind h
  refine ip_Ev.lald rfl hzv9 ?_
  refine ip_Ev.steps 2 (pc' := 63) (lv' := [some (.ref 30), some (.long zv2), none]) (st' := [.long (zv9 ||| zv2), .int (zS8.1 30 14), .ref 38]) (S1 := zS8) rfl ?_
  obtain ⟨zS10, hzS10, h⟩ := ip_bind h
  refine ip_Ev.last rfl hzS10 ?_
  cases h
  exact ip_Ev.ret rfl
-- M_endLevel
def f_M_endLevel_59 (s0 : Int64) (S : ip_St) : Option (ip_St) := ((f_M_feedPart s0 (ip_upI S 30 14 ((S.1 30 14) - 1))).bind fun zS2 => some zS2)
set_option maxRecDepth 10000 in
theorem E_M_endLevel_59 {s0 : Int64} {S : ip_St} {S9 : ip_St} {d1 : Option Value} {d2 : Option Value} (h : f_M_endLevel_59 s0 S = some S9) : ip_Ev 122 59 [some (.ref 30), d1, d2] [.long s0] S none S9 := by
  unfold f_M_endLevel_59 at h
  refine ip_Ev.steps 9 (pc' := 72) (lv' := [some (.ref 30), some (.long s0), none]) (st' := [.long s0, .ref 30]) (S1 := (ip_upI S 30 14 ((S.1 30 14) - 1))) rfl ?_
  obtain ⟨zS2, hzq1, h⟩ := ip_bind h
  refine ip_Ev.call (i := 119) (a := [.ref 30, .long s0]) (r := []) rfl (T_M_feedPart hzq1) ?_
  show ip_Ev 122 75 [some (.ref 30), some (.long s0), none] [] zS2 _ _
  cases h
  exact ip_Ev.ret rfl
def f_M_endLevel  (S : ip_St) : Option (ip_St) := ((ip_aI S 37 (S.1 30 14)).bind fun zv1 => (if zv1 = 1 then ((ip_aL S 38 (S.1 30 14)).bind fun zv7 => (f_M_endLevel_59 zv7 S)) else ((ip_aI S 37 (S.1 30 14)).bind fun zv3 => (if zv3 = 2 then ((ip_aL S 39 (S.1 30 14)).bind fun zv6 => (f_M_endLevel_59 zv6 S)) else ((ip_aL S 40 (S.1 30 14)).bind fun zv5 => (f_M_endLevel_59 zv5 S))))))
set_option maxRecDepth 10000 in
theorem T_M_endLevel  {S : ip_St} {S9 : ip_St} (h : f_M_endLevel S = some S9) : ip_Me 122 [.ref 30] S none S9 := by
  unfold f_M_endLevel at h
  refine ⟨[some (.ref 30), none, none], rfl, ?_⟩
  refine ip_Ev.steps 4 (pc' := 8) (lv' := [some (.ref 30), none, none]) (st' := [.int (S.1 30 14), .ref 37]) (S1 := S) rfl ?_
  obtain ⟨zv1, hzv1, h⟩ := ip_bind h
  refine ip_Ev.iald rfl hzv1 ?_
  refine ip_Ev.steps 1 (pc' := 10) (lv' := [some (.ref 30), none, none]) (st' := [.int 1, .int zv1]) (S1 := S) rfl ?_
  refine ip_Ev.iff2 rfl rfl ip_cNe (fun zhc2 => ?_) (fun zhc2 => ?_)
  · rw [if_neg zhc2] at h
    refine ip_Ev.steps 4 (pc' := 33) (lv' := [some (.ref 30), none, none]) (st' := [.int (S.1 30 14), .ref 37]) (S1 := S) rfl ?_
    obtain ⟨zv3, hzv3, h⟩ := ip_bind h
    refine ip_Ev.iald rfl hzv3 ?_
    refine ip_Ev.steps 1 (pc' := 35) (lv' := [some (.ref 30), none, none]) (st' := [.int 2, .int zv3]) (S1 := S) rfl ?_
    refine ip_Ev.iff2 rfl rfl ip_cNe (fun zhc4 => ?_) (fun zhc4 => ?_)
    · rw [if_neg zhc4] at h
      refine ip_Ev.steps 4 (pc' := 58) (lv' := [some (.ref 30), none, none]) (st' := [.int (S.1 30 14), .ref 40]) (S1 := S) rfl ?_
      obtain ⟨zv5, hzv5, h⟩ := ip_bind h
      refine ip_Ev.lald rfl hzv5 ?_
      exact E_M_endLevel_59 h
    · rw [if_pos (Decidable.of_not_not zhc4)] at h
      refine ip_Ev.steps 4 (pc' := 46) (lv' := [some (.ref 30), none, none]) (st' := [.int (S.1 30 14), .ref 39]) (S1 := S) rfl ?_
      obtain ⟨zv6, hzv6, h⟩ := ip_bind h
      refine ip_Ev.lald rfl hzv6 ?_
      refine ip_Ev.steps 1 (pc' := 59) (lv' := [some (.ref 30), none, none]) (st' := [.long zv6]) (S1 := S) rfl ?_
      exact E_M_endLevel_59 h
  · rw [if_pos (Decidable.of_not_not zhc2)] at h
    refine ip_Ev.steps 4 (pc' := 21) (lv' := [some (.ref 30), none, none]) (st' := [.int (S.1 30 14), .ref 38]) (S1 := S) rfl ?_
    obtain ⟨zv7, hzv7, h⟩ := ip_bind h
    refine ip_Ev.lald rfl hzv7 ?_
    refine ip_Ev.steps 1 (pc' := 59) (lv' := [some (.ref 30), none, none]) (st' := [.long zv7]) (S1 := S) rfl ?_
    exact E_M_endLevel_59 h
-- M_lawRow
def f_M_lawRow_66 (k16 : Int32 → Int32 → Int32 → Int32 → ip_St → Option (Int64 × ip_St)) (x2 : Int32) (x3 : Int32) (x4 : Int32) (x5 : Int32) (s1 : Int64) (S : ip_St) : Option (Int64 × ip_St) := ((f_M_feedPart s1 S).bind fun zS2 => (k16 x2 x3 x4 (x5 + 1) zS2))
set_option maxRecDepth 10000 in
theorem E_M_lawRow_66 {k16 : Int32 → Int32 → Int32 → Int32 → ip_St → Option (Int64 × ip_St)} (hk16 : ∀ {x2 : Int32} {x3 : Int32} {x4 : Int32} {x5 : Int32} {S : ip_St} {r : Int64} {S9 : ip_St} {d6 : Option Value}, k16 x2 x3 x4 x5 S = some (r, S9) → ip_Ev 123 16 [some (.ref 30), some (.ref 41), some (.int x2), some (.int x3), some (.int x4), some (.int x5), d6] [] S (some (.long r)) S9) {x2 : Int32} {x3 : Int32} {x4 : Int32} {x5 : Int32} {s1 : Int64} {S : ip_St} {r : Int64} {S9 : ip_St} {d6 : Option Value} (h : f_M_lawRow_66 k16 x2 x3 x4 x5 s1 S = some (r, S9)) : ip_Ev 123 66 [some (.ref 30), some (.ref 41), some (.int x2), some (.int x3), some (.int x4), some (.int x5), d6] [.long s1, .ref 30] S (some (.long r)) S9 := by
  unfold f_M_lawRow_66 at h
  obtain ⟨zS2, hzq1, h⟩ := ip_bind h
  refine ip_Ev.call (i := 119) (a := [.ref 30, .long s1]) (r := []) rfl (T_M_feedPart hzq1) ?_
  show ip_Ev 123 69 [some (.ref 30), some (.ref 41), some (.int x2), some (.int x3), some (.int x4), some (.int x5), d6] [] zS2 _ _
  refine ip_Ev.steps 3 (pc' := 16) (lv' := [some (.ref 30), some (.ref 41), some (.int x2), some (.int x3), some (.int x4), some (.int (x5 + 1)), d6]) (st' := []) (S1 := zS2) rfl ?_
  exact hk16 h
def f_M_lawRow_16 : Nat → Int32 → Int32 → Int32 → Int32 → ip_St → Option (Int64 × ip_St)
  | 0, _, _, _, _, _ => none
  | n + 1, x2, x3, x4, x5, S => (if x2 ≤ x5 then ((f_M_endLaw S).bind fun zv3 => some (zv3, S)) else ((ip_aI S 41 x5).bind fun zv4 => (if (f_M_in (Int32.toInt64 zv4) 97 102) = false then (if (f_M_in (Int32.toInt64 zv4) 49 51) = false then (if zv4 = 33 then ((ip_aI S 36 (S.1 30 14)).bind fun zv29 => ((ip_wI S 36 (S.1 30 14) (zv29 + 1)).bind fun zS30 => (f_M_lawRow_16 n x2 x3 x4 (x5 + 1) zS30))) else (if zv4 = 124 then ((ip_aL S 34 (S.1 30 14)).bind fun zv25 => ((ip_aL S 35 (S.1 30 14)).bind fun zv26 => ((ip_wL S 34 (S.1 30 14) (zv25 ||| zv26)).bind fun zS27 => ((ip_wL zS27 35 (zS27.1 30 14) (-1)).bind fun zS28 => (f_M_lawRow_16 n x2 x3 x4 (x5 + 1) zS28))))) else (if zv4 = 40 then ((f_M_beginLevel 1 S).bind fun zS24 => (f_M_lawRow_16 n x2 x3 x4 (x5 + 1) zS24)) else (if zv4 = 91 then ((f_M_beginLevel x4 S).bind fun zS22 => (f_M_lawRow_16 n x2 x3 x4 (x5 + 1) zS22)) else (if zv4 = 44 then ((f_M_countLaw S).bind fun zS18 => ((f_M_beginLaw zS18).bind fun zS20 => (f_M_lawRow_16 n x2 x3 x4 (x5 + 1) zS20))) else (if zv4 = 38 then (f_M_lawRow_16 n x2 x3 x4 (x5 + 1) S) else ((f_M_countLaw S).bind fun zS14 => ((f_M_endLevel zS14).bind fun zS16 => (f_M_lawRow_16 n x2 x3 x4 (x5 + 1) zS16))))))))) else (f_M_lawRow_16 n x2 x3 (zv4 - 48) (x5 + 1) S)) else (if (zv4 - 97) = x3 then (f_M_lawRow_66 (f_M_lawRow_16 n) x2 x3 x4 x5 0 S) else ((f_M_rowOf (zv4 - 97) S).bind fun zv33 => (f_M_lawRow_66 (f_M_lawRow_16 n) x2 x3 x4 x5 zv33 S))))))
set_option maxRecDepth 10000 in
theorem E_M_lawRow_16 : ∀ (n : Nat) {x2 : Int32} {x3 : Int32} {x4 : Int32} {x5 : Int32} {S : ip_St} {r : Int64} {S9 : ip_St} {d6 : Option Value}, f_M_lawRow_16 n x2 x3 x4 x5 S = some (r, S9) → ip_Ev 123 16 [some (.ref 30), some (.ref 41), some (.int x2), some (.int x3), some (.int x4), some (.int x5), d6] [] S (some (.long r)) S9 := by
  intro n
  induction n with
  | zero =>
    intro x2 x3 x4 x5 S r S9 d6 h
    cases h
  | succ n ih =>
    intro x2 x3 x4 x5 S r S9 d6 h
    rw [f_M_lawRow_16] at h
    refine ip_Ev.steps 2 (pc' := 19) (lv' := [some (.ref 30), some (.ref 41), some (.int x2), some (.int x3), some (.int x4), some (.int x5), d6]) (st' := [.int x2, .int x5]) (S1 := S) rfl ?_
    refine ip_Ev.iff2 rfl rfl ip_cGe (fun zhc1 => ?_) (fun zhc1 => ?_)
    · rw [if_pos zhc1] at h
      refine ip_Ev.steps 1 (pc' := 234) (lv' := [some (.ref 30), some (.ref 41), some (.int x2), some (.int x3), some (.int x4), some (.int x5), d6]) (st' := [.ref 30]) (S1 := S) rfl ?_
      obtain ⟨zv3, hzq2, h⟩ := ip_bind h
      refine ip_Ev.call (i := 120) (a := [.ref 30]) (r := []) rfl (T_M_endLaw hzq2) ?_
      show ip_Ev 123 237 [some (.ref 30), some (.ref 41), some (.int x2), some (.int x3), some (.int x4), some (.int x5), d6] [.long zv3] S _ _
      cases h
      exact ip_Ev.ret rfl
    · rw [if_neg zhc1] at h
      refine ip_Ev.steps 2 (pc' := 25) (lv' := [some (.ref 30), some (.ref 41), some (.int x2), some (.int x3), some (.int x4), some (.int x5), d6]) (st' := [.int x5, .ref 41]) (S1 := S) rfl ?_
      obtain ⟨zv4, hzv4, h⟩ := ip_bind h
      refine ip_Ev.iald rfl hzv4 ?_
      refine ip_Ev.steps 5 (pc' := 37) (lv' := [some (.ref 30), some (.ref 41), some (.int x2), some (.int x3), some (.int x4), some (.int x5), some (.int zv4)]) (st' := [.long 102, .long 97, .long (Int32.toInt64 zv4)]) (S1 := S) rfl ?_
      refine ip_Ev.call (i := 101) (a := [.long (Int32.toInt64 zv4), .long 97, .long 102]) (r := []) rfl (T_M_in rfl) ?_
      show ip_Ev 123 40 [some (.ref 30), some (.ref 41), some (.int x2), some (.int x3), some (.int x4), some (.int x5), some (.int zv4)] [.int (ip_b2i (f_M_in (Int32.toInt64 zv4) 97 102))] S _ _
      refine ip_Ev.iff1 rfl rfl ip_bEq (fun zhc5 => ?_) (fun zhc5 => ?_)
      · rw [if_pos zhc5] at h
        refine ip_Ev.steps 4 (pc' := 81) (lv' := [some (.ref 30), some (.ref 41), some (.int x2), some (.int x3), some (.int x4), some (.int x5), some (.int zv4)]) (st' := [.long 51, .long 49, .long (Int32.toInt64 zv4)]) (S1 := S) rfl ?_
        refine ip_Ev.call (i := 101) (a := [.long (Int32.toInt64 zv4), .long 49, .long 51]) (r := []) rfl (T_M_in rfl) ?_
        show ip_Ev 123 84 [some (.ref 30), some (.ref 41), some (.int x2), some (.int x3), some (.int x4), some (.int x5), some (.int zv4)] [.int (ip_b2i (f_M_in (Int32.toInt64 zv4) 49 51))] S _ _
        refine ip_Ev.iff1 rfl rfl ip_bEq (fun zhc6 => ?_) (fun zhc6 => ?_)
        · rw [if_pos zhc6] at h
          refine ip_Ev.steps 2 (pc' := 101) (lv' := [some (.ref 30), some (.ref 41), some (.int x2), some (.int x3), some (.int x4), some (.int x5), some (.int zv4)]) (st' := [.int 33, .int zv4]) (S1 := S) rfl ?_
          refine ip_Ev.iff2 rfl rfl ip_cNe (fun zhc7 => ?_) (fun zhc7 => ?_)
          · rw [if_neg zhc7] at h
            refine ip_Ev.steps 2 (pc' := 124) (lv' := [some (.ref 30), some (.ref 41), some (.int x2), some (.int x3), some (.int x4), some (.int x5), some (.int zv4)]) (st' := [.int 124, .int zv4]) (S1 := S) rfl ?_
            refine ip_Ev.iff2 rfl rfl ip_cNe (fun zhc8 => ?_) (fun zhc8 => ?_)
            · rw [if_neg zhc8] at h
              refine ip_Ev.steps 2 (pc' := 167) (lv' := [some (.ref 30), some (.ref 41), some (.int x2), some (.int x3), some (.int x4), some (.int x5), some (.int zv4)]) (st' := [.int 40, .int zv4]) (S1 := S) rfl ?_
              refine ip_Ev.iff2 rfl rfl ip_cNe (fun zhc9 => ?_) (fun zhc9 => ?_)
              · rw [if_neg zhc9] at h
                refine ip_Ev.steps 2 (pc' := 182) (lv' := [some (.ref 30), some (.ref 41), some (.int x2), some (.int x3), some (.int x4), some (.int x5), some (.int zv4)]) (st' := [.int 91, .int zv4]) (S1 := S) rfl ?_
                refine ip_Ev.iff2 rfl rfl ip_cNe (fun zhc10 => ?_) (fun zhc10 => ?_)
                · rw [if_neg zhc10] at h
                  refine ip_Ev.steps 2 (pc' := 198) (lv' := [some (.ref 30), some (.ref 41), some (.int x2), some (.int x3), some (.int x4), some (.int x5), some (.int zv4)]) (st' := [.int 44, .int zv4]) (S1 := S) rfl ?_
                  refine ip_Ev.iff2 rfl rfl ip_cNe (fun zhc11 => ?_) (fun zhc11 => ?_)
                  · rw [if_neg zhc11] at h
                    refine ip_Ev.steps 2 (pc' := 216) (lv' := [some (.ref 30), some (.ref 41), some (.int x2), some (.int x3), some (.int x4), some (.int x5), some (.int zv4)]) (st' := [.int 38, .int zv4]) (S1 := S) rfl ?_
                    refine ip_Ev.iff2 rfl rfl ip_cEq (fun zhc12 => ?_) (fun zhc12 => ?_)
                    · rw [if_pos zhc12] at h
                      refine ip_Ev.steps 2 (pc' := 16) (lv' := [some (.ref 30), some (.ref 41), some (.int x2), some (.int x3), some (.int x4), some (.int (x5 + 1)), some (.int zv4)]) (st' := []) (S1 := S) rfl ?_
                      exact ih h
                    · rw [if_neg zhc12] at h
                      refine ip_Ev.steps 1 (pc' := 220) (lv' := [some (.ref 30), some (.ref 41), some (.int x2), some (.int x3), some (.int x4), some (.int x5), some (.int zv4)]) (st' := [.ref 30]) (S1 := S) rfl ?_
                      obtain ⟨zS14, hzq13, h⟩ := ip_bind h
                      refine ip_Ev.call (i := 121) (a := [.ref 30]) (r := []) rfl (T_M_countLaw hzq13) ?_
                      show ip_Ev 123 223 [some (.ref 30), some (.ref 41), some (.int x2), some (.int x3), some (.int x4), some (.int x5), some (.int zv4)] [] zS14 _ _
                      refine ip_Ev.steps 1 (pc' := 224) (lv' := [some (.ref 30), some (.ref 41), some (.int x2), some (.int x3), some (.int x4), some (.int x5), some (.int zv4)]) (st' := [.ref 30]) (S1 := zS14) rfl ?_
                      obtain ⟨zS16, hzq15, h⟩ := ip_bind h
                      refine ip_Ev.call (i := 122) (a := [.ref 30]) (r := []) rfl (T_M_endLevel hzq15) ?_
                      show ip_Ev 123 227 [some (.ref 30), some (.ref 41), some (.int x2), some (.int x3), some (.int x4), some (.int x5), some (.int zv4)] [] zS16 _ _
                      refine ip_Ev.steps 2 (pc' := 16) (lv' := [some (.ref 30), some (.ref 41), some (.int x2), some (.int x3), some (.int x4), some (.int (x5 + 1)), some (.int zv4)]) (st' := []) (S1 := zS16) rfl ?_
                      exact ih h
                  · rw [if_pos (Decidable.of_not_not zhc11)] at h
                    refine ip_Ev.steps 1 (pc' := 202) (lv' := [some (.ref 30), some (.ref 41), some (.int x2), some (.int x3), some (.int x4), some (.int x5), some (.int zv4)]) (st' := [.ref 30]) (S1 := S) rfl ?_
                    obtain ⟨zS18, hzq17, h⟩ := ip_bind h
                    refine ip_Ev.call (i := 121) (a := [.ref 30]) (r := []) rfl (T_M_countLaw hzq17) ?_
                    show ip_Ev 123 205 [some (.ref 30), some (.ref 41), some (.int x2), some (.int x3), some (.int x4), some (.int x5), some (.int zv4)] [] zS18 _ _
                    refine ip_Ev.steps 1 (pc' := 206) (lv' := [some (.ref 30), some (.ref 41), some (.int x2), some (.int x3), some (.int x4), some (.int x5), some (.int zv4)]) (st' := [.ref 30]) (S1 := zS18) rfl ?_
                    obtain ⟨zS20, hzq19, h⟩ := ip_bind h
                    refine ip_Ev.call (i := 116) (a := [.ref 30]) (r := []) rfl (T_M_beginLaw hzq19) ?_
                    show ip_Ev 123 209 [some (.ref 30), some (.ref 41), some (.int x2), some (.int x3), some (.int x4), some (.int x5), some (.int zv4)] [] zS20 _ _
                    refine ip_Ev.steps 3 (pc' := 16) (lv' := [some (.ref 30), some (.ref 41), some (.int x2), some (.int x3), some (.int x4), some (.int (x5 + 1)), some (.int zv4)]) (st' := []) (S1 := zS20) rfl ?_
                    exact ih h
                · rw [if_pos (Decidable.of_not_not zhc10)] at h
                  refine ip_Ev.steps 2 (pc' := 188) (lv' := [some (.ref 30), some (.ref 41), some (.int x2), some (.int x3), some (.int x4), some (.int x5), some (.int zv4)]) (st' := [.int x4, .ref 30]) (S1 := S) rfl ?_
                  obtain ⟨zS22, hzq21, h⟩ := ip_bind h
                  refine ip_Ev.call (i := 117) (a := [.ref 30, .int x4]) (r := []) rfl (T_M_beginLevel hzq21) ?_
                  show ip_Ev 123 191 [some (.ref 30), some (.ref 41), some (.int x2), some (.int x3), some (.int x4), some (.int x5), some (.int zv4)] [] zS22 _ _
                  refine ip_Ev.steps 3 (pc' := 16) (lv' := [some (.ref 30), some (.ref 41), some (.int x2), some (.int x3), some (.int x4), some (.int (x5 + 1)), some (.int zv4)]) (st' := []) (S1 := zS22) rfl ?_
                  exact ih h
              · rw [if_pos (Decidable.of_not_not zhc9)] at h
                refine ip_Ev.steps 2 (pc' := 172) (lv' := [some (.ref 30), some (.ref 41), some (.int x2), some (.int x3), some (.int x4), some (.int x5), some (.int zv4)]) (st' := [.int 1, .ref 30]) (S1 := S) rfl ?_
                obtain ⟨zS24, hzq23, h⟩ := ip_bind h
                refine ip_Ev.call (i := 117) (a := [.ref 30, .int 1]) (r := []) rfl (T_M_beginLevel hzq23) ?_
                show ip_Ev 123 175 [some (.ref 30), some (.ref 41), some (.int x2), some (.int x3), some (.int x4), some (.int x5), some (.int zv4)] [] zS24 _ _
                refine ip_Ev.steps 3 (pc' := 16) (lv' := [some (.ref 30), some (.ref 41), some (.int x2), some (.int x3), some (.int x4), some (.int (x5 + 1)), some (.int zv4)]) (st' := []) (S1 := zS24) rfl ?_
                exact ih h
            · rw [if_pos (Decidable.of_not_not zhc8)] at h
              refine ip_Ev.steps 5 (pc' := 136) (lv' := [some (.ref 30), some (.ref 41), some (.int x2), some (.int x3), some (.int x4), some (.int x5), some (.int zv4)]) (st' := [.int (S.1 30 14), .ref 34, .int (S.1 30 14), .ref 34]) (S1 := S) rfl ?_
              obtain ⟨zv25, hzv25, h⟩ := ip_bind h
              refine ip_Ev.lald rfl hzv25 ?_
              refine ip_Ev.steps 4 (pc' := 145) (lv' := [some (.ref 30), some (.ref 41), some (.int x2), some (.int x3), some (.int x4), some (.int x5), some (.int zv4)]) (st' := [.int (S.1 30 14), .ref 35, .long zv25, .int (S.1 30 14), .ref 34]) (S1 := S) rfl ?_
              obtain ⟨zv26, hzv26, h⟩ := ip_bind h
              refine ip_Ev.lald rfl hzv26 ?_
              refine ip_Ev.steps 1 (pc' := 147) (lv' := [some (.ref 30), some (.ref 41), some (.int x2), some (.int x3), some (.int x4), some (.int x5), some (.int zv4)]) (st' := [.long (zv25 ||| zv26), .int (S.1 30 14), .ref 34]) (S1 := S) rfl ?_
              obtain ⟨zS27, hzS27, h⟩ := ip_bind h
              refine ip_Ev.last rfl hzS27 ?_
              refine ip_Ev.steps 5 (pc' := 159) (lv' := [some (.ref 30), some (.ref 41), some (.int x2), some (.int x3), some (.int x4), some (.int x5), some (.int zv4)]) (st' := [.long (-1), .int (zS27.1 30 14), .ref 35]) (S1 := zS27) rfl ?_
              obtain ⟨zS28, hzS28, h⟩ := ip_bind h
              refine ip_Ev.last rfl hzS28 ?_
              refine ip_Ev.steps 3 (pc' := 16) (lv' := [some (.ref 30), some (.ref 41), some (.int x2), some (.int x3), some (.int x4), some (.int (x5 + 1)), some (.int zv4)]) (st' := []) (S1 := zS28) rfl ?_
              exact ih h
          · rw [if_pos (Decidable.of_not_not zhc7)] at h
            refine ip_Ev.steps 5 (pc' := 113) (lv' := [some (.ref 30), some (.ref 41), some (.int x2), some (.int x3), some (.int x4), some (.int x5), some (.int zv4)]) (st' := [.int (S.1 30 14), .ref 36, .int (S.1 30 14), .ref 36]) (S1 := S) rfl ?_
            obtain ⟨zv29, hzv29, h⟩ := ip_bind h
            refine ip_Ev.iald rfl hzv29 ?_
            refine ip_Ev.steps 2 (pc' := 116) (lv' := [some (.ref 30), some (.ref 41), some (.int x2), some (.int x3), some (.int x4), some (.int x5), some (.int zv4)]) (st' := [.int (zv29 + 1), .int (S.1 30 14), .ref 36]) (S1 := S) rfl ?_
            obtain ⟨zS30, hzS30, h⟩ := ip_bind h
            refine ip_Ev.iast rfl hzS30 ?_
            refine ip_Ev.steps 3 (pc' := 16) (lv' := [some (.ref 30), some (.ref 41), some (.int x2), some (.int x3), some (.int x4), some (.int (x5 + 1)), some (.int zv4)]) (st' := []) (S1 := zS30) rfl ?_
            exact ih h
        · rw [if_neg zhc6] at h
          refine ip_Ev.steps 7 (pc' := 16) (lv' := [some (.ref 30), some (.ref 41), some (.int x2), some (.int x3), some (.int (zv4 - 48)), some (.int (x5 + 1)), some (.int zv4)]) (st' := []) (S1 := S) rfl ?_
          exact ih h
      · rw [if_neg zhc5] at h
        refine ip_Ev.steps 5 (pc' := 50) (lv' := [some (.ref 30), some (.ref 41), some (.int x2), some (.int x3), some (.int x4), some (.int x5), some (.int zv4)]) (st' := [.int x3, .int (zv4 - 97), .ref 30]) (S1 := S) rfl ?_
        refine ip_Ev.iff2 rfl rfl ip_cNe (fun zhc31 => ?_) (fun zhc31 => ?_)
        · rw [if_neg zhc31] at h
          refine ip_Ev.steps 4 (pc' := 63) (lv' := [some (.ref 30), some (.ref 41), some (.int x2), some (.int x3), some (.int x4), some (.int x5), some (.int zv4)]) (st' := [.int (zv4 - 97), .ref 30, .ref 30]) (S1 := S) rfl ?_
          obtain ⟨zv33, hzq32, h⟩ := ip_bind h
          refine ip_Ev.call (i := 118) (a := [.ref 30, .int (zv4 - 97)]) (r := [.ref 30]) rfl (T_M_rowOf hzq32) ?_
          show ip_Ev 123 66 [some (.ref 30), some (.ref 41), some (.int x2), some (.int x3), some (.int x4), some (.int x5), some (.int zv4)] [.long zv33, .ref 30] S _ _
          exact E_M_lawRow_66 ih h
        · rw [if_pos (Decidable.of_not_not zhc31)] at h
          refine ip_Ev.steps 2 (pc' := 66) (lv' := [some (.ref 30), some (.ref 41), some (.int x2), some (.int x3), some (.int x4), some (.int x5), some (.int zv4)]) (st' := [.long 0, .ref 30]) (S1 := S) rfl ?_
          exact E_M_lawRow_66 ih h
def f_M_lawRow (p2 : Int32) (p3 : Int32) (S : ip_St) : Option (Int64 × ip_St) := ((f_M_beginLevel 0 (ip_upI S 30 14 (-1))).bind fun zS2 => (f_M_lawRow_16 ip_FU p2 p3 0 0 zS2))
set_option maxRecDepth 10000 in
theorem T_M_lawRow {p2 : Int32} {p3 : Int32} {S : ip_St} {r : Int64} {S9 : ip_St} (h : f_M_lawRow p2 p3 S = some (r, S9)) : ip_Me 123 [.ref 30, .ref 41, .int p2, .int p3] S (some (.long r)) S9 := by
  unfold f_M_lawRow at h
  refine ⟨[some (.ref 30), some (.ref 41), some (.int p2), some (.int p3), none, none, none], rfl, ?_⟩
  refine ip_Ev.steps 5 (pc' := 7) (lv' := [some (.ref 30), some (.ref 41), some (.int p2), some (.int p3), none, none, none]) (st' := [.int 0, .ref 30]) (S1 := (ip_upI S 30 14 (-1))) rfl ?_
  obtain ⟨zS2, hzq1, h⟩ := ip_bind h
  refine ip_Ev.call (i := 117) (a := [.ref 30, .int 0]) (r := []) rfl (T_M_beginLevel hzq1) ?_
  show ip_Ev 123 10 [some (.ref 30), some (.ref 41), some (.int p2), some (.int p3), none, none, none] [] zS2 _ _
  refine ip_Ev.steps 4 (pc' := 16) (lv' := [some (.ref 30), some (.ref 41), some (.int p2), some (.int p3), some (.int 0), some (.int 0), none]) (st' := []) (S1 := zS2) rfl ?_
  exact E_M_lawRow_16 ip_FU h
-- M_layLaw
def f_M_layLaw_12 : Nat → Int32 → Int32 → ip_St → Option (ip_St)
  | 0, _, _, _ => none
  | n + 1, x1, x2, S => (if (S.1 30 16) ≤ x2 then ((f_M_lawRow (S.1 30 16) (-1) S).bind fun zq2 => some (ip_upI (ip_upL zq2.2 30 17 zq2.1) 30 2 0)) else ((ip_aI S 32 (x1 + x2)).bind fun zv5 => ((ip_wI S 41 x2 zv5).bind fun zS6 => (f_M_layLaw_12 n x1 (x2 + 1) zS6))))
set_option maxRecDepth 10000 in
theorem E_M_layLaw_12 : ∀ (n : Nat) {x1 : Int32} {x2 : Int32} {S : ip_St} {S9 : ip_St}, f_M_layLaw_12 n x1 x2 S = some S9 → ip_Ev 124 12 [some (.ref 30), some (.int x1), some (.int x2)] [] S none S9 := by
  intro n
  induction n with
  | zero =>
    intro x1 x2 S S9 h
    cases h
  | succ n ih =>
    intro x1 x2 S S9 h
    rw [f_M_layLaw_12] at h
    refine ip_Ev.steps 3 (pc' := 17) (lv' := [some (.ref 30), some (.int x1), some (.int x2)]) (st' := [.int (S.1 30 16), .int x2]) (S1 := S) rfl ?_
    refine ip_Ev.iff2 rfl rfl ip_cGe (fun zhc1 => ?_) (fun zhc1 => ?_)
    · rw [if_pos zhc1] at h
      refine ip_Ev.steps 7 (pc' := 51) (lv' := [some (.ref 30), some (.int x1), some (.int x2)]) (st' := [.int (-1), .int (S.1 30 16), .ref 41, .ref 30, .ref 30]) (S1 := S) rfl ?_
      obtain ⟨⟨zv3, zS4⟩, hzq2, h⟩ := ip_bind h
      dsimp only at h
      refine ip_Ev.call (i := 123) (a := [.ref 30, .ref 41, .int (S.1 30 16), .int (-1)]) (r := [.ref 30]) rfl (T_M_lawRow hzq2) ?_
      show ip_Ev 124 54 [some (.ref 30), some (.int x1), some (.int x2)] [.long zv3, .ref 30] zS4 _ _
      refine ip_Ev.steps 4 (pc' := 62) (lv' := [some (.ref 30), some (.int x1), some (.int x2)]) (st' := []) (S1 := (ip_upI (ip_upL zS4 30 17 zv3) 30 2 0)) rfl ?_
      cases h
      exact ip_Ev.ret rfl
    · rw [if_neg zhc1] at h
      refine ip_Ev.steps 8 (pc' := 32) (lv' := [some (.ref 30), some (.int x1), some (.int x2)]) (st' := [.int (x1 + x2), .ref 32, .int x2, .ref 41]) (S1 := S) rfl ?_
      obtain ⟨zv5, hzv5, h⟩ := ip_bind h
      refine ip_Ev.iald rfl hzv5 ?_
      obtain ⟨zS6, hzS6, h⟩ := ip_bind h
      refine ip_Ev.iast rfl hzS6 ?_
      refine ip_Ev.steps 2 (pc' := 12) (lv' := [some (.ref 30), some (.int x1), some (.int (x2 + 1))]) (st' := []) (S1 := zS6) rfl ?_
      exact ih h
def f_M_layLaw (p1 : Int32) (S : ip_St) : Option (ip_St) := (f_M_layLaw_12 ip_FU p1 0 (ip_upI S 30 16 ((S.1 30 2) - p1)))
set_option maxRecDepth 10000 in
theorem T_M_layLaw {p1 : Int32} {S : ip_St} {S9 : ip_St} (h : f_M_layLaw p1 S = some S9) : ip_Me 124 [.ref 30, .int p1] S none S9 := by
  unfold f_M_layLaw at h
  refine ⟨[some (.ref 30), some (.int p1), none], rfl, ?_⟩
  refine ip_Ev.steps 8 (pc' := 12) (lv' := [some (.ref 30), some (.int p1), some (.int 0)]) (st' := []) (S1 := (ip_upI S 30 16 ((S.1 30 2) - p1))) rfl ?_
  exact E_M_layLaw_12 ip_FU h
-- M_court
def f_M_court_127 (k42 : Int32 → ip_St → Option (Int32 × ip_St)) (k83 : Int32 → Int32 → ip_St → Option (Int32 × ip_St)) (x1 : Int32) (x2 : Int32) (s1 : Int32) (s2 : Int32) (S : ip_St) : Option (Int32 × ip_St) := ((ip_wI S 43 s1 s2).bind fun zS1 => ((ip_wI zS1 44 ((6 * x1) + x2) (-1)).bind fun zS2 => (k83 x1 (x2 + 1) zS2)))
set_option maxRecDepth 10000 in
theorem E_M_court_127 {k42 : Int32 → ip_St → Option (Int32 × ip_St)} {k83 : Int32 → Int32 → ip_St → Option (Int32 × ip_St)} (hk42 : ∀ {x1 : Int32} {S : ip_St} {r : Int32} {S9 : ip_St} {d2 : Option Value} {d3 : Option Value}, k42 x1 S = some (r, S9) → ip_Ev 125 42 [some (.ref 30), some (.int x1), d2, d3] [] S (some (.int r)) S9) (hk83 : ∀ {x1 : Int32} {x2 : Int32} {S : ip_St} {r : Int32} {S9 : ip_St} {d3 : Option Value}, k83 x1 x2 S = some (r, S9) → ip_Ev 125 83 [some (.ref 30), some (.int x1), some (.int x2), d3] [] S (some (.int r)) S9) {x1 : Int32} {x2 : Int32} {s1 : Int32} {s2 : Int32} {S : ip_St} {r : Int32} {S9 : ip_St} {d3 : Option Value} (h : f_M_court_127 k42 k83 x1 x2 s1 s2 S = some (r, S9)) : ip_Ev 125 127 [some (.ref 30), some (.int x1), some (.int x2), d3] [.int s2, .int s1, .ref 43] S (some (.int r)) S9 := by
  unfold f_M_court_127 at h
  obtain ⟨zS1, hzS1, h⟩ := ip_bind h
  refine ip_Ev.iast rfl hzS1 ?_
  refine ip_Ev.steps 8 (pc' := 139) (lv' := [some (.ref 30), some (.int x1), some (.int x2), d3]) (st' := [.int (-1), .int ((6 * x1) + x2), .ref 44]) (S1 := zS1) rfl ?_
  obtain ⟨zS2, hzS2, h⟩ := ip_bind h
  refine ip_Ev.iast rfl hzS2 ?_
  refine ip_Ev.steps 2 (pc' := 83) (lv' := [some (.ref 30), some (.int x1), some (.int (x2 + 1)), d3]) (st' := []) (S1 := zS2) rfl ?_
  exact hk83 h
def f_M_court_83 (k42 : Int32 → ip_St → Option (Int32 × ip_St)) : Nat → Int32 → Int32 → ip_St → Option (Int32 × ip_St)
  | 0, _, _, _ => none
  | n + 1, x1, x2, S => (if 6 ≤ x2 then (k42 (x1 + 1) S) else ((ip_aI S 32 (((8 * x1) + 1) + x2)).bind fun zv2 => (if zv2 = 63 then (f_M_court_127 k42 (f_M_court_83 k42 n) x1 x2 ((6 * x1) + x2) (-1) S) else (f_M_court_127 k42 (f_M_court_83 k42 n) x1 x2 ((6 * x1) + x2) (zv2 - 48) S))))
set_option maxRecDepth 10000 in
theorem E_M_court_83 {k42 : Int32 → ip_St → Option (Int32 × ip_St)} (hk42 : ∀ {x1 : Int32} {S : ip_St} {r : Int32} {S9 : ip_St} {d2 : Option Value} {d3 : Option Value}, k42 x1 S = some (r, S9) → ip_Ev 125 42 [some (.ref 30), some (.int x1), d2, d3] [] S (some (.int r)) S9) : ∀ (n : Nat) {x1 : Int32} {x2 : Int32} {S : ip_St} {r : Int32} {S9 : ip_St} {d3 : Option Value}, f_M_court_83 k42 n x1 x2 S = some (r, S9) → ip_Ev 125 83 [some (.ref 30), some (.int x1), some (.int x2), d3] [] S (some (.int r)) S9 := by
  intro n
  induction n with
  | zero =>
    intro x1 x2 S r S9 d3 h
    cases h
  | succ n ih =>
    intro x1 x2 S r S9 d3 h
    rw [f_M_court_83] at h
    refine ip_Ev.steps 2 (pc' := 86) (lv' := [some (.ref 30), some (.int x1), some (.int x2), d3]) (st' := [.int 6, .int x2]) (S1 := S) rfl ?_
    refine ip_Ev.iff2 rfl rfl ip_cGe (fun zhc1 => ?_) (fun zhc1 => ?_)
    · rw [if_pos zhc1] at h
      refine ip_Ev.steps 2 (pc' := 42) (lv' := [some (.ref 30), some (.int (x1 + 1)), some (.int x2), d3]) (st' := []) (S1 := S) rfl ?_
      exact hk42 h
    · rw [if_neg zhc1] at h
      refine ip_Ev.steps 9 (pc' := 101) (lv' := [some (.ref 30), some (.int x1), some (.int x2), d3]) (st' := [.int (((8 * x1) + 1) + x2), .ref 32]) (S1 := S) rfl ?_
      obtain ⟨zv2, hzv2, h⟩ := ip_bind h
      refine ip_Ev.iald rfl hzv2 ?_
      refine ip_Ev.steps 10 (pc' := 116) (lv' := [some (.ref 30), some (.int x1), some (.int x2), some (.int zv2)]) (st' := [.int 63, .int zv2, .int ((6 * x1) + x2), .ref 43]) (S1 := S) rfl ?_
      refine ip_Ev.iff2 rfl rfl ip_cNe (fun zhc3 => ?_) (fun zhc3 => ?_)
      · rw [if_neg zhc3] at h
        refine ip_Ev.steps 3 (pc' := 127) (lv' := [some (.ref 30), some (.int x1), some (.int x2), some (.int zv2)]) (st' := [.int (zv2 - 48), .int ((6 * x1) + x2), .ref 43]) (S1 := S) rfl ?_
        exact E_M_court_127 hk42 ih h
      · rw [if_pos (Decidable.of_not_not zhc3)] at h
        refine ip_Ev.steps 2 (pc' := 127) (lv' := [some (.ref 30), some (.int x1), some (.int x2), some (.int zv2)]) (st' := [.int (-1), .int ((6 * x1) + x2), .ref 43]) (S1 := S) rfl ?_
        exact E_M_court_127 hk42 ih h
def f_M_court_42 : Nat → Int32 → ip_St → Option (Int32 × ip_St)
  | 0, _, _ => none
  | n + 1, x1, S => (if (S.1 30 18) ≤ x1 then ((f_M_layLaw (S.1 30 6) S).bind fun zS3 => some (((ip_upI (ip_upI (ip_upI (ip_upI zS3 30 19 0) 30 20 0) 30 29 0) 30 21 (((ip_upI (ip_upI (ip_upI zS3 30 19 0) 30 20 0) 30 29 0).1 30 21) + 1)).1 30 18), (ip_upI (ip_upI (ip_upI (ip_upI zS3 30 19 0) 30 20 0) 30 29 0) 30 21 (((ip_upI (ip_upI (ip_upI zS3 30 19 0) 30 20 0) 30 29 0).1 30 21) + 1)))) else ((ip_aI S 32 (8 * x1)).bind fun zv4 => ((ip_wI S 42 (2 * x1) (f_M_kindBy zv4)).bind fun zS5 => ((ip_wI zS5 42 ((2 * x1) + 1) 0).bind fun zS6 => (f_M_court_83 (f_M_court_42 n) ip_FU x1 0 zS6)))))
set_option maxRecDepth 10000 in
theorem E_M_court_42 : ∀ (n : Nat) {x1 : Int32} {S : ip_St} {r : Int32} {S9 : ip_St} {d2 : Option Value} {d3 : Option Value}, f_M_court_42 n x1 S = some (r, S9) → ip_Ev 125 42 [some (.ref 30), some (.int x1), d2, d3] [] S (some (.int r)) S9 := by
  intro n
  induction n with
  | zero =>
    intro x1 S r S9 d2 d3 h
    cases h
  | succ n ih =>
    intro x1 S r S9 d2 d3 h
    rw [f_M_court_42] at h
    refine ip_Ev.steps 3 (pc' := 47) (lv' := [some (.ref 30), some (.int x1), d2, d3]) (st' := [.int (S.1 30 18), .int x1]) (S1 := S) rfl ?_
    refine ip_Ev.iff2 rfl rfl ip_cGe (fun zhc1 => ?_) (fun zhc1 => ?_)
    · rw [if_pos zhc1] at h
      refine ip_Ev.steps 3 (pc' := 157) (lv' := [some (.ref 30), some (.int x1), d2, d3]) (st' := [.int (S.1 30 6), .ref 30]) (S1 := S) rfl ?_
      obtain ⟨zS3, hzq2, h⟩ := ip_bind h
      refine ip_Ev.call (i := 124) (a := [.ref 30, .int (S.1 30 6)]) (r := []) rfl (T_M_layLaw hzq2) ?_
      show ip_Ev 125 160 [some (.ref 30), some (.int x1), d2, d3] [] zS3 _ _
      refine ip_Ev.steps 12 (pc' := 180) (lv' := [some (.ref 30), some (.int x1), d2, d3]) (st' := [.int ((ip_upI (ip_upI (ip_upI zS3 30 19 0) 30 20 0) 30 29 0).1 30 21), .ref 30]) (S1 := (ip_upI (ip_upI (ip_upI zS3 30 19 0) 30 20 0) 30 29 0)) rfl ?_
      refine ip_Ev.steps 5 (pc' := 189) (lv' := [some (.ref 30), some (.int x1), d2, d3]) (st' := [.int ((ip_upI (ip_upI (ip_upI (ip_upI zS3 30 19 0) 30 20 0) 30 29 0) 30 21 (((ip_upI (ip_upI (ip_upI zS3 30 19 0) 30 20 0) 30 29 0).1 30 21) + 1)).1 30 18)]) (S1 := (ip_upI (ip_upI (ip_upI (ip_upI zS3 30 19 0) 30 20 0) 30 29 0) 30 21 (((ip_upI (ip_upI (ip_upI zS3 30 19 0) 30 20 0) 30 29 0).1 30 21) + 1))) rfl ?_
      cases h
      exact ip_Ev.ret rfl
    · rw [if_neg zhc1] at h
      refine ip_Ev.steps 10 (pc' := 65) (lv' := [some (.ref 30), some (.int x1), d2, d3]) (st' := [.int (8 * x1), .ref 32, .int (2 * x1), .ref 42]) (S1 := S) rfl ?_
      obtain ⟨zv4, hzv4, h⟩ := ip_bind h
      refine ip_Ev.iald rfl hzv4 ?_
      refine ip_Ev.call (i := 104) (a := [.int zv4]) (r := [.int (2 * x1), .ref 42]) rfl (T_M_kindBy rfl) ?_
      show ip_Ev 125 69 [some (.ref 30), some (.int x1), d2, d3] [.int (f_M_kindBy zv4), .int (2 * x1), .ref 42] S _ _
      obtain ⟨zS5, hzS5, h⟩ := ip_bind h
      refine ip_Ev.iast rfl hzS5 ?_
      refine ip_Ev.steps 8 (pc' := 80) (lv' := [some (.ref 30), some (.int x1), d2, d3]) (st' := [.int 0, .int ((2 * x1) + 1), .ref 42]) (S1 := zS5) rfl ?_
      obtain ⟨zS6, hzS6, h⟩ := ip_bind h
      refine ip_Ev.iast rfl hzS6 ?_
      refine ip_Ev.steps 2 (pc' := 83) (lv' := [some (.ref 30), some (.int x1), some (.int 0), d3]) (st' := []) (S1 := zS6) rfl ?_
      exact E_M_court_83 ih ip_FU h
def f_M_court  (S : ip_St) : Option (Int32 × ip_St) := ((f_M_faultOf S).bind fun zq1 => (if zq1.1 < (zq1.2.1 30 2) then some ((-103), zq1.2) else (if (zq1.2.1 30 6) = (-1) then some ((-103), zq1.2) else (if (f_M_isLawWhole zq1.2) = true then (f_M_court_42 ip_FU 0 (ip_upI zq1.2 30 18 ((zq1.2.1 30 6) / 8))) else some ((-103), zq1.2)))))
set_option maxRecDepth 10000 in
theorem T_M_court  {S : ip_St} {r : Int32} {S9 : ip_St} (h : f_M_court S = some (r, S9)) : ip_Me 125 [.ref 30] S (some (.int r)) S9 := by
  unfold f_M_court at h
  refine ⟨[some (.ref 30), none, none, none], rfl, ?_⟩
  refine ip_Ev.steps 1 (pc' := 1) (lv' := [some (.ref 30), none, none, none]) (st' := [.ref 30]) (S1 := S) rfl ?_
  obtain ⟨⟨zv2, zS3⟩, hzq1, h⟩ := ip_bind h
  dsimp only at h
  refine ip_Ev.call (i := 112) (a := [.ref 30]) (r := []) rfl (T_M_faultOf hzq1) ?_
  show ip_Ev 125 4 [some (.ref 30), none, none, none] [.int zv2] zS3 _ _
  refine ip_Ev.steps 2 (pc' := 8) (lv' := [some (.ref 30), none, none, none]) (st' := [.int (zS3.1 30 2), .int zv2]) (S1 := zS3) rfl ?_
  refine ip_Ev.iff2 rfl rfl ip_cLt (fun zhc4 => ?_) (fun zhc4 => ?_)
  · rw [if_pos zhc4] at h
    refine ip_Ev.steps 1 (pc' := 28) (lv' := [some (.ref 30), none, none, none]) (st' := [.int (-103)]) (S1 := zS3) rfl ?_
    cases h
    exact ip_Ev.ret rfl
  · rw [if_neg zhc4] at h
    refine ip_Ev.steps 3 (pc' := 16) (lv' := [some (.ref 30), none, none, none]) (st' := [.int (-1), .int (zS3.1 30 6)]) (S1 := zS3) rfl ?_
    refine ip_Ev.iff2 rfl rfl ip_cEq (fun zhc5 => ?_) (fun zhc5 => ?_)
    · rw [if_pos zhc5] at h
      refine ip_Ev.steps 1 (pc' := 28) (lv' := [some (.ref 30), none, none, none]) (st' := [.int (-103)]) (S1 := zS3) rfl ?_
      cases h
      exact ip_Ev.ret rfl
    · rw [if_neg zhc5] at h
      refine ip_Ev.steps 1 (pc' := 20) (lv' := [some (.ref 30), none, none, none]) (st' := [.ref 30]) (S1 := zS3) rfl ?_
      refine ip_Ev.call (i := 115) (a := [.ref 30]) (r := []) rfl (T_M_isLawWhole rfl) ?_
      show ip_Ev 125 23 [some (.ref 30), none, none, none] [.int (ip_b2i (f_M_isLawWhole zS3))] zS3 _ _
      refine ip_Ev.iff1 rfl rfl ip_bNe (fun zhc6 => ?_) (fun zhc6 => ?_)
      · rw [if_pos zhc6] at h
        refine ip_Ev.steps 4 (pc' := 36) (lv' := [some (.ref 30), none, none, none]) (st' := [.int 8, .int (zS3.1 30 6), .ref 30]) (S1 := zS3) rfl ?_
        refine ip_Ev.idiv rfl (by decide) ?_
        refine ip_Ev.steps 3 (pc' := 42) (lv' := [some (.ref 30), some (.int 0), none, none]) (st' := []) (S1 := (ip_upI zS3 30 18 ((zS3.1 30 6) / 8))) rfl ?_
        exact E_M_court_42 ip_FU h
      · rw [if_neg zhc6] at h
        refine ip_Ev.steps 1 (pc' := 28) (lv' := [some (.ref 30), none, none, none]) (st' := [.int (-103)]) (S1 := zS3) rfl ?_
        cases h
        exact ip_Ev.ret rfl
-- A_hasCourt
def f_A_hasCourt  (S : ip_St) : Bool := (if (S.1 12 1) ≤ 0 then false else true)
set_option maxRecDepth 10000 in
theorem T_A_hasCourt  {S : ip_St} {r : Bool} (h : f_A_hasCourt S = r) : ip_Me 30 [.ref 0] S (some (.int (ip_b2i r))) S := by
  unfold f_A_hasCourt at h
  refine ⟨[some (.ref 0)], rfl, ?_⟩
  refine ip_Ev.steps 3 (pc' := 7) (lv' := [some (.ref 0)]) (st' := [.int (S.1 12 1)]) (S1 := S) rfl ?_
  refine ip_Ev.iff1 rfl rfl ip_cLe (fun zhc1 => ?_) (fun zhc1 => ?_)
  · rw [if_pos zhc1] at h
    refine ip_Ev.steps 1 (pc' := 15) (lv' := [some (.ref 0)]) (st' := [.int 0]) (S1 := S) rfl ?_
    cases h
    exact ip_Ev.retB (b := false) rfl rfl
  · rw [if_neg zhc1] at h
    refine ip_Ev.steps 2 (pc' := 15) (lv' := [some (.ref 0)]) (st' := [.int 1]) (S1 := S) rfl ?_
    cases h
    exact ip_Ev.retB (b := true) rfl rfl
-- G_bitCount
def f_G_bitCount (p0 : Int64) : Int32 := ((Int64.toInt32 ((((((((p0 - ((ip_lushr p0 1) &&& 6148914691236517205)) &&& 3689348814741910323) + ((ip_lushr (p0 - ((ip_lushr p0 1) &&& 6148914691236517205)) 2) &&& 3689348814741910323)) + (ip_lushr (((p0 - ((ip_lushr p0 1) &&& 6148914691236517205)) &&& 3689348814741910323) + ((ip_lushr (p0 - ((ip_lushr p0 1) &&& 6148914691236517205)) 2) &&& 3689348814741910323)) 4)) &&& 1085102592571150095) + (ip_lushr (((((p0 - ((ip_lushr p0 1) &&& 6148914691236517205)) &&& 3689348814741910323) + ((ip_lushr (p0 - ((ip_lushr p0 1) &&& 6148914691236517205)) 2) &&& 3689348814741910323)) + (ip_lushr (((p0 - ((ip_lushr p0 1) &&& 6148914691236517205)) &&& 3689348814741910323) + ((ip_lushr (p0 - ((ip_lushr p0 1) &&& 6148914691236517205)) 2) &&& 3689348814741910323)) 4)) &&& 1085102592571150095) 8)) + (ip_lushr ((((((p0 - ((ip_lushr p0 1) &&& 6148914691236517205)) &&& 3689348814741910323) + ((ip_lushr (p0 - ((ip_lushr p0 1) &&& 6148914691236517205)) 2) &&& 3689348814741910323)) + (ip_lushr (((p0 - ((ip_lushr p0 1) &&& 6148914691236517205)) &&& 3689348814741910323) + ((ip_lushr (p0 - ((ip_lushr p0 1) &&& 6148914691236517205)) 2) &&& 3689348814741910323)) 4)) &&& 1085102592571150095) + (ip_lushr (((((p0 - ((ip_lushr p0 1) &&& 6148914691236517205)) &&& 3689348814741910323) + ((ip_lushr (p0 - ((ip_lushr p0 1) &&& 6148914691236517205)) 2) &&& 3689348814741910323)) + (ip_lushr (((p0 - ((ip_lushr p0 1) &&& 6148914691236517205)) &&& 3689348814741910323) + ((ip_lushr (p0 - ((ip_lushr p0 1) &&& 6148914691236517205)) 2) &&& 3689348814741910323)) 4)) &&& 1085102592571150095) 8)) 16)) + (ip_lushr (((((((p0 - ((ip_lushr p0 1) &&& 6148914691236517205)) &&& 3689348814741910323) + ((ip_lushr (p0 - ((ip_lushr p0 1) &&& 6148914691236517205)) 2) &&& 3689348814741910323)) + (ip_lushr (((p0 - ((ip_lushr p0 1) &&& 6148914691236517205)) &&& 3689348814741910323) + ((ip_lushr (p0 - ((ip_lushr p0 1) &&& 6148914691236517205)) 2) &&& 3689348814741910323)) 4)) &&& 1085102592571150095) + (ip_lushr (((((p0 - ((ip_lushr p0 1) &&& 6148914691236517205)) &&& 3689348814741910323) + ((ip_lushr (p0 - ((ip_lushr p0 1) &&& 6148914691236517205)) 2) &&& 3689348814741910323)) + (ip_lushr (((p0 - ((ip_lushr p0 1) &&& 6148914691236517205)) &&& 3689348814741910323) + ((ip_lushr (p0 - ((ip_lushr p0 1) &&& 6148914691236517205)) 2) &&& 3689348814741910323)) 4)) &&& 1085102592571150095) 8)) + (ip_lushr ((((((p0 - ((ip_lushr p0 1) &&& 6148914691236517205)) &&& 3689348814741910323) + ((ip_lushr (p0 - ((ip_lushr p0 1) &&& 6148914691236517205)) 2) &&& 3689348814741910323)) + (ip_lushr (((p0 - ((ip_lushr p0 1) &&& 6148914691236517205)) &&& 3689348814741910323) + ((ip_lushr (p0 - ((ip_lushr p0 1) &&& 6148914691236517205)) 2) &&& 3689348814741910323)) 4)) &&& 1085102592571150095) + (ip_lushr (((((p0 - ((ip_lushr p0 1) &&& 6148914691236517205)) &&& 3689348814741910323) + ((ip_lushr (p0 - ((ip_lushr p0 1) &&& 6148914691236517205)) 2) &&& 3689348814741910323)) + (ip_lushr (((p0 - ((ip_lushr p0 1) &&& 6148914691236517205)) &&& 3689348814741910323) + ((ip_lushr (p0 - ((ip_lushr p0 1) &&& 6148914691236517205)) 2) &&& 3689348814741910323)) 4)) &&& 1085102592571150095) 8)) 16)) 32))) &&& 127)
set_option maxRecDepth 10000 in
theorem T_G_bitCount {p0 : Int64} {S : ip_St} {r : Int32} (h : f_G_bitCount p0 = r) : ip_Me 31 [.long p0] S (some (.int r)) S := by
  unfold f_G_bitCount at h
  refine ⟨[some (.long p0), none], rfl, ?_⟩
  refine ip_Ev.steps 12 (pc' := 16) (lv' := [some (.long (p0 - ((ip_lushr p0 1) &&& 6148914691236517205))), none]) (st' := [.long (p0 - ((ip_lushr p0 1) &&& 6148914691236517205)), .long ((p0 - ((ip_lushr p0 1) &&& 6148914691236517205)) &&& 3689348814741910323)]) (S1 := S) rfl ?_
  refine ip_Ev.steps 12 (pc' := 32) (lv' := [some (.long (((p0 - ((ip_lushr p0 1) &&& 6148914691236517205)) &&& 3689348814741910323) + ((ip_lushr (p0 - ((ip_lushr p0 1) &&& 6148914691236517205)) 2) &&& 3689348814741910323))), none]) (st' := [.long 1085102592571150095, .long ((((p0 - ((ip_lushr p0 1) &&& 6148914691236517205)) &&& 3689348814741910323) + ((ip_lushr (p0 - ((ip_lushr p0 1) &&& 6148914691236517205)) 2) &&& 3689348814741910323)) + (ip_lushr (((p0 - ((ip_lushr p0 1) &&& 6148914691236517205)) &&& 3689348814741910323) + ((ip_lushr (p0 - ((ip_lushr p0 1) &&& 6148914691236517205)) 2) &&& 3689348814741910323)) 4))]) (S1 := S) rfl ?_
  refine ip_Ev.steps 12 (pc' := 46) (lv' := [some (.long ((((((p0 - ((ip_lushr p0 1) &&& 6148914691236517205)) &&& 3689348814741910323) + ((ip_lushr (p0 - ((ip_lushr p0 1) &&& 6148914691236517205)) 2) &&& 3689348814741910323)) + (ip_lushr (((p0 - ((ip_lushr p0 1) &&& 6148914691236517205)) &&& 3689348814741910323) + ((ip_lushr (p0 - ((ip_lushr p0 1) &&& 6148914691236517205)) 2) &&& 3689348814741910323)) 4)) &&& 1085102592571150095) + (ip_lushr (((((p0 - ((ip_lushr p0 1) &&& 6148914691236517205)) &&& 3689348814741910323) + ((ip_lushr (p0 - ((ip_lushr p0 1) &&& 6148914691236517205)) 2) &&& 3689348814741910323)) + (ip_lushr (((p0 - ((ip_lushr p0 1) &&& 6148914691236517205)) &&& 3689348814741910323) + ((ip_lushr (p0 - ((ip_lushr p0 1) &&& 6148914691236517205)) 2) &&& 3689348814741910323)) 4)) &&& 1085102592571150095) 8))), none]) (st' := [.long (ip_lushr ((((((p0 - ((ip_lushr p0 1) &&& 6148914691236517205)) &&& 3689348814741910323) + ((ip_lushr (p0 - ((ip_lushr p0 1) &&& 6148914691236517205)) 2) &&& 3689348814741910323)) + (ip_lushr (((p0 - ((ip_lushr p0 1) &&& 6148914691236517205)) &&& 3689348814741910323) + ((ip_lushr (p0 - ((ip_lushr p0 1) &&& 6148914691236517205)) 2) &&& 3689348814741910323)) 4)) &&& 1085102592571150095) + (ip_lushr (((((p0 - ((ip_lushr p0 1) &&& 6148914691236517205)) &&& 3689348814741910323) + ((ip_lushr (p0 - ((ip_lushr p0 1) &&& 6148914691236517205)) 2) &&& 3689348814741910323)) + (ip_lushr (((p0 - ((ip_lushr p0 1) &&& 6148914691236517205)) &&& 3689348814741910323) + ((ip_lushr (p0 - ((ip_lushr p0 1) &&& 6148914691236517205)) 2) &&& 3689348814741910323)) 4)) &&& 1085102592571150095) 8)) 16), .long ((((((p0 - ((ip_lushr p0 1) &&& 6148914691236517205)) &&& 3689348814741910323) + ((ip_lushr (p0 - ((ip_lushr p0 1) &&& 6148914691236517205)) 2) &&& 3689348814741910323)) + (ip_lushr (((p0 - ((ip_lushr p0 1) &&& 6148914691236517205)) &&& 3689348814741910323) + ((ip_lushr (p0 - ((ip_lushr p0 1) &&& 6148914691236517205)) 2) &&& 3689348814741910323)) 4)) &&& 1085102592571150095) + (ip_lushr (((((p0 - ((ip_lushr p0 1) &&& 6148914691236517205)) &&& 3689348814741910323) + ((ip_lushr (p0 - ((ip_lushr p0 1) &&& 6148914691236517205)) 2) &&& 3689348814741910323)) + (ip_lushr (((p0 - ((ip_lushr p0 1) &&& 6148914691236517205)) &&& 3689348814741910323) + ((ip_lushr (p0 - ((ip_lushr p0 1) &&& 6148914691236517205)) 2) &&& 3689348814741910323)) 4)) &&& 1085102592571150095) 8))]) (S1 := S) rfl ?_
  refine ip_Ev.steps 12 (pc' := 60) (lv' := [some (.long ((((((((p0 - ((ip_lushr p0 1) &&& 6148914691236517205)) &&& 3689348814741910323) + ((ip_lushr (p0 - ((ip_lushr p0 1) &&& 6148914691236517205)) 2) &&& 3689348814741910323)) + (ip_lushr (((p0 - ((ip_lushr p0 1) &&& 6148914691236517205)) &&& 3689348814741910323) + ((ip_lushr (p0 - ((ip_lushr p0 1) &&& 6148914691236517205)) 2) &&& 3689348814741910323)) 4)) &&& 1085102592571150095) + (ip_lushr (((((p0 - ((ip_lushr p0 1) &&& 6148914691236517205)) &&& 3689348814741910323) + ((ip_lushr (p0 - ((ip_lushr p0 1) &&& 6148914691236517205)) 2) &&& 3689348814741910323)) + (ip_lushr (((p0 - ((ip_lushr p0 1) &&& 6148914691236517205)) &&& 3689348814741910323) + ((ip_lushr (p0 - ((ip_lushr p0 1) &&& 6148914691236517205)) 2) &&& 3689348814741910323)) 4)) &&& 1085102592571150095) 8)) + (ip_lushr ((((((p0 - ((ip_lushr p0 1) &&& 6148914691236517205)) &&& 3689348814741910323) + ((ip_lushr (p0 - ((ip_lushr p0 1) &&& 6148914691236517205)) 2) &&& 3689348814741910323)) + (ip_lushr (((p0 - ((ip_lushr p0 1) &&& 6148914691236517205)) &&& 3689348814741910323) + ((ip_lushr (p0 - ((ip_lushr p0 1) &&& 6148914691236517205)) 2) &&& 3689348814741910323)) 4)) &&& 1085102592571150095) + (ip_lushr (((((p0 - ((ip_lushr p0 1) &&& 6148914691236517205)) &&& 3689348814741910323) + ((ip_lushr (p0 - ((ip_lushr p0 1) &&& 6148914691236517205)) 2) &&& 3689348814741910323)) + (ip_lushr (((p0 - ((ip_lushr p0 1) &&& 6148914691236517205)) &&& 3689348814741910323) + ((ip_lushr (p0 - ((ip_lushr p0 1) &&& 6148914691236517205)) 2) &&& 3689348814741910323)) 4)) &&& 1085102592571150095) 8)) 16)) + (ip_lushr (((((((p0 - ((ip_lushr p0 1) &&& 6148914691236517205)) &&& 3689348814741910323) + ((ip_lushr (p0 - ((ip_lushr p0 1) &&& 6148914691236517205)) 2) &&& 3689348814741910323)) + (ip_lushr (((p0 - ((ip_lushr p0 1) &&& 6148914691236517205)) &&& 3689348814741910323) + ((ip_lushr (p0 - ((ip_lushr p0 1) &&& 6148914691236517205)) 2) &&& 3689348814741910323)) 4)) &&& 1085102592571150095) + (ip_lushr (((((p0 - ((ip_lushr p0 1) &&& 6148914691236517205)) &&& 3689348814741910323) + ((ip_lushr (p0 - ((ip_lushr p0 1) &&& 6148914691236517205)) 2) &&& 3689348814741910323)) + (ip_lushr (((p0 - ((ip_lushr p0 1) &&& 6148914691236517205)) &&& 3689348814741910323) + ((ip_lushr (p0 - ((ip_lushr p0 1) &&& 6148914691236517205)) 2) &&& 3689348814741910323)) 4)) &&& 1085102592571150095) 8)) + (ip_lushr ((((((p0 - ((ip_lushr p0 1) &&& 6148914691236517205)) &&& 3689348814741910323) + ((ip_lushr (p0 - ((ip_lushr p0 1) &&& 6148914691236517205)) 2) &&& 3689348814741910323)) + (ip_lushr (((p0 - ((ip_lushr p0 1) &&& 6148914691236517205)) &&& 3689348814741910323) + ((ip_lushr (p0 - ((ip_lushr p0 1) &&& 6148914691236517205)) 2) &&& 3689348814741910323)) 4)) &&& 1085102592571150095) + (ip_lushr (((((p0 - ((ip_lushr p0 1) &&& 6148914691236517205)) &&& 3689348814741910323) + ((ip_lushr (p0 - ((ip_lushr p0 1) &&& 6148914691236517205)) 2) &&& 3689348814741910323)) + (ip_lushr (((p0 - ((ip_lushr p0 1) &&& 6148914691236517205)) &&& 3689348814741910323) + ((ip_lushr (p0 - ((ip_lushr p0 1) &&& 6148914691236517205)) 2) &&& 3689348814741910323)) 4)) &&& 1085102592571150095) 8)) 16)) 32))), none]) (st' := [.int ((Int64.toInt32 ((((((((p0 - ((ip_lushr p0 1) &&& 6148914691236517205)) &&& 3689348814741910323) + ((ip_lushr (p0 - ((ip_lushr p0 1) &&& 6148914691236517205)) 2) &&& 3689348814741910323)) + (ip_lushr (((p0 - ((ip_lushr p0 1) &&& 6148914691236517205)) &&& 3689348814741910323) + ((ip_lushr (p0 - ((ip_lushr p0 1) &&& 6148914691236517205)) 2) &&& 3689348814741910323)) 4)) &&& 1085102592571150095) + (ip_lushr (((((p0 - ((ip_lushr p0 1) &&& 6148914691236517205)) &&& 3689348814741910323) + ((ip_lushr (p0 - ((ip_lushr p0 1) &&& 6148914691236517205)) 2) &&& 3689348814741910323)) + (ip_lushr (((p0 - ((ip_lushr p0 1) &&& 6148914691236517205)) &&& 3689348814741910323) + ((ip_lushr (p0 - ((ip_lushr p0 1) &&& 6148914691236517205)) 2) &&& 3689348814741910323)) 4)) &&& 1085102592571150095) 8)) + (ip_lushr ((((((p0 - ((ip_lushr p0 1) &&& 6148914691236517205)) &&& 3689348814741910323) + ((ip_lushr (p0 - ((ip_lushr p0 1) &&& 6148914691236517205)) 2) &&& 3689348814741910323)) + (ip_lushr (((p0 - ((ip_lushr p0 1) &&& 6148914691236517205)) &&& 3689348814741910323) + ((ip_lushr (p0 - ((ip_lushr p0 1) &&& 6148914691236517205)) 2) &&& 3689348814741910323)) 4)) &&& 1085102592571150095) + (ip_lushr (((((p0 - ((ip_lushr p0 1) &&& 6148914691236517205)) &&& 3689348814741910323) + ((ip_lushr (p0 - ((ip_lushr p0 1) &&& 6148914691236517205)) 2) &&& 3689348814741910323)) + (ip_lushr (((p0 - ((ip_lushr p0 1) &&& 6148914691236517205)) &&& 3689348814741910323) + ((ip_lushr (p0 - ((ip_lushr p0 1) &&& 6148914691236517205)) 2) &&& 3689348814741910323)) 4)) &&& 1085102592571150095) 8)) 16)) + (ip_lushr (((((((p0 - ((ip_lushr p0 1) &&& 6148914691236517205)) &&& 3689348814741910323) + ((ip_lushr (p0 - ((ip_lushr p0 1) &&& 6148914691236517205)) 2) &&& 3689348814741910323)) + (ip_lushr (((p0 - ((ip_lushr p0 1) &&& 6148914691236517205)) &&& 3689348814741910323) + ((ip_lushr (p0 - ((ip_lushr p0 1) &&& 6148914691236517205)) 2) &&& 3689348814741910323)) 4)) &&& 1085102592571150095) + (ip_lushr (((((p0 - ((ip_lushr p0 1) &&& 6148914691236517205)) &&& 3689348814741910323) + ((ip_lushr (p0 - ((ip_lushr p0 1) &&& 6148914691236517205)) 2) &&& 3689348814741910323)) + (ip_lushr (((p0 - ((ip_lushr p0 1) &&& 6148914691236517205)) &&& 3689348814741910323) + ((ip_lushr (p0 - ((ip_lushr p0 1) &&& 6148914691236517205)) 2) &&& 3689348814741910323)) 4)) &&& 1085102592571150095) 8)) + (ip_lushr ((((((p0 - ((ip_lushr p0 1) &&& 6148914691236517205)) &&& 3689348814741910323) + ((ip_lushr (p0 - ((ip_lushr p0 1) &&& 6148914691236517205)) 2) &&& 3689348814741910323)) + (ip_lushr (((p0 - ((ip_lushr p0 1) &&& 6148914691236517205)) &&& 3689348814741910323) + ((ip_lushr (p0 - ((ip_lushr p0 1) &&& 6148914691236517205)) 2) &&& 3689348814741910323)) 4)) &&& 1085102592571150095) + (ip_lushr (((((p0 - ((ip_lushr p0 1) &&& 6148914691236517205)) &&& 3689348814741910323) + ((ip_lushr (p0 - ((ip_lushr p0 1) &&& 6148914691236517205)) 2) &&& 3689348814741910323)) + (ip_lushr (((p0 - ((ip_lushr p0 1) &&& 6148914691236517205)) &&& 3689348814741910323) + ((ip_lushr (p0 - ((ip_lushr p0 1) &&& 6148914691236517205)) 2) &&& 3689348814741910323)) 4)) &&& 1085102592571150095) 8)) 16)) 32))) &&& 127)]) (S1 := S) rfl ?_
  cases h
  exact ip_Ev.ret rfl
-- A_amend
def f_A_amend  (S : ip_St) : Option (Int32 × ip_St) := (if (f_A_hasCourt S) = false then some ((-103), S) else ((f_A_scanLaw 0 S).bind fun zq2 => (if zq2.1 < (zq2.2.1 0 1) then some ((-103), zq2.2) else (if (f_R_isWhole zq2.2) = true then ((f_R_result zq2.2).bind fun zS8 => some ((f_G_bitCount ((ip_upI (ip_upI (f_L_take_17_3 zS8) 12 3 (((f_L_take_17_3 zS8).1 12 3) + 1)) 0 1 0).2 17 0)), (ip_upI (ip_upI (f_L_take_17_3 zS8) 12 3 (((f_L_take_17_3 zS8).1 12 3) + 1)) 0 1 0))) else some ((-103), zq2.2)))))
set_option maxRecDepth 10000 in
theorem T_A_amend  {S : ip_St} {r : Int32} {S9 : ip_St} (h : f_A_amend S = some (r, S9)) : ip_Me 32 [.ref 0] S (some (.int r)) S9 := by
  unfold f_A_amend at h
  refine ⟨[some (.ref 0)], rfl, ?_⟩
  refine ip_Ev.steps 1 (pc' := 1) (lv' := [some (.ref 0)]) (st' := [.ref 0]) (S1 := S) rfl ?_
  refine ip_Ev.call (i := 30) (a := [.ref 0]) (r := []) rfl (T_A_hasCourt rfl) ?_
  show ip_Ev 32 4 [some (.ref 0)] [.int (ip_b2i (f_A_hasCourt S))] S _ _
  refine ip_Ev.iff1 rfl rfl ip_bEq (fun zhc1 => ?_) (fun zhc1 => ?_)
  · rw [if_pos zhc1] at h
    refine ip_Ev.steps 1 (pc' := 31) (lv' := [some (.ref 0)]) (st' := [.int (-103)]) (S1 := S) rfl ?_
    cases h
    exact ip_Ev.ret rfl
  · rw [if_neg zhc1] at h
    refine ip_Ev.steps 2 (pc' := 9) (lv' := [some (.ref 0)]) (st' := [.int 0, .ref 0]) (S1 := S) rfl ?_
    obtain ⟨⟨zv3, zS4⟩, hzq2, h⟩ := ip_bind h
    dsimp only at h
    refine ip_Ev.call (i := 16) (a := [.ref 0, .int 0]) (r := []) rfl (T_A_scanLaw hzq2) ?_
    show ip_Ev 32 12 [some (.ref 0)] [.int zv3] zS4 _ _
    refine ip_Ev.steps 2 (pc' := 16) (lv' := [some (.ref 0)]) (st' := [.int (zS4.1 0 1), .int zv3]) (S1 := zS4) rfl ?_
    refine ip_Ev.iff2 rfl rfl ip_cLt (fun zhc5 => ?_) (fun zhc5 => ?_)
    · rw [if_pos zhc5] at h
      refine ip_Ev.steps 1 (pc' := 31) (lv' := [some (.ref 0)]) (st' := [.int (-103)]) (S1 := zS4) rfl ?_
      cases h
      exact ip_Ev.ret rfl
    · rw [if_neg zhc5] at h
      refine ip_Ev.steps 2 (pc' := 23) (lv' := [some (.ref 0)]) (st' := [.ref 2]) (S1 := zS4) rfl ?_
      refine ip_Ev.call (i := 21) (a := [.ref 2]) (r := []) rfl (T_R_isWhole rfl) ?_
      show ip_Ev 32 26 [some (.ref 0)] [.int (ip_b2i (f_R_isWhole zS4))] zS4 _ _
      refine ip_Ev.iff1 rfl rfl ip_bNe (fun zhc6 => ?_) (fun zhc6 => ?_)
      · rw [if_pos zhc6] at h
        refine ip_Ev.steps 5 (pc' := 43) (lv' := [some (.ref 0)]) (st' := [.ref 2, .ref 17]) (S1 := zS4) rfl ?_
        obtain ⟨zS8, hzq7, h⟩ := ip_bind h
        refine ip_Ev.call (i := 27) (a := [.ref 2]) (r := [.ref 17]) rfl (T_R_result hzq7) ?_
        show ip_Ev 32 46 [some (.ref 0)] [.ref 3, .ref 17] zS8 _ _
        refine ip_Ev.call (i := 28) (a := [.ref 17, .ref 3]) (r := []) rfl (T_L_take_17_3 rfl) ?_
        show ip_Ev 32 49 [some (.ref 0)] [] (f_L_take_17_3 zS8) _ _
        refine ip_Ev.steps 12 (pc' := 71) (lv' := [some (.ref 0)]) (st' := [.ref 12]) (S1 := (ip_upI (ip_upI (f_L_take_17_3 zS8) 12 3 (((f_L_take_17_3 zS8).1 12 3) + 1)) 0 1 0)) rfl ?_
        refine ip_Ev.steps 2 (pc' := 77) (lv' := [some (.ref 0)]) (st' := [.long ((ip_upI (ip_upI (f_L_take_17_3 zS8) 12 3 (((f_L_take_17_3 zS8).1 12 3) + 1)) 0 1 0).2 17 0)]) (S1 := (ip_upI (ip_upI (f_L_take_17_3 zS8) 12 3 (((f_L_take_17_3 zS8).1 12 3) + 1)) 0 1 0)) rfl ?_
        refine ip_Ev.call (i := 31) (a := [.long ((ip_upI (ip_upI (f_L_take_17_3 zS8) 12 3 (((f_L_take_17_3 zS8).1 12 3) + 1)) 0 1 0).2 17 0)]) (r := []) rfl (T_G_bitCount rfl) ?_
        show ip_Ev 32 80 [some (.ref 0)] [.int (f_G_bitCount ((ip_upI (ip_upI (f_L_take_17_3 zS8) 12 3 (((f_L_take_17_3 zS8).1 12 3) + 1)) 0 1 0).2 17 0))] (ip_upI (ip_upI (f_L_take_17_3 zS8) 12 3 (((f_L_take_17_3 zS8).1 12 3) + 1)) 0 1 0) _ _
        cases h
        exact ip_Ev.ret rfl
      · rw [if_neg zhc6] at h
        refine ip_Ev.steps 1 (pc' := 31) (lv' := [some (.ref 0)]) (st' := [.int (-103)]) (S1 := zS4) rfl ?_
        cases h
        exact ip_Ev.ret rfl
-- M_lacks
def f_M_lacks  (S : ip_St) : Bool := (if (S.1 30 18) = 0 then true else false)
set_option maxRecDepth 10000 in
theorem T_M_lacks  {S : ip_St} {r : Bool} (h : f_M_lacks S = r) : ip_Me 126 [.ref 30] S (some (.int (ip_b2i r))) S := by
  unfold f_M_lacks at h
  refine ⟨[some (.ref 30)], rfl, ?_⟩
  refine ip_Ev.steps 2 (pc' := 4) (lv' := [some (.ref 30)]) (st' := [.int (S.1 30 18)]) (S1 := S) rfl ?_
  refine ip_Ev.iff1 rfl rfl ip_cNe (fun zhc1 => ?_) (fun zhc1 => ?_)
  · rw [if_neg zhc1] at h
    refine ip_Ev.steps 1 (pc' := 12) (lv' := [some (.ref 30)]) (st' := [.int 0]) (S1 := S) rfl ?_
    cases h
    exact ip_Ev.retB (b := false) rfl rfl
  · rw [if_pos (Decidable.of_not_not zhc1)] at h
    refine ip_Ev.steps 2 (pc' := 12) (lv' := [some (.ref 30)]) (st' := [.int 1]) (S1 := S) rfl ?_
    cases h
    exact ip_Ev.retB (b := true) rfl rfl
-- M_ones
def f_M_ones_4 : Nat → Int64 → Int32 → Int32 → Option (Int32)
  | 0, _, _, _ => none
  | n + 1, x0, x2, x3 => (if 64 ≤ x3 then some x2 else (f_M_ones_4 n x0 (x2 + (Int64.toInt32 ((ip_lshr x0 x3) &&& 1))) (x3 + 1)))
set_option maxRecDepth 10000 in
theorem E_M_ones_4 : ∀ (n : Nat) {x0 : Int64} {x2 : Int32} {x3 : Int32} {S : ip_St} {r : Int32}, f_M_ones_4 n x0 x2 x3 = some r → ip_Ev 127 4 [some (.long x0), none, some (.int x2), some (.int x3)] [] S (some (.int r)) S := by
  intro n
  induction n with
  | zero =>
    intro x0 x2 x3 S r h
    cases h
  | succ n ih =>
    intro x0 x2 x3 S r h
    rw [f_M_ones_4] at h
    refine ip_Ev.steps 2 (pc' := 7) (lv' := [some (.long x0), none, some (.int x2), some (.int x3)]) (st' := [.int 64, .int x3]) (S1 := S) rfl ?_
    refine ip_Ev.iff2 rfl rfl ip_cGe (fun zhc1 => ?_) (fun zhc1 => ?_)
    · rw [if_pos zhc1] at h
      refine ip_Ev.steps 1 (pc' := 26) (lv' := [some (.long x0), none, some (.int x2), some (.int x3)]) (st' := [.int x2]) (S1 := S) rfl ?_
      cases h
      exact ip_Ev.ret rfl
    · rw [if_neg zhc1] at h
      refine ip_Ev.steps 11 (pc' := 4) (lv' := [some (.long x0), none, some (.int (x2 + (Int64.toInt32 ((ip_lshr x0 x3) &&& 1)))), some (.int (x3 + 1))]) (st' := []) (S1 := S) rfl ?_
      exact ih h
def f_M_ones (p0 : Int64) : Option (Int32) := (f_M_ones_4 ip_FU p0 0 0)
set_option maxRecDepth 10000 in
theorem T_M_ones {p0 : Int64} {S : ip_St} {r : Int32} (h : f_M_ones p0 = some r) : ip_Me 127 [.long p0] S (some (.int r)) S := by
  unfold f_M_ones at h
  refine ⟨[some (.long p0), none, none, none], rfl, ?_⟩
  refine ip_Ev.steps 4 (pc' := 4) (lv' := [some (.long p0), none, some (.int 0), some (.int 0)]) (st' := []) (S1 := S) rfl ?_
  exact E_M_ones_4 ip_FU h
-- M_amend
def f_M_amend  (S : ip_St) : Option (Int32 × ip_St) := (if (f_M_lacks S) = true then some ((-103), S) else ((f_M_goLawFrom 0 S).bind fun zq2 => (if zq2.1 < (zq2.2.1 30 2) then some ((-103), zq2.2) else (if (f_M_isLawWhole zq2.2) = true then ((f_M_layLaw 0 zq2.2).bind fun zS8 => ((f_M_ones ((ip_upI zS8 30 20 ((zS8.1 30 20) + 1)).2 30 17)).bind fun zv10 => some (zv10, (ip_upI zS8 30 20 ((zS8.1 30 20) + 1))))) else some ((-103), zq2.2)))))
set_option maxRecDepth 10000 in
theorem T_M_amend  {S : ip_St} {r : Int32} {S9 : ip_St} (h : f_M_amend S = some (r, S9)) : ip_Me 128 [.ref 30] S (some (.int r)) S9 := by
  unfold f_M_amend at h
  refine ⟨[some (.ref 30)], rfl, ?_⟩
  refine ip_Ev.steps 1 (pc' := 1) (lv' := [some (.ref 30)]) (st' := [.ref 30]) (S1 := S) rfl ?_
  refine ip_Ev.call (i := 126) (a := [.ref 30]) (r := []) rfl (T_M_lacks rfl) ?_
  show ip_Ev 128 4 [some (.ref 30)] [.int (ip_b2i (f_M_lacks S))] S _ _
  refine ip_Ev.iff1 rfl rfl ip_bNe (fun zhc1 => ?_) (fun zhc1 => ?_)
  · rw [if_pos zhc1] at h
    refine ip_Ev.steps 1 (pc' := 28) (lv' := [some (.ref 30)]) (st' := [.int (-103)]) (S1 := S) rfl ?_
    cases h
    exact ip_Ev.ret rfl
  · rw [if_neg zhc1] at h
    refine ip_Ev.steps 2 (pc' := 9) (lv' := [some (.ref 30)]) (st' := [.int 0, .ref 30]) (S1 := S) rfl ?_
    obtain ⟨⟨zv3, zS4⟩, hzq2, h⟩ := ip_bind h
    dsimp only at h
    refine ip_Ev.call (i := 111) (a := [.ref 30, .int 0]) (r := []) rfl (T_M_goLawFrom hzq2) ?_
    show ip_Ev 128 12 [some (.ref 30)] [.int zv3] zS4 _ _
    refine ip_Ev.steps 2 (pc' := 16) (lv' := [some (.ref 30)]) (st' := [.int (zS4.1 30 2), .int zv3]) (S1 := zS4) rfl ?_
    refine ip_Ev.iff2 rfl rfl ip_cLt (fun zhc5 => ?_) (fun zhc5 => ?_)
    · rw [if_pos zhc5] at h
      refine ip_Ev.steps 1 (pc' := 28) (lv' := [some (.ref 30)]) (st' := [.int (-103)]) (S1 := zS4) rfl ?_
      cases h
      exact ip_Ev.ret rfl
    · rw [if_neg zhc5] at h
      refine ip_Ev.steps 1 (pc' := 20) (lv' := [some (.ref 30)]) (st' := [.ref 30]) (S1 := zS4) rfl ?_
      refine ip_Ev.call (i := 115) (a := [.ref 30]) (r := []) rfl (T_M_isLawWhole rfl) ?_
      show ip_Ev 128 23 [some (.ref 30)] [.int (ip_b2i (f_M_isLawWhole zS4))] zS4 _ _
      refine ip_Ev.iff1 rfl rfl ip_bNe (fun zhc6 => ?_) (fun zhc6 => ?_)
      · rw [if_pos zhc6] at h
        refine ip_Ev.steps 2 (pc' := 31) (lv' := [some (.ref 30)]) (st' := [.int 0, .ref 30]) (S1 := zS4) rfl ?_
        obtain ⟨zS8, hzq7, h⟩ := ip_bind h
        refine ip_Ev.call (i := 124) (a := [.ref 30, .int 0]) (r := []) rfl (T_M_layLaw hzq7) ?_
        show ip_Ev 128 34 [some (.ref 30)] [] zS8 _ _
        refine ip_Ev.steps 8 (pc' := 48) (lv' := [some (.ref 30)]) (st' := [.long ((ip_upI zS8 30 20 ((zS8.1 30 20) + 1)).2 30 17)]) (S1 := (ip_upI zS8 30 20 ((zS8.1 30 20) + 1))) rfl ?_
        obtain ⟨zv10, hzq9, h⟩ := ip_bind h
        refine ip_Ev.call (i := 127) (a := [.long ((ip_upI zS8 30 20 ((zS8.1 30 20) + 1)).2 30 17)]) (r := []) rfl (T_M_ones hzq9) ?_
        show ip_Ev 128 51 [some (.ref 30)] [.int zv10] (ip_upI zS8 30 20 ((zS8.1 30 20) + 1)) _ _
        cases h
        exact ip_Ev.ret rfl
      · rw [if_neg zhc6] at h
        refine ip_Ev.steps 1 (pc' := 28) (lv' := [some (.ref 30)]) (st' := [.int (-103)]) (S1 := zS4) rfl ?_
        cases h
        exact ip_Ev.ret rfl
-- A_lawFault
def f_A_lawFault  (S : ip_St) : Option (Int32 × ip_St) := ((f_A_scanLaw 0 S).bind fun zq1 => some (zq1.1, zq1.2))
set_option maxRecDepth 10000 in
theorem T_A_lawFault  {S : ip_St} {r : Int32} {S9 : ip_St} (h : f_A_lawFault S = some (r, S9)) : ip_Me 33 [.ref 0] S (some (.int r)) S9 := by
  unfold f_A_lawFault at h
  refine ⟨[some (.ref 0)], rfl, ?_⟩
  refine ip_Ev.steps 2 (pc' := 2) (lv' := [some (.ref 0)]) (st' := [.int 0, .ref 0]) (S1 := S) rfl ?_
  obtain ⟨⟨zv2, zS3⟩, hzq1, h⟩ := ip_bind h
  dsimp only at h
  refine ip_Ev.call (i := 16) (a := [.ref 0, .int 0]) (r := []) rfl (T_A_scanLaw hzq1) ?_
  show ip_Ev 33 5 [some (.ref 0)] [.int zv2] zS3 _ _
  cases h
  exact ip_Ev.ret rfl
-- M_lawFault
def f_M_lawFault  (S : ip_St) : Option (Int32 × ip_St) := ((f_M_goLawFrom 0 S).bind fun zq1 => some (zq1.1, zq1.2))
set_option maxRecDepth 10000 in
theorem T_M_lawFault  {S : ip_St} {r : Int32} {S9 : ip_St} (h : f_M_lawFault S = some (r, S9)) : ip_Me 114 [.ref 30] S (some (.int r)) S9 := by
  unfold f_M_lawFault at h
  refine ⟨[some (.ref 30)], rfl, ?_⟩
  refine ip_Ev.steps 2 (pc' := 2) (lv' := [some (.ref 30)]) (st' := [.int 0, .ref 30]) (S1 := S) rfl ?_
  obtain ⟨⟨zv2, zS3⟩, hzq1, h⟩ := ip_bind h
  dsimp only at h
  refine ip_Ev.call (i := 111) (a := [.ref 30, .int 0]) (r := []) rfl (T_M_goLawFrom hzq1) ?_
  show ip_Ev 114 5 [some (.ref 30)] [.int zv2] zS3 _ _
  cases h
  exact ip_Ev.ret rfl
-- A_turned
def f_A_turned (p0 : Int64) (p1 : Int32) : Option (Int64) := ((ip_cL p1).bind fun zv1 => ((ip_cL p1).bind fun zv2 => some ((ip_lushr (p0 &&& zv1) (ip_ishl 1 p1)) ||| (ip_lshl (p0 &&& (zv2 ^^^ (-1))) (ip_ishl 1 p1)))))
set_option maxRecDepth 10000 in
theorem T_A_turned {p0 : Int64} {p1 : Int32} {S : ip_St} {r : Int64} (h : f_A_turned p0 p1 = some r) : ip_Me 34 [.long p0, .int p1] S (some (.long r)) S := by
  unfold f_A_turned at h
  refine ⟨[some (.long p0), none, some (.int p1), none], rfl, ?_⟩
  refine ip_Ev.steps 7 (pc' := 9) (lv' := [some (.long p0), none, some (.int p1), some (.int (ip_ishl 1 p1))]) (st' := [.int p1, .ref 55, .long p0]) (S1 := S) rfl ?_
  obtain ⟨zv1, hzv1, h⟩ := ip_bind h
  refine ip_Ev.lald rfl hzv1 ?_
  refine ip_Ev.steps 6 (pc' := 18) (lv' := [some (.long p0), none, some (.int p1), some (.int (ip_ishl 1 p1))]) (st' := [.int p1, .ref 55, .long p0, .long (ip_lushr (p0 &&& zv1) (ip_ishl 1 p1))]) (S1 := S) rfl ?_
  obtain ⟨zv2, hzv2, h⟩ := ip_bind h
  refine ip_Ev.lald rfl hzv2 ?_
  refine ip_Ev.steps 6 (pc' := 27) (lv' := [some (.long p0), none, some (.int p1), some (.int (ip_ishl 1 p1))]) (st' := [.long ((ip_lushr (p0 &&& zv1) (ip_ishl 1 p1)) ||| (ip_lshl (p0 &&& (zv2 ^^^ (-1))) (ip_ishl 1 p1)))]) (S1 := S) rfl ?_
  cases h
  exact ip_Ev.ret rfl
-- A_matters
def f_A_matters_4 : Nat → Int64 → Int32 → Int32 → Option (Int32)
  | 0, _, _, _ => none
  | n + 1, x0, x2, x3 => (if 6 ≤ x3 then some x2 else ((f_A_turned x0 x3).bind fun zv3 => (if zv3 = x0 then (f_A_matters_4 n x0 x2 (x3 + 1)) else (f_A_matters_4 n x0 (x2 ||| (ip_ishl 1 x3)) (x3 + 1)))))
set_option maxRecDepth 10000 in
theorem E_A_matters_4 : ∀ (n : Nat) {x0 : Int64} {x2 : Int32} {x3 : Int32} {S : ip_St} {r : Int32}, f_A_matters_4 n x0 x2 x3 = some r → ip_Ev 35 4 [some (.long x0), none, some (.int x2), some (.int x3)] [] S (some (.int r)) S := by
  intro n
  induction n with
  | zero =>
    intro x0 x2 x3 S r h
    cases h
  | succ n ih =>
    intro x0 x2 x3 S r h
    rw [f_A_matters_4] at h
    refine ip_Ev.steps 2 (pc' := 7) (lv' := [some (.long x0), none, some (.int x2), some (.int x3)]) (st' := [.int 6, .int x3]) (S1 := S) rfl ?_
    refine ip_Ev.iff2 rfl rfl ip_cGe (fun zhc1 => ?_) (fun zhc1 => ?_)
    · rw [if_pos zhc1] at h
      refine ip_Ev.steps 1 (pc' := 33) (lv' := [some (.long x0), none, some (.int x2), some (.int x3)]) (st' := [.int x2]) (S1 := S) rfl ?_
      cases h
      exact ip_Ev.ret rfl
    · rw [if_neg zhc1] at h
      refine ip_Ev.steps 2 (pc' := 12) (lv' := [some (.long x0), none, some (.int x2), some (.int x3)]) (st' := [.int x3, .long x0]) (S1 := S) rfl ?_
      obtain ⟨zv3, hzq2, h⟩ := ip_bind h
      refine ip_Ev.call (i := 34) (a := [.long x0, .int x3]) (r := []) rfl (T_A_turned hzq2) ?_
      show ip_Ev 35 15 [some (.long x0), none, some (.int x2), some (.int x3)] [.long zv3] S _ _
      refine ip_Ev.steps 2 (pc' := 17) (lv' := [some (.long x0), none, some (.int x2), some (.int x3)]) (st' := [.int (lg_cmp zv3 x0)]) (S1 := S) rfl ?_
      refine ip_Ev.iff1 rfl rfl ip_lEq (fun zhc4 => ?_) (fun zhc4 => ?_)
      · rw [if_pos zhc4] at h
        refine ip_Ev.steps 2 (pc' := 4) (lv' := [some (.long x0), none, some (.int x2), some (.int (x3 + 1))]) (st' := []) (S1 := S) rfl ?_
        exact ih h
      · rw [if_neg zhc4] at h
        refine ip_Ev.steps 8 (pc' := 4) (lv' := [some (.long x0), none, some (.int (x2 ||| (ip_ishl 1 x3))), some (.int (x3 + 1))]) (st' := []) (S1 := S) rfl ?_
        exact ih h
def f_A_matters (p0 : Int64) : Option (Int32) := (f_A_matters_4 ip_FU p0 0 0)
set_option maxRecDepth 10000 in
theorem T_A_matters {p0 : Int64} {S : ip_St} {r : Int32} (h : f_A_matters p0 = some r) : ip_Me 35 [.long p0] S (some (.int r)) S := by
  unfold f_A_matters at h
  refine ⟨[some (.long p0), none, none, none], rfl, ?_⟩
  refine ip_Ev.steps 4 (pc' := 4) (lv' := [some (.long p0), none, some (.int 0), some (.int 0)]) (st' := []) (S1 := S) rfl ?_
  exact E_A_matters_4 ip_FU h
-- A_statute
def f_A_statute (p1 : Int32) (S : ip_St) : Option (Int32) := (if p1 < 0 then some (-102) else (if p1 ≤ 5 then (if (f_A_hasCourt S) = true then (if p1 = 0 then some (f_G_bitCount (S.2 17 0)) else (if p1 = 1 then ((f_A_matters (S.2 17 0)).bind fun zv6 => some zv6) else (if p1 = 2 then some (S.1 17 1) else (if p1 = 3 then some (S.1 17 2) else (if p1 = 4 then some (S.1 17 3) else some (S.1 17 4)))))) else some (-103)) else some (-102)))
set_option maxRecDepth 10000 in
theorem T_A_statute {p1 : Int32} {S : ip_St} {r : Int32} (h : f_A_statute p1 S = some r) : ip_Me 36 [.ref 0, .int p1] S (some (.int r)) S := by
  unfold f_A_statute at h
  refine ⟨[some (.ref 0), some (.int p1)], rfl, ?_⟩
  refine ip_Ev.steps 1 (pc' := 1) (lv' := [some (.ref 0), some (.int p1)]) (st' := [.int p1]) (S1 := S) rfl ?_
  refine ip_Ev.iff1 rfl rfl ip_cLt (fun zhc1 => ?_) (fun zhc1 => ?_)
  · rw [if_pos zhc1] at h
    refine ip_Ev.steps 1 (pc' := 11) (lv' := [some (.ref 0), some (.int p1)]) (st' := [.int (-102)]) (S1 := S) rfl ?_
    cases h
    exact ip_Ev.ret rfl
  · rw [if_neg zhc1] at h
    refine ip_Ev.steps 2 (pc' := 6) (lv' := [some (.ref 0), some (.int p1)]) (st' := [.int 5, .int p1]) (S1 := S) rfl ?_
    refine ip_Ev.iff2 rfl rfl ip_cLe (fun zhc2 => ?_) (fun zhc2 => ?_)
    · rw [if_pos zhc2] at h
      refine ip_Ev.steps 1 (pc' := 13) (lv' := [some (.ref 0), some (.int p1)]) (st' := [.ref 0]) (S1 := S) rfl ?_
      refine ip_Ev.call (i := 30) (a := [.ref 0]) (r := []) rfl (T_A_hasCourt rfl) ?_
      show ip_Ev 36 16 [some (.ref 0), some (.int p1)] [.int (ip_b2i (f_A_hasCourt S))] S _ _
      refine ip_Ev.iff1 rfl rfl ip_bNe (fun zhc3 => ?_) (fun zhc3 => ?_)
      · rw [if_pos zhc3] at h
        refine ip_Ev.steps 1 (pc' := 23) (lv' := [some (.ref 0), some (.int p1)]) (st' := [.int p1]) (S1 := S) rfl ?_
        by_cases zhs4_0 : p1 = 0
        · rw [if_pos zhs4_0] at h
          refine ip_Ev.ts (off := 33) rfl (by rw [zhs4_0]; rfl) rfl ?_
          refine ip_Ev.steps 4 (pc' := 66) (lv' := [some (.ref 0), some (.int p1)]) (st' := [.long (S.2 17 0)]) (S1 := S) rfl ?_
          refine ip_Ev.call (i := 31) (a := [.long (S.2 17 0)]) (r := []) rfl (T_G_bitCount rfl) ?_
          show ip_Ev 36 69 [some (.ref 0), some (.int p1)] [.int (f_G_bitCount (S.2 17 0))] S _ _
          cases h
          exact ip_Ev.ret rfl
        rw [if_neg zhs4_0] at h
        by_cases zhs4_1 : p1 = 1
        · rw [if_pos zhs4_1] at h
          refine ip_Ev.ts (off := 47) rfl (by rw [zhs4_1]; rfl) rfl ?_
          refine ip_Ev.steps 4 (pc' := 80) (lv' := [some (.ref 0), some (.int p1)]) (st' := [.long (S.2 17 0)]) (S1 := S) rfl ?_
          obtain ⟨zv6, hzq5, h⟩ := ip_bind h
          refine ip_Ev.call (i := 35) (a := [.long (S.2 17 0)]) (r := []) rfl (T_A_matters hzq5) ?_
          show ip_Ev 36 83 [some (.ref 0), some (.int p1)] [.int zv6] S _ _
          cases h
          exact ip_Ev.ret rfl
        rw [if_neg zhs4_1] at h
        by_cases zhs4_2 : p1 = 2
        · rw [if_pos zhs4_2] at h
          refine ip_Ev.ts (off := 61) rfl (by rw [zhs4_2]; rfl) rfl ?_
          refine ip_Ev.steps 4 (pc' := 94) (lv' := [some (.ref 0), some (.int p1)]) (st' := [.int (S.1 17 1)]) (S1 := S) rfl ?_
          cases h
          exact ip_Ev.ret rfl
        rw [if_neg zhs4_2] at h
        by_cases zhs4_3 : p1 = 3
        · rw [if_pos zhs4_3] at h
          refine ip_Ev.ts (off := 72) rfl (by rw [zhs4_3]; rfl) rfl ?_
          refine ip_Ev.steps 4 (pc' := 105) (lv' := [some (.ref 0), some (.int p1)]) (st' := [.int (S.1 17 2)]) (S1 := S) rfl ?_
          cases h
          exact ip_Ev.ret rfl
        rw [if_neg zhs4_3] at h
        by_cases zhs4_4 : p1 = 4
        · rw [if_pos zhs4_4] at h
          refine ip_Ev.ts (off := 83) rfl (by rw [zhs4_4]; rfl) rfl ?_
          refine ip_Ev.steps 4 (pc' := 116) (lv' := [some (.ref 0), some (.int p1)]) (st' := [.int (S.1 17 3)]) (S1 := S) rfl ?_
          cases h
          exact ip_Ev.ret rfl
        rw [if_neg zhs4_4] at h
        have zhs4_0n : ¬ Int32.toInt p1 = 0 := fun q => zhs4_0 (Int32.toInt_inj.mp q)
        have zhs4_1n : ¬ Int32.toInt p1 = 1 := fun q => zhs4_1 (Int32.toInt_inj.mp q)
        have zhs4_2n : ¬ Int32.toInt p1 = 2 := fun q => zhs4_2 (Int32.toInt_inj.mp q)
        have zhs4_3n : ¬ Int32.toInt p1 = 3 := fun q => zhs4_3 (Int32.toInt_inj.mp q)
        have zhs4_4n : ¬ Int32.toInt p1 = 4 := fun q => zhs4_4 (Int32.toInt_inj.mp q)
        refine ip_Ev.ts (off := 94) rfl (ip_tsO_out (by omega)) rfl ?_
        refine ip_Ev.steps 4 (pc' := 127) (lv' := [some (.ref 0), some (.int p1)]) (st' := [.int (S.1 17 4)]) (S1 := S) rfl ?_
        cases h
        exact ip_Ev.ret rfl
      · rw [if_neg zhc3] at h
        refine ip_Ev.steps 1 (pc' := 21) (lv' := [some (.ref 0), some (.int p1)]) (st' := [.int (-103)]) (S1 := S) rfl ?_
        cases h
        exact ip_Ev.ret rfl
    · rw [if_neg zhc2] at h
      refine ip_Ev.steps 1 (pc' := 11) (lv' := [some (.ref 0), some (.int p1)]) (st' := [.int (-102)]) (S1 := S) rfl ?_
      cases h
      exact ip_Ev.ret rfl
-- M_deep
def f_M_deep_68 (k6 : Int32 → Int32 → Int32 → ip_St → Option (Int32)) (x2 : Int32) (x3 : Int32) (s0 : Int32) (s1 : Int32) (S : ip_St) : Option (Int32) := (if (s0 + s1) ≤ x2 then (k6 (s0 + s1) x2 (x3 + 1) S) else (k6 (s0 + s1) (s0 + s1) (x3 + 1) S))
set_option maxRecDepth 10000 in
theorem E_M_deep_68 {k6 : Int32 → Int32 → Int32 → ip_St → Option (Int32)} (hk6 : ∀ {x1 : Int32} {x2 : Int32} {x3 : Int32} {S : ip_St} {r : Int32}, k6 x1 x2 x3 S = some r → ip_Ev 131 6 [some (.ref 30), some (.int x1), some (.int x2), some (.int x3)] [] S (some (.int r)) S) {x2 : Int32} {x3 : Int32} {s0 : Int32} {s1 : Int32} {S : ip_St} {r : Int32} {d1 : Option Value} (h : f_M_deep_68 k6 x2 x3 s0 s1 S = some r) : ip_Ev 131 68 [some (.ref 30), d1, some (.int x2), some (.int x3)] [.int s1, .int s0] S (some (.int r)) S := by
  unfold f_M_deep_68 at h
  refine ip_Ev.steps 4 (pc' := 72) (lv' := [some (.ref 30), some (.int (s0 + s1)), some (.int x2), some (.int x3)]) (st' := [.int x2, .int (s0 + s1)]) (S1 := S) rfl ?_
  refine ip_Ev.iff2 rfl rfl ip_cLe (fun zhc1 => ?_) (fun zhc1 => ?_)
  · rw [if_pos zhc1] at h
    refine ip_Ev.steps 4 (pc' := 6) (lv' := [some (.ref 30), some (.int (s0 + s1)), some (.int x2), some (.int (x3 + 1))]) (st' := []) (S1 := S) rfl ?_
    exact hk6 h
  · rw [if_neg zhc1] at h
    refine ip_Ev.steps 5 (pc' := 6) (lv' := [some (.ref 30), some (.int (s0 + s1)), some (.int (s0 + s1)), some (.int (x3 + 1))]) (st' := []) (S1 := S) rfl ?_
    exact hk6 h
def f_M_deep_63 (k6 : Int32 → Int32 → Int32 → ip_St → Option (Int32)) (x2 : Int32) (x3 : Int32) (s0 : Int32) (S : ip_St) : Option (Int32) := (f_M_deep_68 k6 x2 x3 s0 (-1) S)
set_option maxRecDepth 10000 in
theorem E_M_deep_63 {k6 : Int32 → Int32 → Int32 → ip_St → Option (Int32)} (hk6 : ∀ {x1 : Int32} {x2 : Int32} {x3 : Int32} {S : ip_St} {r : Int32}, k6 x1 x2 x3 S = some r → ip_Ev 131 6 [some (.ref 30), some (.int x1), some (.int x2), some (.int x3)] [] S (some (.int r)) S) {x2 : Int32} {x3 : Int32} {s0 : Int32} {S : ip_St} {r : Int32} {d1 : Option Value} (h : f_M_deep_63 k6 x2 x3 s0 S = some r) : ip_Ev 131 63 [some (.ref 30), d1, some (.int x2), some (.int x3)] [.int s0] S (some (.int r)) S := by
  unfold f_M_deep_63 at h
  refine ip_Ev.steps 2 (pc' := 68) (lv' := [some (.ref 30), d1, some (.int x2), some (.int x3)]) (st' := [.int (-1), .int s0]) (S1 := S) rfl ?_
  exact E_M_deep_68 hk6 h
def f_M_deep_37 (k6 : Int32 → Int32 → Int32 → ip_St → Option (Int32)) (x2 : Int32) (x3 : Int32) (s0 : Int32) (S : ip_St) : Option (Int32) := (f_M_deep_68 k6 x2 x3 s0 1 S)
set_option maxRecDepth 10000 in
theorem E_M_deep_37 {k6 : Int32 → Int32 → Int32 → ip_St → Option (Int32)} (hk6 : ∀ {x1 : Int32} {x2 : Int32} {x3 : Int32} {S : ip_St} {r : Int32}, k6 x1 x2 x3 S = some r → ip_Ev 131 6 [some (.ref 30), some (.int x1), some (.int x2), some (.int x3)] [] S (some (.int r)) S) {x2 : Int32} {x3 : Int32} {s0 : Int32} {S : ip_St} {r : Int32} {d1 : Option Value} (h : f_M_deep_37 k6 x2 x3 s0 S = some r) : ip_Ev 131 37 [some (.ref 30), d1, some (.int x2), some (.int x3)] [.int s0] S (some (.int r)) S := by
  unfold f_M_deep_37 at h
  refine ip_Ev.steps 2 (pc' := 68) (lv' := [some (.ref 30), d1, some (.int x2), some (.int x3)]) (st' := [.int 1, .int s0]) (S1 := S) rfl ?_
  exact E_M_deep_68 hk6 h
def f_M_deep_6 : Nat → Int32 → Int32 → Int32 → ip_St → Option (Int32)
  | 0, _, _, _, _ => none
  | n + 1, x1, x2, x3, S => (if (S.1 30 16) ≤ x3 then some x2 else ((ip_aI S 41 x3).bind fun zv2 => (if zv2 = 40 then (f_M_deep_37 (f_M_deep_6 n) x2 x3 x1 S) else ((ip_aI S 41 x3).bind fun zv4 => (if zv4 = 91 then (f_M_deep_37 (f_M_deep_6 n) x2 x3 x1 S) else ((ip_aI S 41 x3).bind fun zv6 => (if zv6 = 41 then (f_M_deep_63 (f_M_deep_6 n) x2 x3 x1 S) else ((ip_aI S 41 x3).bind fun zv8 => (if zv8 = 93 then (f_M_deep_63 (f_M_deep_6 n) x2 x3 x1 S) else (f_M_deep_68 (f_M_deep_6 n) x2 x3 x1 0 S))))))))))
set_option maxRecDepth 10000 in
theorem E_M_deep_6 : ∀ (n : Nat) {x1 : Int32} {x2 : Int32} {x3 : Int32} {S : ip_St} {r : Int32}, f_M_deep_6 n x1 x2 x3 S = some r → ip_Ev 131 6 [some (.ref 30), some (.int x1), some (.int x2), some (.int x3)] [] S (some (.int r)) S := by
  intro n
  induction n with
  | zero =>
    intro x1 x2 x3 S r h
    cases h
  | succ n ih =>
    intro x1 x2 x3 S r h
    rw [f_M_deep_6] at h
    refine ip_Ev.steps 3 (pc' := 11) (lv' := [some (.ref 30), some (.int x1), some (.int x2), some (.int x3)]) (st' := [.int (S.1 30 16), .int x3]) (S1 := S) rfl ?_
    refine ip_Ev.iff2 rfl rfl ip_cGe (fun zhc1 => ?_) (fun zhc1 => ?_)
    · rw [if_pos zhc1] at h
      refine ip_Ev.steps 1 (pc' := 88) (lv' := [some (.ref 30), some (.int x1), some (.int x2), some (.int x3)]) (st' := [.int x2]) (S1 := S) rfl ?_
      cases h
      exact ip_Ev.ret rfl
    · rw [if_neg zhc1] at h
      refine ip_Ev.steps 4 (pc' := 20) (lv' := [some (.ref 30), some (.int x1), some (.int x2), some (.int x3)]) (st' := [.int x3, .ref 41, .int x1]) (S1 := S) rfl ?_
      obtain ⟨zv2, hzv2, h⟩ := ip_bind h
      refine ip_Ev.iald rfl hzv2 ?_
      refine ip_Ev.steps 1 (pc' := 23) (lv' := [some (.ref 30), some (.int x1), some (.int x2), some (.int x3)]) (st' := [.int 40, .int zv2, .int x1]) (S1 := S) rfl ?_
      refine ip_Ev.iff2 rfl rfl ip_cEq (fun zhc3 => ?_) (fun zhc3 => ?_)
      · rw [if_pos zhc3] at h
        exact E_M_deep_37 ih h
      · rw [if_neg zhc3] at h
        refine ip_Ev.steps 3 (pc' := 31) (lv' := [some (.ref 30), some (.int x1), some (.int x2), some (.int x3)]) (st' := [.int x3, .ref 41, .int x1]) (S1 := S) rfl ?_
        obtain ⟨zv4, hzv4, h⟩ := ip_bind h
        refine ip_Ev.iald rfl hzv4 ?_
        refine ip_Ev.steps 1 (pc' := 34) (lv' := [some (.ref 30), some (.int x1), some (.int x2), some (.int x3)]) (st' := [.int 91, .int zv4, .int x1]) (S1 := S) rfl ?_
        refine ip_Ev.iff2 rfl rfl ip_cNe (fun zhc5 => ?_) (fun zhc5 => ?_)
        · rw [if_neg zhc5] at h
          refine ip_Ev.steps 3 (pc' := 46) (lv' := [some (.ref 30), some (.int x1), some (.int x2), some (.int x3)]) (st' := [.int x3, .ref 41, .int x1]) (S1 := S) rfl ?_
          obtain ⟨zv6, hzv6, h⟩ := ip_bind h
          refine ip_Ev.iald rfl hzv6 ?_
          refine ip_Ev.steps 1 (pc' := 49) (lv' := [some (.ref 30), some (.int x1), some (.int x2), some (.int x3)]) (st' := [.int 41, .int zv6, .int x1]) (S1 := S) rfl ?_
          refine ip_Ev.iff2 rfl rfl ip_cEq (fun zhc7 => ?_) (fun zhc7 => ?_)
          · rw [if_pos zhc7] at h
            exact E_M_deep_63 ih h
          · rw [if_neg zhc7] at h
            refine ip_Ev.steps 3 (pc' := 57) (lv' := [some (.ref 30), some (.int x1), some (.int x2), some (.int x3)]) (st' := [.int x3, .ref 41, .int x1]) (S1 := S) rfl ?_
            obtain ⟨zv8, hzv8, h⟩ := ip_bind h
            refine ip_Ev.iald rfl hzv8 ?_
            refine ip_Ev.steps 1 (pc' := 60) (lv' := [some (.ref 30), some (.int x1), some (.int x2), some (.int x3)]) (st' := [.int 93, .int zv8, .int x1]) (S1 := S) rfl ?_
            refine ip_Ev.iff2 rfl rfl ip_cNe (fun zhc9 => ?_) (fun zhc9 => ?_)
            · rw [if_neg zhc9] at h
              refine ip_Ev.steps 1 (pc' := 68) (lv' := [some (.ref 30), some (.int x1), some (.int x2), some (.int x3)]) (st' := [.int 0, .int x1]) (S1 := S) rfl ?_
              exact E_M_deep_68 ih h
            · rw [if_pos (Decidable.of_not_not zhc9)] at h
              exact E_M_deep_63 ih h
        · rw [if_pos (Decidable.of_not_not zhc5)] at h
          exact E_M_deep_37 ih h
def f_M_deep  (S : ip_St) : Option (Int32) := (f_M_deep_6 ip_FU 0 0 0 S)
set_option maxRecDepth 10000 in
theorem T_M_deep  {S : ip_St} {r : Int32} (h : f_M_deep S = some r) : ip_Me 131 [.ref 30] S (some (.int r)) S := by
  unfold f_M_deep at h
  refine ⟨[some (.ref 30), none, none, none], rfl, ?_⟩
  refine ip_Ev.steps 6 (pc' := 6) (lv' := [some (.ref 30), some (.int 0), some (.int 0), some (.int 0)]) (st' := []) (S1 := S) rfl ?_
  exact E_M_deep_6 ip_FU h
-- M_lettersIn
def f_M_lettersIn_5 : Nat → Int32 → Int32 → Int32 → Int32 → ip_St → Option (Int32)
  | 0, _, _, _, _, _ => none
  | n + 1, x1, x2, x3, x4, S => (if (S.1 30 16) ≤ x4 then some x3 else ((ip_aI S 41 x4).bind fun zv2 => (if (f_M_in (Int32.toInt64 zv2) (Int32.toInt64 x1) (Int32.toInt64 x2)) = false then (f_M_lettersIn_5 n x1 x2 (x3 + 0) (x4 + 1) S) else (f_M_lettersIn_5 n x1 x2 (x3 + 1) (x4 + 1) S))))
set_option maxRecDepth 10000 in
theorem E_M_lettersIn_5 : ∀ (n : Nat) {x1 : Int32} {x2 : Int32} {x3 : Int32} {x4 : Int32} {S : ip_St} {r : Int32}, f_M_lettersIn_5 n x1 x2 x3 x4 S = some r → ip_Ev 130 5 [some (.ref 30), some (.int x1), some (.int x2), some (.int x3), some (.int x4)] [] S (some (.int r)) S := by
  intro n
  induction n with
  | zero =>
    intro x1 x2 x3 x4 S r h
    cases h
  | succ n ih =>
    intro x1 x2 x3 x4 S r h
    rw [f_M_lettersIn_5] at h
    refine ip_Ev.steps 3 (pc' := 11) (lv' := [some (.ref 30), some (.int x1), some (.int x2), some (.int x3), some (.int x4)]) (st' := [.int (S.1 30 16), .int x4]) (S1 := S) rfl ?_
    refine ip_Ev.iff2 rfl rfl ip_cGe (fun zhc1 => ?_) (fun zhc1 => ?_)
    · rw [if_pos zhc1] at h
      refine ip_Ev.steps 1 (pc' := 47) (lv' := [some (.ref 30), some (.int x1), some (.int x2), some (.int x3), some (.int x4)]) (st' := [.int x3]) (S1 := S) rfl ?_
      cases h
      exact ip_Ev.ret rfl
    · rw [if_neg zhc1] at h
      refine ip_Ev.steps 4 (pc' := 21) (lv' := [some (.ref 30), some (.int x1), some (.int x2), some (.int x3), some (.int x4)]) (st' := [.int x4, .ref 41, .int x3]) (S1 := S) rfl ?_
      obtain ⟨zv2, hzv2, h⟩ := ip_bind h
      refine ip_Ev.iald rfl hzv2 ?_
      refine ip_Ev.steps 5 (pc' := 27) (lv' := [some (.ref 30), some (.int x1), some (.int x2), some (.int x3), some (.int x4)]) (st' := [.long (Int32.toInt64 x2), .long (Int32.toInt64 x1), .long (Int32.toInt64 zv2), .int x3]) (S1 := S) rfl ?_
      refine ip_Ev.call (i := 101) (a := [.long (Int32.toInt64 zv2), .long (Int32.toInt64 x1), .long (Int32.toInt64 x2)]) (r := [.int x3]) rfl (T_M_in rfl) ?_
      show ip_Ev 130 30 [some (.ref 30), some (.int x1), some (.int x2), some (.int x3), some (.int x4)] [.int (ip_b2i (f_M_in (Int32.toInt64 zv2) (Int32.toInt64 x1) (Int32.toInt64 x2))), .int x3] S _ _
      refine ip_Ev.iff1 rfl rfl ip_bEq (fun zhc3 => ?_) (fun zhc3 => ?_)
      · rw [if_pos zhc3] at h
        refine ip_Ev.steps 5 (pc' := 5) (lv' := [some (.ref 30), some (.int x1), some (.int x2), some (.int (x3 + 0)), some (.int (x4 + 1))]) (st' := []) (S1 := S) rfl ?_
        exact ih h
      · rw [if_neg zhc3] at h
        refine ip_Ev.steps 6 (pc' := 5) (lv' := [some (.ref 30), some (.int x1), some (.int x2), some (.int (x3 + 1)), some (.int (x4 + 1))]) (st' := []) (S1 := S) rfl ?_
        exact ih h
def f_M_lettersIn (p1 : Int32) (p2 : Int32) (S : ip_St) : Option (Int32) := (f_M_lettersIn_5 ip_FU p1 p2 0 0 S)
set_option maxRecDepth 10000 in
theorem T_M_lettersIn {p1 : Int32} {p2 : Int32} {S : ip_St} {r : Int32} (h : f_M_lettersIn p1 p2 S = some r) : ip_Me 130 [.ref 30, .int p1, .int p2] S (some (.int r)) S := by
  unfold f_M_lettersIn at h
  refine ⟨[some (.ref 30), some (.int p1), some (.int p2), none, none], rfl, ?_⟩
  refine ip_Ev.steps 4 (pc' := 5) (lv' := [some (.ref 30), some (.int p1), some (.int p2), some (.int 0), some (.int 0)]) (st' := []) (S1 := S) rfl ?_
  exact E_M_lettersIn_5 ip_FU h
-- M_matters
def f_M_matters_4 : Nat → Int32 → Int32 → ip_St → Option (Int32)
  | 0, _, _, _ => none
  | n + 1, x1, x2, S => (if 6 ≤ x2 then some x1 else ((f_M_rowOf x2 S).bind fun zv3 => ((f_M_rowOf x2 S).bind fun zv5 => ((f_M_rowOf x2 S).bind fun zv7 => (if ((ip_lushr ((S.2 30 17) &&& zv3) (ip_ishl 1 x2)) &&& (zv5 ^^^ (-1))) = ((S.2 30 17) &&& (zv7 ^^^ (-1))) then (f_M_matters_4 n (x1 ||| 0) (x2 + 1) S) else (f_M_matters_4 n (x1 ||| (ip_ishl 1 x2)) (x2 + 1) S))))))
set_option maxRecDepth 10000 in
theorem E_M_matters_4 : ∀ (n : Nat) {x1 : Int32} {x2 : Int32} {S : ip_St} {r : Int32} {d3 : Option Value} {d4 : Option Value} {d5 : Option Value} {d6 : Option Value}, f_M_matters_4 n x1 x2 S = some r → ip_Ev 129 4 [some (.ref 30), some (.int x1), some (.int x2), d3, d4, d5, d6] [] S (some (.int r)) S := by
  intro n
  induction n with
  | zero =>
    intro x1 x2 S r d3 d4 d5 d6 h
    cases h
  | succ n ih =>
    intro x1 x2 S r d3 d4 d5 d6 h
    rw [f_M_matters_4] at h
    refine ip_Ev.steps 2 (pc' := 7) (lv' := [some (.ref 30), some (.int x1), some (.int x2), d3, d4, d5, d6]) (st' := [.int 6, .int x2]) (S1 := S) rfl ?_
    refine ip_Ev.iff2 rfl rfl ip_cGe (fun zhc1 => ?_) (fun zhc1 => ?_)
    · rw [if_pos zhc1] at h
      refine ip_Ev.steps 1 (pc' := 75) (lv' := [some (.ref 30), some (.int x1), some (.int x2), d3, d4, d5, d6]) (st' := [.int x1]) (S1 := S) rfl ?_
      cases h
      exact ip_Ev.ret rfl
    · rw [if_neg zhc1] at h
      refine ip_Ev.steps 4 (pc' := 16) (lv' := [some (.ref 30), some (.int x1), some (.int x2), d3, d4, d5, d6]) (st' := [.int x2, .ref 30, .long (S.2 30 17)]) (S1 := S) rfl ?_
      obtain ⟨zv3, hzq2, h⟩ := ip_bind h
      refine ip_Ev.call (i := 118) (a := [.ref 30, .int x2]) (r := [.long (S.2 30 17)]) rfl (T_M_rowOf hzq2) ?_
      show ip_Ev 129 19 [some (.ref 30), some (.int x1), some (.int x2), d3, d4, d5, d6] [.long zv3, .long (S.2 30 17)] S _ _
      refine ip_Ev.steps 7 (pc' := 26) (lv' := [some (.ref 30), some (.int x1), some (.int x2), d3, d4, d5, d6]) (st' := [.int x2, .ref 30, .long (ip_lushr ((S.2 30 17) &&& zv3) (ip_ishl 1 x2))]) (S1 := S) rfl ?_
      obtain ⟨zv5, hzq4, h⟩ := ip_bind h
      refine ip_Ev.call (i := 118) (a := [.ref 30, .int x2]) (r := [.long (ip_lushr ((S.2 30 17) &&& zv3) (ip_ishl 1 x2))]) rfl (T_M_rowOf hzq4) ?_
      show ip_Ev 129 29 [some (.ref 30), some (.int x1), some (.int x2), d3, d4, d5, d6] [.long zv5, .long (ip_lushr ((S.2 30 17) &&& zv3) (ip_ishl 1 x2))] S _ _
      refine ip_Ev.steps 8 (pc' := 41) (lv' := [some (.ref 30), some (.int x1), some (.int x2), some (.long ((ip_lushr ((S.2 30 17) &&& zv3) (ip_ishl 1 x2)) &&& (zv5 ^^^ (-1)))), none, d5, d6]) (st' := [.int x2, .ref 30, .long (S.2 30 17)]) (S1 := S) rfl ?_
      obtain ⟨zv7, hzq6, h⟩ := ip_bind h
      refine ip_Ev.call (i := 118) (a := [.ref 30, .int x2]) (r := [.long (S.2 30 17)]) rfl (T_M_rowOf hzq6) ?_
      show ip_Ev 129 44 [some (.ref 30), some (.int x1), some (.int x2), some (.long ((ip_lushr ((S.2 30 17) &&& zv3) (ip_ishl 1 x2)) &&& (zv5 ^^^ (-1)))), none, d5, d6] [.long zv7, .long (S.2 30 17)] S _ _
      refine ip_Ev.steps 8 (pc' := 56) (lv' := [some (.ref 30), some (.int x1), some (.int x2), some (.long ((ip_lushr ((S.2 30 17) &&& zv3) (ip_ishl 1 x2)) &&& (zv5 ^^^ (-1)))), none, some (.long ((S.2 30 17) &&& (zv7 ^^^ (-1)))), none]) (st' := [.int (lg_cmp ((ip_lushr ((S.2 30 17) &&& zv3) (ip_ishl 1 x2)) &&& (zv5 ^^^ (-1))) ((S.2 30 17) &&& (zv7 ^^^ (-1)))), .int x1]) (S1 := S) rfl ?_
      refine ip_Ev.iff1 rfl rfl ip_lEq (fun zhc8 => ?_) (fun zhc8 => ?_)
      · rw [if_pos zhc8] at h
        refine ip_Ev.steps 5 (pc' := 4) (lv' := [some (.ref 30), some (.int (x1 ||| 0)), some (.int (x2 + 1)), some (.long ((ip_lushr ((S.2 30 17) &&& zv3) (ip_ishl 1 x2)) &&& (zv5 ^^^ (-1)))), none, some (.long ((S.2 30 17) &&& (zv7 ^^^ (-1)))), none]) (st' := []) (S1 := S) rfl ?_
        exact ih h
      · rw [if_neg zhc8] at h
        refine ip_Ev.steps 8 (pc' := 4) (lv' := [some (.ref 30), some (.int (x1 ||| (ip_ishl 1 x2))), some (.int (x2 + 1)), some (.long ((ip_lushr ((S.2 30 17) &&& zv3) (ip_ishl 1 x2)) &&& (zv5 ^^^ (-1)))), none, some (.long ((S.2 30 17) &&& (zv7 ^^^ (-1)))), none]) (st' := []) (S1 := S) rfl ?_
        exact ih h
def f_M_matters  (S : ip_St) : Option (Int32) := (f_M_matters_4 ip_FU 0 0 S)
set_option maxRecDepth 10000 in
theorem T_M_matters  {S : ip_St} {r : Int32} (h : f_M_matters S = some r) : ip_Me 129 [.ref 30] S (some (.int r)) S := by
  unfold f_M_matters at h
  refine ⟨[some (.ref 30), none, none, none, none, none, none], rfl, ?_⟩
  refine ip_Ev.steps 4 (pc' := 4) (lv' := [some (.ref 30), some (.int 0), some (.int 0), none, none, none, none]) (st' := []) (S1 := S) rfl ?_
  exact E_M_matters_4 ip_FU h
-- M_tellLaw
def f_M_tellLaw (p1 : Int32) (S : ip_St) : Option (Int32) := (if p1 = 0 then ((f_M_ones (S.2 30 17)).bind fun zv3 => some zv3) else (if p1 = 1 then ((f_M_matters S).bind fun zv5 => some zv5) else (if p1 = 2 then ((f_M_lettersIn 97 102 S).bind fun zv7 => some zv7) else (if p1 = 3 then ((f_M_lettersIn 33 33 S).bind fun zv9 => some zv9) else (if p1 = 4 then ((f_M_lettersIn 49 51 S).bind fun zv11 => some zv11) else ((f_M_deep S).bind fun zv13 => some zv13))))))
set_option maxRecDepth 10000 in
theorem T_M_tellLaw {p1 : Int32} {S : ip_St} {r : Int32} (h : f_M_tellLaw p1 S = some r) : ip_Me 132 [.ref 30, .int p1] S (some (.int r)) S := by
  unfold f_M_tellLaw at h
  refine ⟨[some (.ref 30), some (.int p1)], rfl, ?_⟩
  refine ip_Ev.steps 1 (pc' := 1) (lv' := [some (.ref 30), some (.int p1)]) (st' := [.int p1]) (S1 := S) rfl ?_
  by_cases zhs1_0 : p1 = 0
  · rw [if_pos zhs1_0] at h
    refine ip_Ev.ts (off := 35) rfl (by rw [zhs1_0]; rfl) rfl ?_
    refine ip_Ev.steps 2 (pc' := 40) (lv' := [some (.ref 30), some (.int p1)]) (st' := [.long (S.2 30 17)]) (S1 := S) rfl ?_
    obtain ⟨zv3, hzq2, h⟩ := ip_bind h
    refine ip_Ev.call (i := 127) (a := [.long (S.2 30 17)]) (r := []) rfl (T_M_ones hzq2) ?_
    show ip_Ev 132 43 [some (.ref 30), some (.int p1)] [.int zv3] S _ _
    cases h
    exact ip_Ev.ret rfl
  rw [if_neg zhs1_0] at h
  by_cases zhs1_1 : p1 = 1
  · rw [if_pos zhs1_1] at h
    refine ip_Ev.ts (off := 43) rfl (by rw [zhs1_1]; rfl) rfl ?_
    refine ip_Ev.steps 1 (pc' := 45) (lv' := [some (.ref 30), some (.int p1)]) (st' := [.ref 30]) (S1 := S) rfl ?_
    obtain ⟨zv5, hzq4, h⟩ := ip_bind h
    refine ip_Ev.call (i := 129) (a := [.ref 30]) (r := []) rfl (T_M_matters hzq4) ?_
    show ip_Ev 132 48 [some (.ref 30), some (.int p1)] [.int zv5] S _ _
    cases h
    exact ip_Ev.ret rfl
  rw [if_neg zhs1_1] at h
  by_cases zhs1_2 : p1 = 2
  · rw [if_pos zhs1_2] at h
    refine ip_Ev.ts (off := 48) rfl (by rw [zhs1_2]; rfl) rfl ?_
    refine ip_Ev.steps 3 (pc' := 54) (lv' := [some (.ref 30), some (.int p1)]) (st' := [.int 102, .int 97, .ref 30]) (S1 := S) rfl ?_
    obtain ⟨zv7, hzq6, h⟩ := ip_bind h
    refine ip_Ev.call (i := 130) (a := [.ref 30, .int 97, .int 102]) (r := []) rfl (T_M_lettersIn hzq6) ?_
    show ip_Ev 132 57 [some (.ref 30), some (.int p1)] [.int zv7] S _ _
    cases h
    exact ip_Ev.ret rfl
  rw [if_neg zhs1_2] at h
  by_cases zhs1_3 : p1 = 3
  · rw [if_pos zhs1_3] at h
    refine ip_Ev.ts (off := 57) rfl (by rw [zhs1_3]; rfl) rfl ?_
    refine ip_Ev.steps 3 (pc' := 63) (lv' := [some (.ref 30), some (.int p1)]) (st' := [.int 33, .int 33, .ref 30]) (S1 := S) rfl ?_
    obtain ⟨zv9, hzq8, h⟩ := ip_bind h
    refine ip_Ev.call (i := 130) (a := [.ref 30, .int 33, .int 33]) (r := []) rfl (T_M_lettersIn hzq8) ?_
    show ip_Ev 132 66 [some (.ref 30), some (.int p1)] [.int zv9] S _ _
    cases h
    exact ip_Ev.ret rfl
  rw [if_neg zhs1_3] at h
  by_cases zhs1_4 : p1 = 4
  · rw [if_pos zhs1_4] at h
    refine ip_Ev.ts (off := 66) rfl (by rw [zhs1_4]; rfl) rfl ?_
    refine ip_Ev.steps 3 (pc' := 72) (lv' := [some (.ref 30), some (.int p1)]) (st' := [.int 51, .int 49, .ref 30]) (S1 := S) rfl ?_
    obtain ⟨zv11, hzq10, h⟩ := ip_bind h
    refine ip_Ev.call (i := 130) (a := [.ref 30, .int 49, .int 51]) (r := []) rfl (T_M_lettersIn hzq10) ?_
    show ip_Ev 132 75 [some (.ref 30), some (.int p1)] [.int zv11] S _ _
    cases h
    exact ip_Ev.ret rfl
  rw [if_neg zhs1_4] at h
  have zhs1_0n : ¬ Int32.toInt p1 = 0 := fun q => zhs1_0 (Int32.toInt_inj.mp q)
  have zhs1_1n : ¬ Int32.toInt p1 = 1 := fun q => zhs1_1 (Int32.toInt_inj.mp q)
  have zhs1_2n : ¬ Int32.toInt p1 = 2 := fun q => zhs1_2 (Int32.toInt_inj.mp q)
  have zhs1_3n : ¬ Int32.toInt p1 = 3 := fun q => zhs1_3 (Int32.toInt_inj.mp q)
  have zhs1_4n : ¬ Int32.toInt p1 = 4 := fun q => zhs1_4 (Int32.toInt_inj.mp q)
  refine ip_Ev.ts (off := 75) rfl (ip_tsO_out (by omega)) rfl ?_
  refine ip_Ev.steps 1 (pc' := 77) (lv' := [some (.ref 30), some (.int p1)]) (st' := [.ref 30]) (S1 := S) rfl ?_
  obtain ⟨zv13, hzq12, h⟩ := ip_bind h
  refine ip_Ev.call (i := 131) (a := [.ref 30]) (r := []) rfl (T_M_deep hzq12) ?_
  show ip_Ev 132 80 [some (.ref 30), some (.int p1)] [.int zv13] S _ _
  cases h
  exact ip_Ev.ret rfl
-- M_statute
def f_M_statute (p1 : Int32) (S : ip_St) : Option (Int32) := (if (f_M_in (Int32.toInt64 p1) 0 5) = true then (if (f_M_lacks S) = false then ((f_M_tellLaw p1 S).bind fun zv4 => some zv4) else some (-103)) else some (-102))
set_option maxRecDepth 10000 in
theorem T_M_statute {p1 : Int32} {S : ip_St} {r : Int32} (h : f_M_statute p1 S = some r) : ip_Me 133 [.ref 30, .int p1] S (some (.int r)) S := by
  unfold f_M_statute at h
  refine ⟨[some (.ref 30), some (.int p1)], rfl, ?_⟩
  refine ip_Ev.steps 4 (pc' := 6) (lv' := [some (.ref 30), some (.int p1)]) (st' := [.long 5, .long 0, .long (Int32.toInt64 p1)]) (S1 := S) rfl ?_
  refine ip_Ev.call (i := 101) (a := [.long (Int32.toInt64 p1), .long 0, .long 5]) (r := []) rfl (T_M_in rfl) ?_
  show ip_Ev 133 9 [some (.ref 30), some (.int p1)] [.int (ip_b2i (f_M_in (Int32.toInt64 p1) 0 5))] S _ _
  refine ip_Ev.iff1 rfl rfl ip_bNe (fun zhc1 => ?_) (fun zhc1 => ?_)
  · rw [if_pos zhc1] at h
    refine ip_Ev.steps 1 (pc' := 16) (lv' := [some (.ref 30), some (.int p1)]) (st' := [.ref 30]) (S1 := S) rfl ?_
    refine ip_Ev.call (i := 126) (a := [.ref 30]) (r := []) rfl (T_M_lacks rfl) ?_
    show ip_Ev 133 19 [some (.ref 30), some (.int p1)] [.int (ip_b2i (f_M_lacks S))] S _ _
    refine ip_Ev.iff1 rfl rfl ip_bEq (fun zhc2 => ?_) (fun zhc2 => ?_)
    · rw [if_pos zhc2] at h
      refine ip_Ev.steps 2 (pc' := 29) (lv' := [some (.ref 30), some (.int p1)]) (st' := [.int p1, .ref 30]) (S1 := S) rfl ?_
      obtain ⟨zv4, hzq3, h⟩ := ip_bind h
      refine ip_Ev.call (i := 132) (a := [.ref 30, .int p1]) (r := []) rfl (T_M_tellLaw hzq3) ?_
      show ip_Ev 133 32 [some (.ref 30), some (.int p1)] [.int zv4] S _ _
      cases h
      exact ip_Ev.ret rfl
    · rw [if_neg zhc2] at h
      refine ip_Ev.steps 2 (pc' := 32) (lv' := [some (.ref 30), some (.int p1)]) (st' := [.int (-103)]) (S1 := S) rfl ?_
      cases h
      exact ip_Ev.ret rfl
  · rw [if_neg zhc1] at h
    refine ip_Ev.steps 1 (pc' := 14) (lv' := [some (.ref 30), some (.int p1)]) (st' := [.int (-102)]) (S1 := S) rfl ?_
    cases h
    exact ip_Ev.ret rfl
-- A_isWorld
def f_A_isWorld (p0 : Int32) : Bool := (if p0 < 0 then false else (if 64 ≤ p0 then false else true))
set_option maxRecDepth 10000 in
theorem T_A_isWorld {p0 : Int32} {S : ip_St} {r : Bool} (h : f_A_isWorld p0 = r) : ip_Me 37 [.int p0] S (some (.int (ip_b2i r))) S := by
  unfold f_A_isWorld at h
  refine ⟨[some (.int p0)], rfl, ?_⟩
  refine ip_Ev.steps 1 (pc' := 1) (lv' := [some (.int p0)]) (st' := [.int p0]) (S1 := S) rfl ?_
  refine ip_Ev.iff1 rfl rfl ip_cLt (fun zhc1 => ?_) (fun zhc1 => ?_)
  · rw [if_pos zhc1] at h
    refine ip_Ev.steps 1 (pc' := 15) (lv' := [some (.int p0)]) (st' := [.int 0]) (S1 := S) rfl ?_
    cases h
    exact ip_Ev.retB (b := false) rfl rfl
  · rw [if_neg zhc1] at h
    refine ip_Ev.steps 2 (pc' := 7) (lv' := [some (.int p0)]) (st' := [.int 64, .int p0]) (S1 := S) rfl ?_
    refine ip_Ev.iff2 rfl rfl ip_cGe (fun zhc2 => ?_) (fun zhc2 => ?_)
    · rw [if_pos zhc2] at h
      refine ip_Ev.steps 1 (pc' := 15) (lv' := [some (.int p0)]) (st' := [.int 0]) (S1 := S) rfl ?_
      cases h
      exact ip_Ev.retB (b := false) rfl rfl
    · rw [if_neg zhc2] at h
      refine ip_Ev.steps 2 (pc' := 15) (lv' := [some (.int p0)]) (st' := [.int 1]) (S1 := S) rfl ?_
      cases h
      exact ip_Ev.retB (b := true) rfl rfl
-- A_has
def f_A_has (p0 : Int64) (p1 : Int32) : Bool := (if ((ip_lushr p0 p1) &&& 1) = 0 then false else true)
set_option maxRecDepth 10000 in
theorem T_A_has {p0 : Int64} {p1 : Int32} {S : ip_St} {r : Bool} (h : f_A_has p0 p1 = r) : ip_Me 38 [.long p0, .int p1] S (some (.int (ip_b2i r))) S := by
  unfold f_A_has at h
  refine ⟨[some (.long p0), none, some (.int p1)], rfl, ?_⟩
  refine ip_Ev.steps 7 (pc' := 7) (lv' := [some (.long p0), none, some (.int p1)]) (st' := [.int (lg_cmp ((ip_lushr p0 p1) &&& 1) 0)]) (S1 := S) rfl ?_
  refine ip_Ev.iff1 rfl rfl ip_lEq (fun zhc1 => ?_) (fun zhc1 => ?_)
  · rw [if_pos zhc1] at h
    refine ip_Ev.steps 1 (pc' := 15) (lv' := [some (.long p0), none, some (.int p1)]) (st' := [.int 0]) (S1 := S) rfl ?_
    cases h
    exact ip_Ev.retB (b := false) rfl rfl
  · rw [if_neg zhc1] at h
    refine ip_Ev.steps 2 (pc' := 15) (lv' := [some (.long p0), none, some (.int p1)]) (st' := [.int 1]) (S1 := S) rfl ?_
    cases h
    exact ip_Ev.retB (b := true) rfl rfl
-- A_holds
def f_A_holds (p1 : Int32) (S : ip_St) : Int32 := (if (f_A_isWorld p1) = true then (if (f_A_hasCourt S) = true then (if (f_A_has (S.2 17 0) p1) = false then 0 else 1) else (-103)) else (-102))
set_option maxRecDepth 10000 in
theorem T_A_holds {p1 : Int32} {S : ip_St} {r : Int32} (h : f_A_holds p1 S = r) : ip_Me 39 [.ref 0, .int p1] S (some (.int r)) S := by
  unfold f_A_holds at h
  refine ⟨[some (.ref 0), some (.int p1)], rfl, ?_⟩
  refine ip_Ev.steps 1 (pc' := 1) (lv' := [some (.ref 0), some (.int p1)]) (st' := [.int p1]) (S1 := S) rfl ?_
  refine ip_Ev.call (i := 37) (a := [.int p1]) (r := []) rfl (T_A_isWorld rfl) ?_
  show ip_Ev 39 4 [some (.ref 0), some (.int p1)] [.int (ip_b2i (f_A_isWorld p1))] S _ _
  refine ip_Ev.iff1 rfl rfl ip_bNe (fun zhc1 => ?_) (fun zhc1 => ?_)
  · rw [if_pos zhc1] at h
    refine ip_Ev.steps 1 (pc' := 11) (lv' := [some (.ref 0), some (.int p1)]) (st' := [.ref 0]) (S1 := S) rfl ?_
    refine ip_Ev.call (i := 30) (a := [.ref 0]) (r := []) rfl (T_A_hasCourt rfl) ?_
    show ip_Ev 39 14 [some (.ref 0), some (.int p1)] [.int (ip_b2i (f_A_hasCourt S))] S _ _
    refine ip_Ev.iff1 rfl rfl ip_bNe (fun zhc2 => ?_) (fun zhc2 => ?_)
    · rw [if_pos zhc2] at h
      refine ip_Ev.steps 5 (pc' := 31) (lv' := [some (.ref 0), some (.int p1)]) (st' := [.int p1, .long (S.2 17 0)]) (S1 := S) rfl ?_
      refine ip_Ev.call (i := 38) (a := [.long (S.2 17 0), .int p1]) (r := []) rfl (T_A_has rfl) ?_
      show ip_Ev 39 34 [some (.ref 0), some (.int p1)] [.int (ip_b2i (f_A_has (S.2 17 0) p1))] S _ _
      refine ip_Ev.iff1 rfl rfl ip_bEq (fun zhc3 => ?_) (fun zhc3 => ?_)
      · rw [if_pos zhc3] at h
        refine ip_Ev.steps 1 (pc' := 42) (lv' := [some (.ref 0), some (.int p1)]) (st' := [.int 0]) (S1 := S) rfl ?_
        cases h
        exact ip_Ev.ret rfl
      · rw [if_neg zhc3] at h
        refine ip_Ev.steps 2 (pc' := 42) (lv' := [some (.ref 0), some (.int p1)]) (st' := [.int 1]) (S1 := S) rfl ?_
        cases h
        exact ip_Ev.ret rfl
    · rw [if_neg zhc2] at h
      refine ip_Ev.steps 1 (pc' := 19) (lv' := [some (.ref 0), some (.int p1)]) (st' := [.int (-103)]) (S1 := S) rfl ?_
      cases h
      exact ip_Ev.ret rfl
  · rw [if_neg zhc1] at h
    refine ip_Ev.steps 1 (pc' := 9) (lv' := [some (.ref 0), some (.int p1)]) (st' := [.int (-102)]) (S1 := S) rfl ?_
    cases h
    exact ip_Ev.ret rfl
-- M_holds
def f_M_holds (p1 : Int32) (S : ip_St) : Int32 := (if (f_M_in (Int32.toInt64 p1) 0 63) = true then (if (f_M_lacks S) = false then (Int64.toInt32 ((ip_lshr (S.2 30 17) p1) &&& 1)) else (-103)) else (-102))
set_option maxRecDepth 10000 in
theorem T_M_holds {p1 : Int32} {S : ip_St} {r : Int32} (h : f_M_holds p1 S = r) : ip_Me 134 [.ref 30, .int p1] S (some (.int r)) S := by
  unfold f_M_holds at h
  refine ⟨[some (.ref 30), some (.int p1)], rfl, ?_⟩
  refine ip_Ev.steps 4 (pc' := 6) (lv' := [some (.ref 30), some (.int p1)]) (st' := [.long 63, .long 0, .long (Int32.toInt64 p1)]) (S1 := S) rfl ?_
  refine ip_Ev.call (i := 101) (a := [.long (Int32.toInt64 p1), .long 0, .long 63]) (r := []) rfl (T_M_in rfl) ?_
  show ip_Ev 134 9 [some (.ref 30), some (.int p1)] [.int (ip_b2i (f_M_in (Int32.toInt64 p1) 0 63))] S _ _
  refine ip_Ev.iff1 rfl rfl ip_bNe (fun zhc1 => ?_) (fun zhc1 => ?_)
  · rw [if_pos zhc1] at h
    refine ip_Ev.steps 1 (pc' := 16) (lv' := [some (.ref 30), some (.int p1)]) (st' := [.ref 30]) (S1 := S) rfl ?_
    refine ip_Ev.call (i := 126) (a := [.ref 30]) (r := []) rfl (T_M_lacks rfl) ?_
    show ip_Ev 134 19 [some (.ref 30), some (.int p1)] [.int (ip_b2i (f_M_lacks S))] S _ _
    refine ip_Ev.iff1 rfl rfl ip_bEq (fun zhc2 => ?_) (fun zhc2 => ?_)
    · rw [if_pos zhc2] at h
      refine ip_Ev.steps 7 (pc' := 36) (lv' := [some (.ref 30), some (.int p1)]) (st' := [.int (Int64.toInt32 ((ip_lshr (S.2 30 17) p1) &&& 1))]) (S1 := S) rfl ?_
      cases h
      exact ip_Ev.ret rfl
    · rw [if_neg zhc2] at h
      refine ip_Ev.steps 2 (pc' := 36) (lv' := [some (.ref 30), some (.int p1)]) (st' := [.int (-103)]) (S1 := S) rfl ?_
      cases h
      exact ip_Ev.ret rfl
  · rw [if_neg zhc1] at h
    refine ip_Ev.steps 1 (pc' := 14) (lv' := [some (.ref 30), some (.int p1)]) (st' := [.int (-102)]) (S1 := S) rfl ?_
    cases h
    exact ip_Ev.ret rfl
-- A_isJudge
def f_A_isJudge (p1 : Int32) (S : ip_St) : Bool := (if p1 < 0 then false else (if (S.1 12 1) ≤ p1 then false else true))
set_option maxRecDepth 10000 in
theorem T_A_isJudge {p1 : Int32} {S : ip_St} {r : Bool} (h : f_A_isJudge p1 S = r) : ip_Me 40 [.ref 0, .int p1] S (some (.int (ip_b2i r))) S := by
  unfold f_A_isJudge at h
  refine ⟨[some (.ref 0), some (.int p1)], rfl, ?_⟩
  refine ip_Ev.steps 1 (pc' := 1) (lv' := [some (.ref 0), some (.int p1)]) (st' := [.int p1]) (S1 := S) rfl ?_
  refine ip_Ev.iff1 rfl rfl ip_cLt (fun zhc1 => ?_) (fun zhc1 => ?_)
  · rw [if_pos zhc1] at h
    refine ip_Ev.steps 1 (pc' := 20) (lv' := [some (.ref 0), some (.int p1)]) (st' := [.int 0]) (S1 := S) rfl ?_
    cases h
    exact ip_Ev.retB (b := false) rfl rfl
  · rw [if_neg zhc1] at h
    refine ip_Ev.steps 4 (pc' := 12) (lv' := [some (.ref 0), some (.int p1)]) (st' := [.int (S.1 12 1), .int p1]) (S1 := S) rfl ?_
    refine ip_Ev.iff2 rfl rfl ip_cGe (fun zhc2 => ?_) (fun zhc2 => ?_)
    · rw [if_pos zhc2] at h
      refine ip_Ev.steps 1 (pc' := 20) (lv' := [some (.ref 0), some (.int p1)]) (st' := [.int 0]) (S1 := S) rfl ?_
      cases h
      exact ip_Ev.retB (b := false) rfl rfl
    · rw [if_neg zhc2] at h
      refine ip_Ev.steps 2 (pc' := 20) (lv' := [some (.ref 0), some (.int p1)]) (st' := [.int 1]) (S1 := S) rfl ?_
      cases h
      exact ip_Ev.retB (b := true) rfl rfl
-- A_bit
def f_A_bit (p0 : Int32) (p1 : Int32) : Int32 := ((ip_iushr p0 p1) &&& 1)
set_option maxRecDepth 10000 in
theorem T_A_bit {p0 : Int32} {p1 : Int32} {S : ip_St} {r : Int32} (h : f_A_bit p0 p1 = r) : ip_Me 41 [.int p0, .int p1] S (some (.int r)) S := by
  unfold f_A_bit at h
  refine ⟨[some (.int p0), some (.int p1)], rfl, ?_⟩
  refine ip_Ev.steps 5 (pc' := 5) (lv' := [some (.int p0), some (.int p1)]) (st' := [.int ((ip_iushr p0 p1) &&& 1)]) (S1 := S) rfl ?_
  cases h
  exact ip_Ev.ret rfl
-- A_told
def f_A_told (p0 : Int32) (p1 : Int32) (p2 : Int32) : Int32 := (if (f_A_bit p0 p2) = 1 then (f_A_bit p1 p2) else (-1))
set_option maxRecDepth 10000 in
theorem T_A_told {p0 : Int32} {p1 : Int32} {p2 : Int32} {S : ip_St} {r : Int32} (h : f_A_told p0 p1 p2 = r) : ip_Me 42 [.int p0, .int p1, .int p2] S (some (.int r)) S := by
  unfold f_A_told at h
  refine ⟨[some (.int p0), some (.int p1), some (.int p2)], rfl, ?_⟩
  refine ip_Ev.steps 2 (pc' := 2) (lv' := [some (.int p0), some (.int p1), some (.int p2)]) (st' := [.int p2, .int p0]) (S1 := S) rfl ?_
  refine ip_Ev.call (i := 41) (a := [.int p0, .int p2]) (r := []) rfl (T_A_bit rfl) ?_
  show ip_Ev 42 5 [some (.int p0), some (.int p1), some (.int p2)] [.int (f_A_bit p0 p2)] S _ _
  refine ip_Ev.steps 1 (pc' := 6) (lv' := [some (.int p0), some (.int p1), some (.int p2)]) (st' := [.int 1, .int (f_A_bit p0 p2)]) (S1 := S) rfl ?_
  refine ip_Ev.iff2 rfl rfl ip_cNe (fun zhc1 => ?_) (fun zhc1 => ?_)
  · rw [if_neg zhc1] at h
    refine ip_Ev.steps 1 (pc' := 18) (lv' := [some (.int p0), some (.int p1), some (.int p2)]) (st' := [.int (-1)]) (S1 := S) rfl ?_
    cases h
    exact ip_Ev.ret rfl
  · rw [if_pos (Decidable.of_not_not zhc1)] at h
    refine ip_Ev.steps 2 (pc' := 11) (lv' := [some (.int p0), some (.int p1), some (.int p2)]) (st' := [.int p2, .int p1]) (S1 := S) rfl ?_
    refine ip_Ev.call (i := 41) (a := [.int p1, .int p2]) (r := []) rfl (T_A_bit rfl) ?_
    show ip_Ev 42 14 [some (.int p0), some (.int p1), some (.int p2)] [.int (f_A_bit p1 p2)] S _ _
    refine ip_Ev.steps 1 (pc' := 18) (lv' := [some (.int p0), some (.int p1), some (.int p2)]) (st' := [.int (f_A_bit p1 p2)]) (S1 := S) rfl ?_
    cases h
    exact ip_Ev.ret rfl
-- A_answer
def f_A_answer (p0 : Int32) (p1 : Int32) (p2 : Int32) : Option (Int32) := ((ip_cI 56 p0).bind fun zv1 => (if (f_A_bit zv1 p1) = 1 then ((ip_cI 57 p0).bind fun zv3 => some (f_A_bit zv3 p1)) else some p2))
set_option maxRecDepth 10000 in
theorem T_A_answer {p0 : Int32} {p1 : Int32} {p2 : Int32} {S : ip_St} {r : Int32} (h : f_A_answer p0 p1 p2 = some r) : ip_Me 62 [.int p0, .int p1, .int p2] S (some (.int r)) S := by
  unfold f_A_answer at h
  refine ⟨[some (.int p0), some (.int p1), some (.int p2)], rfl, ?_⟩
  refine ip_Ev.steps 2 (pc' := 4) (lv' := [some (.int p0), some (.int p1), some (.int p2)]) (st' := [.int p0, .ref 56]) (S1 := S) rfl ?_
  obtain ⟨zv1, hzv1, h⟩ := ip_bind h
  refine ip_Ev.iald rfl hzv1 ?_
  refine ip_Ev.steps 1 (pc' := 6) (lv' := [some (.int p0), some (.int p1), some (.int p2)]) (st' := [.int p1, .int zv1]) (S1 := S) rfl ?_
  refine ip_Ev.call (i := 41) (a := [.int zv1, .int p1]) (r := []) rfl (T_A_bit rfl) ?_
  show ip_Ev 62 9 [some (.int p0), some (.int p1), some (.int p2)] [.int (f_A_bit zv1 p1)] S _ _
  refine ip_Ev.steps 1 (pc' := 10) (lv' := [some (.int p0), some (.int p1), some (.int p2)]) (st' := [.int 1, .int (f_A_bit zv1 p1)]) (S1 := S) rfl ?_
  refine ip_Ev.iff2 rfl rfl ip_cNe (fun zhc2 => ?_) (fun zhc2 => ?_)
  · rw [if_neg zhc2] at h
    refine ip_Ev.steps 1 (pc' := 26) (lv' := [some (.int p0), some (.int p1), some (.int p2)]) (st' := [.int p2]) (S1 := S) rfl ?_
    cases h
    exact ip_Ev.ret rfl
  · rw [if_pos (Decidable.of_not_not zhc2)] at h
    refine ip_Ev.steps 2 (pc' := 17) (lv' := [some (.int p0), some (.int p1), some (.int p2)]) (st' := [.int p0, .ref 57]) (S1 := S) rfl ?_
    obtain ⟨zv3, hzv3, h⟩ := ip_bind h
    refine ip_Ev.iald rfl hzv3 ?_
    refine ip_Ev.steps 1 (pc' := 19) (lv' := [some (.int p0), some (.int p1), some (.int p2)]) (st' := [.int p1, .int zv3]) (S1 := S) rfl ?_
    refine ip_Ev.call (i := 41) (a := [.int zv3, .int p1]) (r := []) rfl (T_A_bit rfl) ?_
    show ip_Ev 62 22 [some (.int p0), some (.int p1), some (.int p2)] [.int (f_A_bit zv3 p1)] S _ _
    refine ip_Ev.steps 1 (pc' := 26) (lv' := [some (.int p0), some (.int p1), some (.int p2)]) (st' := [.int (f_A_bit zv3 p1)]) (S1 := S) rfl ?_
    cases h
    exact ip_Ev.ret rfl
-- D_couldBe_12
def f_D_couldBe_12_34 (k2 : Int32 → Int32 → Int32 → ip_St → Option (Bool)) (x1 : Int32) (x2 : Int32) (x3 : Int32) (x4 : Int32) (s0 : Int32) (S : ip_St) : Option (Bool) := (if s0 = 0 then (k2 x1 x2 (x3 + 1) S) else ((ip_aI S 18 x3).bind fun zv2 => ((f_A_answer x2 (ip_irem x4 6) (f_A_bit zv2 1)).bind fun zv4 => ((ip_aI S 18 x3).bind fun zv5 => (if zv4 = (f_A_bit zv5 0) then (k2 x1 x2 (x3 + 1) S) else some false)))))
set_option maxRecDepth 10000 in
theorem E_D_couldBe_12_34 {k2 : Int32 → Int32 → Int32 → ip_St → Option (Bool)} (hk2 : ∀ {x1 : Int32} {x2 : Int32} {x3 : Int32} {S : ip_St} {r : Bool} {d4 : Option Value} {d5 : Option Value}, k2 x1 x2 x3 S = some r → ip_Ev 63 2 [some (.ref 12), some (.int x1), some (.int x2), some (.int x3), d4, d5] [] S (some (.int (ip_b2i r))) S) {x1 : Int32} {x2 : Int32} {x3 : Int32} {x4 : Int32} {s0 : Int32} {S : ip_St} {r : Bool} {d5 : Option Value} (h : f_D_couldBe_12_34 k2 x1 x2 x3 x4 s0 S = some r) : ip_Ev 63 34 [some (.ref 12), some (.int x1), some (.int x2), some (.int x3), some (.int x4), d5] [.int s0] S (some (.int (ip_b2i r))) S := by
  unfold f_D_couldBe_12_34 at h
  refine ip_Ev.steps 2 (pc' := 38) (lv' := [some (.ref 12), some (.int x1), some (.int x2), some (.int x3), some (.int x4), some (.int s0)]) (st' := [.int s0]) (S1 := S) rfl ?_
  refine ip_Ev.iff1 rfl rfl ip_cEq (fun zhc1 => ?_) (fun zhc1 => ?_)
  · rw [if_pos zhc1] at h
    refine ip_Ev.steps 2 (pc' := 2) (lv' := [some (.ref 12), some (.int x1), some (.int x2), some (.int (x3 + 1)), some (.int x4), some (.int s0)]) (st' := []) (S1 := S) rfl ?_
    exact hk2 h
  · rw [if_neg zhc1] at h
    refine ip_Ev.steps 3 (pc' := 46) (lv' := [some (.ref 12), some (.int x1), some (.int x2), some (.int x3), some (.int x4), some (.int s0)]) (st' := [.int 6, .int x4, .int x2]) (S1 := S) rfl ?_
    refine ip_Ev.irem rfl (by decide) ?_
    show ip_Ev 63 47 [some (.ref 12), some (.int x1), some (.int x2), some (.int x3), some (.int x4), some (.int s0)] [.int (ip_irem x4 6), .int x2] S _ _
    refine ip_Ev.steps 3 (pc' := 52) (lv' := [some (.ref 12), some (.int x1), some (.int x2), some (.int x3), some (.int x4), some (.int s0)]) (st' := [.int x3, .ref 18, .int (ip_irem x4 6), .int x2]) (S1 := S) rfl ?_
    obtain ⟨zv2, hzv2, h⟩ := ip_bind h
    refine ip_Ev.iald rfl hzv2 ?_
    refine ip_Ev.steps 1 (pc' := 54) (lv' := [some (.ref 12), some (.int x1), some (.int x2), some (.int x3), some (.int x4), some (.int s0)]) (st' := [.int 1, .int zv2, .int (ip_irem x4 6), .int x2]) (S1 := S) rfl ?_
    refine ip_Ev.call (i := 41) (a := [.int zv2, .int 1]) (r := [.int (ip_irem x4 6), .int x2]) rfl (T_A_bit rfl) ?_
    show ip_Ev 63 57 [some (.ref 12), some (.int x1), some (.int x2), some (.int x3), some (.int x4), some (.int s0)] [.int (f_A_bit zv2 1), .int (ip_irem x4 6), .int x2] S _ _
    obtain ⟨zv4, hzq3, h⟩ := ip_bind h
    refine ip_Ev.call (i := 62) (a := [.int x2, .int (ip_irem x4 6), .int (f_A_bit zv2 1)]) (r := []) rfl (T_A_answer hzq3) ?_
    show ip_Ev 63 60 [some (.ref 12), some (.int x1), some (.int x2), some (.int x3), some (.int x4), some (.int s0)] [.int zv4] S _ _
    refine ip_Ev.steps 3 (pc' := 65) (lv' := [some (.ref 12), some (.int x1), some (.int x2), some (.int x3), some (.int x4), some (.int s0)]) (st' := [.int x3, .ref 18, .int zv4]) (S1 := S) rfl ?_
    obtain ⟨zv5, hzv5, h⟩ := ip_bind h
    refine ip_Ev.iald rfl hzv5 ?_
    refine ip_Ev.steps 1 (pc' := 67) (lv' := [some (.ref 12), some (.int x1), some (.int x2), some (.int x3), some (.int x4), some (.int s0)]) (st' := [.int 0, .int zv5, .int zv4]) (S1 := S) rfl ?_
    refine ip_Ev.call (i := 41) (a := [.int zv5, .int 0]) (r := [.int zv4]) rfl (T_A_bit rfl) ?_
    show ip_Ev 63 70 [some (.ref 12), some (.int x1), some (.int x2), some (.int x3), some (.int x4), some (.int s0)] [.int (f_A_bit zv5 0), .int zv4] S _ _
    refine ip_Ev.iff2 rfl rfl ip_cEq (fun zhc6 => ?_) (fun zhc6 => ?_)
    · rw [if_pos zhc6] at h
      refine ip_Ev.steps 2 (pc' := 2) (lv' := [some (.ref 12), some (.int x1), some (.int x2), some (.int (x3 + 1)), some (.int x4), some (.int s0)]) (st' := []) (S1 := S) rfl ?_
      exact hk2 h
    · rw [if_neg zhc6] at h
      refine ip_Ev.steps 1 (pc' := 74) (lv' := [some (.ref 12), some (.int x1), some (.int x2), some (.int x3), some (.int x4), some (.int s0)]) (st' := [.int 0]) (S1 := S) rfl ?_
      cases h
      exact ip_Ev.retB (b := false) rfl rfl
def f_D_couldBe_12_2 : Nat → Int32 → Int32 → Int32 → ip_St → Option (Bool)
  | 0, _, _, _, _ => none
  | n + 1, x1, x2, x3, S => (if (S.1 12 6) ≤ x3 then some true else ((ip_aI S 18 x3).bind fun zv2 => (if ((zv2 / 4) / 6) = x1 then (f_D_couldBe_12_34 (f_D_couldBe_12_2 n) x1 x2 x3 (zv2 / 4) 1 S) else (f_D_couldBe_12_34 (f_D_couldBe_12_2 n) x1 x2 x3 (zv2 / 4) 0 S))))
set_option maxRecDepth 10000 in
theorem E_D_couldBe_12_2 : ∀ (n : Nat) {x1 : Int32} {x2 : Int32} {x3 : Int32} {S : ip_St} {r : Bool} {d4 : Option Value} {d5 : Option Value}, f_D_couldBe_12_2 n x1 x2 x3 S = some r → ip_Ev 63 2 [some (.ref 12), some (.int x1), some (.int x2), some (.int x3), d4, d5] [] S (some (.int (ip_b2i r))) S := by
  intro n
  induction n with
  | zero =>
    intro x1 x2 x3 S r d4 d5 h
    cases h
  | succ n ih =>
    intro x1 x2 x3 S r d4 d5 h
    rw [f_D_couldBe_12_2] at h
    refine ip_Ev.steps 3 (pc' := 7) (lv' := [some (.ref 12), some (.int x1), some (.int x2), some (.int x3), d4, d5]) (st' := [.int (S.1 12 6), .int x3]) (S1 := S) rfl ?_
    refine ip_Ev.iff2 rfl rfl ip_cGe (fun zhc1 => ?_) (fun zhc1 => ?_)
    · rw [if_pos zhc1] at h
      refine ip_Ev.steps 1 (pc' := 82) (lv' := [some (.ref 12), some (.int x1), some (.int x2), some (.int x3), d4, d5]) (st' := [.int 1]) (S1 := S) rfl ?_
      cases h
      exact ip_Ev.retB (b := true) rfl rfl
    · rw [if_neg zhc1] at h
      refine ip_Ev.steps 3 (pc' := 15) (lv' := [some (.ref 12), some (.int x1), some (.int x2), some (.int x3), d4, d5]) (st' := [.int x3, .ref 18]) (S1 := S) rfl ?_
      obtain ⟨zv2, hzv2, h⟩ := ip_bind h
      refine ip_Ev.iald rfl hzv2 ?_
      refine ip_Ev.steps 1 (pc' := 17) (lv' := [some (.ref 12), some (.int x1), some (.int x2), some (.int x3), d4, d5]) (st' := [.int 4, .int zv2]) (S1 := S) rfl ?_
      refine ip_Ev.idiv rfl (by decide) ?_
      refine ip_Ev.steps 3 (pc' := 24) (lv' := [some (.ref 12), some (.int x1), some (.int x2), some (.int x3), some (.int (zv2 / 4)), d5]) (st' := [.int 6, .int (zv2 / 4)]) (S1 := S) rfl ?_
      refine ip_Ev.idiv rfl (by decide) ?_
      refine ip_Ev.steps 1 (pc' := 26) (lv' := [some (.ref 12), some (.int x1), some (.int x2), some (.int x3), some (.int (zv2 / 4)), d5]) (st' := [.int x1, .int ((zv2 / 4) / 6)]) (S1 := S) rfl ?_
      refine ip_Ev.iff2 rfl rfl ip_cNe (fun zhc3 => ?_) (fun zhc3 => ?_)
      · rw [if_neg zhc3] at h
        refine ip_Ev.steps 1 (pc' := 34) (lv' := [some (.ref 12), some (.int x1), some (.int x2), some (.int x3), some (.int (zv2 / 4)), d5]) (st' := [.int 0]) (S1 := S) rfl ?_
        exact E_D_couldBe_12_34 ih h
      · rw [if_pos (Decidable.of_not_not zhc3)] at h
        refine ip_Ev.steps 2 (pc' := 34) (lv' := [some (.ref 12), some (.int x1), some (.int x2), some (.int x3), some (.int (zv2 / 4)), d5]) (st' := [.int 1]) (S1 := S) rfl ?_
        exact E_D_couldBe_12_34 ih h
def f_D_couldBe_12 (p1 : Int32) (p2 : Int32) (S : ip_St) : Option (Bool) := (f_D_couldBe_12_2 ip_FU p1 p2 0 S)
set_option maxRecDepth 10000 in
theorem T_D_couldBe_12 {p1 : Int32} {p2 : Int32} {S : ip_St} {r : Bool} (h : f_D_couldBe_12 p1 p2 S = some r) : ip_Me 63 [.ref 12, .int p1, .int p2] S (some (.int (ip_b2i r))) S := by
  unfold f_D_couldBe_12 at h
  refine ⟨[some (.ref 12), some (.int p1), some (.int p2), none, none, none], rfl, ?_⟩
  refine ip_Ev.steps 2 (pc' := 2) (lv' := [some (.ref 12), some (.int p1), some (.int p2), some (.int 0), none, none]) (st' := []) (S1 := S) rfl ?_
  exact E_D_couldBe_12_2 ip_FU h
-- A_kindsLeft
def f_A_kindsLeft_4 : Nat → Int32 → Int32 → Int32 → ip_St → Option (Int32)
  | 0, _, _, _, _ => none
  | n + 1, x1, x2, x3, S => (if 5 ≤ x3 then some x2 else ((f_D_couldBe_12 x1 x3 S).bind fun zv3 => (if zv3 = false then (f_A_kindsLeft_4 n x1 x2 (x3 + 1) S) else (f_A_kindsLeft_4 n x1 (x2 ||| (ip_ishl 1 x3)) (x3 + 1) S))))
set_option maxRecDepth 10000 in
theorem E_A_kindsLeft_4 : ∀ (n : Nat) {x1 : Int32} {x2 : Int32} {x3 : Int32} {S : ip_St} {r : Int32}, f_A_kindsLeft_4 n x1 x2 x3 S = some r → ip_Ev 64 4 [some (.ref 0), some (.int x1), some (.int x2), some (.int x3)] [] S (some (.int r)) S := by
  intro n
  induction n with
  | zero =>
    intro x1 x2 x3 S r h
    cases h
  | succ n ih =>
    intro x1 x2 x3 S r h
    rw [f_A_kindsLeft_4] at h
    refine ip_Ev.steps 2 (pc' := 6) (lv' := [some (.ref 0), some (.int x1), some (.int x2), some (.int x3)]) (st' := [.int 5, .int x3]) (S1 := S) rfl ?_
    refine ip_Ev.iff2 rfl rfl ip_cGe (fun zhc1 => ?_) (fun zhc1 => ?_)
    · rw [if_pos zhc1] at h
      refine ip_Ev.steps 1 (pc' := 34) (lv' := [some (.ref 0), some (.int x1), some (.int x2), some (.int x3)]) (st' := [.int x2]) (S1 := S) rfl ?_
      cases h
      exact ip_Ev.ret rfl
    · rw [if_neg zhc1] at h
      refine ip_Ev.steps 4 (pc' := 15) (lv' := [some (.ref 0), some (.int x1), some (.int x2), some (.int x3)]) (st' := [.int x3, .int x1, .ref 12]) (S1 := S) rfl ?_
      obtain ⟨zv3, hzq2, h⟩ := ip_bind h
      refine ip_Ev.call (i := 63) (a := [.ref 12, .int x1, .int x3]) (r := []) rfl (T_D_couldBe_12 hzq2) ?_
      show ip_Ev 64 18 [some (.ref 0), some (.int x1), some (.int x2), some (.int x3)] [.int (ip_b2i zv3)] S _ _
      refine ip_Ev.iff1 rfl rfl ip_bEq (fun zhc4 => ?_) (fun zhc4 => ?_)
      · rw [if_pos zhc4] at h
        refine ip_Ev.steps 2 (pc' := 4) (lv' := [some (.ref 0), some (.int x1), some (.int x2), some (.int (x3 + 1))]) (st' := []) (S1 := S) rfl ?_
        exact ih h
      · rw [if_neg zhc4] at h
        refine ip_Ev.steps 8 (pc' := 4) (lv' := [some (.ref 0), some (.int x1), some (.int (x2 ||| (ip_ishl 1 x3))), some (.int (x3 + 1))]) (st' := []) (S1 := S) rfl ?_
        exact ih h
def f_A_kindsLeft (p1 : Int32) (S : ip_St) : Option (Int32) := (f_A_kindsLeft_4 ip_FU p1 0 0 S)
set_option maxRecDepth 10000 in
theorem T_A_kindsLeft {p1 : Int32} {S : ip_St} {r : Int32} (h : f_A_kindsLeft p1 S = some r) : ip_Me 64 [.ref 0, .int p1] S (some (.int r)) S := by
  unfold f_A_kindsLeft at h
  refine ⟨[some (.ref 0), some (.int p1), none, none], rfl, ?_⟩
  refine ip_Ev.steps 4 (pc' := 4) (lv' := [some (.ref 0), some (.int p1), some (.int 0), some (.int 0)]) (st' := []) (S1 := S) rfl ?_
  exact E_A_kindsLeft_4 ip_FU h
-- A_kindsSayingSo
def f_A_kindsSayingSo_4 : Nat → Int32 → Int32 → Int32 → Int32 → Option (Int32)
  | 0, _, _, _, _ => none
  | n + 1, x0, x1, x2, x3 => (if 5 ≤ x3 then some x2 else ((f_A_answer x3 x0 x1).bind fun zv3 => (f_A_kindsSayingSo_4 n x0 x1 (x2 ||| (ip_ishl zv3 x3)) (x3 + 1))))
set_option maxRecDepth 10000 in
theorem E_A_kindsSayingSo_4 : ∀ (n : Nat) {x0 : Int32} {x1 : Int32} {x2 : Int32} {x3 : Int32} {S : ip_St} {r : Int32}, f_A_kindsSayingSo_4 n x0 x1 x2 x3 = some r → ip_Ev 65 4 [some (.int x0), some (.int x1), some (.int x2), some (.int x3)] [] S (some (.int r)) S := by
  intro n
  induction n with
  | zero =>
    intro x0 x1 x2 x3 S r h
    cases h
  | succ n ih =>
    intro x0 x1 x2 x3 S r h
    rw [f_A_kindsSayingSo_4] at h
    refine ip_Ev.steps 2 (pc' := 6) (lv' := [some (.int x0), some (.int x1), some (.int x2), some (.int x3)]) (st' := [.int 5, .int x3]) (S1 := S) rfl ?_
    refine ip_Ev.iff2 rfl rfl ip_cGe (fun zhc1 => ?_) (fun zhc1 => ?_)
    · rw [if_pos zhc1] at h
      refine ip_Ev.steps 1 (pc' := 27) (lv' := [some (.int x0), some (.int x1), some (.int x2), some (.int x3)]) (st' := [.int x2]) (S1 := S) rfl ?_
      cases h
      exact ip_Ev.ret rfl
    · rw [if_neg zhc1] at h
      refine ip_Ev.steps 4 (pc' := 13) (lv' := [some (.int x0), some (.int x1), some (.int x2), some (.int x3)]) (st' := [.int x1, .int x0, .int x3, .int x2]) (S1 := S) rfl ?_
      obtain ⟨zv3, hzq2, h⟩ := ip_bind h
      refine ip_Ev.call (i := 62) (a := [.int x3, .int x0, .int x1]) (r := [.int x2]) rfl (T_A_answer hzq2) ?_
      show ip_Ev 65 16 [some (.int x0), some (.int x1), some (.int x2), some (.int x3)] [.int zv3, .int x2] S _ _
      refine ip_Ev.steps 6 (pc' := 4) (lv' := [some (.int x0), some (.int x1), some (.int (x2 ||| (ip_ishl zv3 x3))), some (.int (x3 + 1))]) (st' := []) (S1 := S) rfl ?_
      exact ih h
def f_A_kindsSayingSo (p0 : Int32) (p1 : Int32) : Option (Int32) := (f_A_kindsSayingSo_4 ip_FU p0 p1 0 0)
set_option maxRecDepth 10000 in
theorem T_A_kindsSayingSo {p0 : Int32} {p1 : Int32} {S : ip_St} {r : Int32} (h : f_A_kindsSayingSo p0 p1 = some r) : ip_Me 65 [.int p0, .int p1] S (some (.int r)) S := by
  unfold f_A_kindsSayingSo at h
  refine ⟨[some (.int p0), some (.int p1), none, none], rfl, ?_⟩
  refine ip_Ev.steps 4 (pc' := 4) (lv' := [some (.int p0), some (.int p1), some (.int 0), some (.int 0)]) (st' := []) (S1 := S) rfl ?_
  exact E_A_kindsSayingSo_4 ip_FU h
