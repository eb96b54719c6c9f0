-- I_bitCount
def f_I_bitCount (p0 : Int32) : Int32 := ((((((((p0 - ((ip_iushr p0 1) &&& 1431655765)) &&& 858993459) + ((ip_iushr (p0 - ((ip_iushr p0 1) &&& 1431655765)) 2) &&& 858993459)) + (ip_iushr (((p0 - ((ip_iushr p0 1) &&& 1431655765)) &&& 858993459) + ((ip_iushr (p0 - ((ip_iushr p0 1) &&& 1431655765)) 2) &&& 858993459)) 4)) &&& 252645135) + (ip_iushr (((((p0 - ((ip_iushr p0 1) &&& 1431655765)) &&& 858993459) + ((ip_iushr (p0 - ((ip_iushr p0 1) &&& 1431655765)) 2) &&& 858993459)) + (ip_iushr (((p0 - ((ip_iushr p0 1) &&& 1431655765)) &&& 858993459) + ((ip_iushr (p0 - ((ip_iushr p0 1) &&& 1431655765)) 2) &&& 858993459)) 4)) &&& 252645135) 8)) + (ip_iushr ((((((p0 - ((ip_iushr p0 1) &&& 1431655765)) &&& 858993459) + ((ip_iushr (p0 - ((ip_iushr p0 1) &&& 1431655765)) 2) &&& 858993459)) + (ip_iushr (((p0 - ((ip_iushr p0 1) &&& 1431655765)) &&& 858993459) + ((ip_iushr (p0 - ((ip_iushr p0 1) &&& 1431655765)) 2) &&& 858993459)) 4)) &&& 252645135) + (ip_iushr (((((p0 - ((ip_iushr p0 1) &&& 1431655765)) &&& 858993459) + ((ip_iushr (p0 - ((ip_iushr p0 1) &&& 1431655765)) 2) &&& 858993459)) + (ip_iushr (((p0 - ((ip_iushr p0 1) &&& 1431655765)) &&& 858993459) + ((ip_iushr (p0 - ((ip_iushr p0 1) &&& 1431655765)) 2) &&& 858993459)) 4)) &&& 252645135) 8)) 16)) &&& 63)
set_option maxRecDepth 10000 in
theorem T_I_bitCount {p0 : Int32} {S : ip_St} {r : Int32} (h : f_I_bitCount p0 = r) : ip_Me 58 [.int p0] S (some (.int r)) S := by
  unfold f_I_bitCount at h
  refine ⟨[some (.int p0)], rfl, ?_⟩
  refine ip_Ev.steps 12 (pc' := 16) (lv' := [some (.int (p0 - ((ip_iushr p0 1) &&& 1431655765)))]) (st' := [.int (p0 - ((ip_iushr p0 1) &&& 1431655765)), .int ((p0 - ((ip_iushr p0 1) &&& 1431655765)) &&& 858993459)]) (S1 := S) rfl ?_
  refine ip_Ev.steps 12 (pc' := 32) (lv' := [some (.int (((p0 - ((ip_iushr p0 1) &&& 1431655765)) &&& 858993459) + ((ip_iushr (p0 - ((ip_iushr p0 1) &&& 1431655765)) 2) &&& 858993459)))]) (st' := [.int 252645135, .int ((((p0 - ((ip_iushr p0 1) &&& 1431655765)) &&& 858993459) + ((ip_iushr (p0 - ((ip_iushr p0 1) &&& 1431655765)) 2) &&& 858993459)) + (ip_iushr (((p0 - ((ip_iushr p0 1) &&& 1431655765)) &&& 858993459) + ((ip_iushr (p0 - ((ip_iushr p0 1) &&& 1431655765)) 2) &&& 858993459)) 4))]) (S1 := S) rfl ?_
  refine ip_Ev.steps 12 (pc' := 46) (lv' := [some (.int ((((((p0 - ((ip_iushr p0 1) &&& 1431655765)) &&& 858993459) + ((ip_iushr (p0 - ((ip_iushr p0 1) &&& 1431655765)) 2) &&& 858993459)) + (ip_iushr (((p0 - ((ip_iushr p0 1) &&& 1431655765)) &&& 858993459) + ((ip_iushr (p0 - ((ip_iushr p0 1) &&& 1431655765)) 2) &&& 858993459)) 4)) &&& 252645135) + (ip_iushr (((((p0 - ((ip_iushr p0 1) &&& 1431655765)) &&& 858993459) + ((ip_iushr (p0 - ((ip_iushr p0 1) &&& 1431655765)) 2) &&& 858993459)) + (ip_iushr (((p0 - ((ip_iushr p0 1) &&& 1431655765)) &&& 858993459) + ((ip_iushr (p0 - ((ip_iushr p0 1) &&& 1431655765)) 2) &&& 858993459)) 4)) &&& 252645135) 8)))]) (st' := [.int (ip_iushr ((((((p0 - ((ip_iushr p0 1) &&& 1431655765)) &&& 858993459) + ((ip_iushr (p0 - ((ip_iushr p0 1) &&& 1431655765)) 2) &&& 858993459)) + (ip_iushr (((p0 - ((ip_iushr p0 1) &&& 1431655765)) &&& 858993459) + ((ip_iushr (p0 - ((ip_iushr p0 1) &&& 1431655765)) 2) &&& 858993459)) 4)) &&& 252645135) + (ip_iushr (((((p0 - ((ip_iushr p0 1) &&& 1431655765)) &&& 858993459) + ((ip_iushr (p0 - ((ip_iushr p0 1) &&& 1431655765)) 2) &&& 858993459)) + (ip_iushr (((p0 - ((ip_iushr p0 1) &&& 1431655765)) &&& 858993459) + ((ip_iushr (p0 - ((ip_iushr p0 1) &&& 1431655765)) 2) &&& 858993459)) 4)) &&& 252645135) 8)) 16), .int ((((((p0 - ((ip_iushr p0 1) &&& 1431655765)) &&& 858993459) + ((ip_iushr (p0 - ((ip_iushr p0 1) &&& 1431655765)) 2) &&& 858993459)) + (ip_iushr (((p0 - ((ip_iushr p0 1) &&& 1431655765)) &&& 858993459) + ((ip_iushr (p0 - ((ip_iushr p0 1) &&& 1431655765)) 2) &&& 858993459)) 4)) &&& 252645135) + (ip_iushr (((((p0 - ((ip_iushr p0 1) &&& 1431655765)) &&& 858993459) + ((ip_iushr (p0 - ((ip_iushr p0 1) &&& 1431655765)) 2) &&& 858993459)) + (ip_iushr (((p0 - ((ip_iushr p0 1) &&& 1431655765)) &&& 858993459) + ((ip_iushr (p0 - ((ip_iushr p0 1) &&& 1431655765)) 2) &&& 858993459)) 4)) &&& 252645135) 8))]) (S1 := S) rfl ?_
  refine ip_Ev.steps 5 (pc' := 52) (lv' := [some (.int (((((((p0 - ((ip_iushr p0 1) &&& 1431655765)) &&& 858993459) + ((ip_iushr (p0 - ((ip_iushr p0 1) &&& 1431655765)) 2) &&& 858993459)) + (ip_iushr (((p0 - ((ip_iushr p0 1) &&& 1431655765)) &&& 858993459) + ((ip_iushr (p0 - ((ip_iushr p0 1) &&& 1431655765)) 2) &&& 858993459)) 4)) &&& 252645135) + (ip_iushr (((((p0 - ((ip_iushr p0 1) &&& 1431655765)) &&& 858993459) + ((ip_iushr (p0 - ((ip_iushr p0 1) &&& 1431655765)) 2) &&& 858993459)) + (ip_iushr (((p0 - ((ip_iushr p0 1) &&& 1431655765)) &&& 858993459) + ((ip_iushr (p0 - ((ip_iushr p0 1) &&& 1431655765)) 2) &&& 858993459)) 4)) &&& 252645135) 8)) + (ip_iushr ((((((p0 - ((ip_iushr p0 1) &&& 1431655765)) &&& 858993459) + ((ip_iushr (p0 - ((ip_iushr p0 1) &&& 1431655765)) 2) &&& 858993459)) + (ip_iushr (((p0 - ((ip_iushr p0 1) &&& 1431655765)) &&& 858993459) + ((ip_iushr (p0 - ((ip_iushr p0 1) &&& 1431655765)) 2) &&& 858993459)) 4)) &&& 252645135) + (ip_iushr (((((p0 - ((ip_iushr p0 1) &&& 1431655765)) &&& 858993459) + ((ip_iushr (p0 - ((ip_iushr p0 1) &&& 1431655765)) 2) &&& 858993459)) + (ip_iushr (((p0 - ((ip_iushr p0 1) &&& 1431655765)) &&& 858993459) + ((ip_iushr (p0 - ((ip_iushr p0 1) &&& 1431655765)) 2) &&& 858993459)) 4)) &&& 252645135) 8)) 16)))]) (st' := [.int ((((((((p0 - ((ip_iushr p0 1) &&& 1431655765)) &&& 858993459) + ((ip_iushr (p0 - ((ip_iushr p0 1) &&& 1431655765)) 2) &&& 858993459)) + (ip_iushr (((p0 - ((ip_iushr p0 1) &&& 1431655765)) &&& 858993459) + ((ip_iushr (p0 - ((ip_iushr p0 1) &&& 1431655765)) 2) &&& 858993459)) 4)) &&& 252645135) + (ip_iushr (((((p0 - ((ip_iushr p0 1) &&& 1431655765)) &&& 858993459) + ((ip_iushr (p0 - ((ip_iushr p0 1) &&& 1431655765)) 2) &&& 858993459)) + (ip_iushr (((p0 - ((ip_iushr p0 1) &&& 1431655765)) &&& 858993459) + ((ip_iushr (p0 - ((ip_iushr p0 1) &&& 1431655765)) 2) &&& 858993459)) 4)) &&& 252645135) 8)) + (ip_iushr ((((((p0 - ((ip_iushr p0 1) &&& 1431655765)) &&& 858993459) + ((ip_iushr (p0 - ((ip_iushr p0 1) &&& 1431655765)) 2) &&& 858993459)) + (ip_iushr (((p0 - ((ip_iushr p0 1) &&& 1431655765)) &&& 858993459) + ((ip_iushr (p0 - ((ip_iushr p0 1) &&& 1431655765)) 2) &&& 858993459)) 4)) &&& 252645135) + (ip_iushr (((((p0 - ((ip_iushr p0 1) &&& 1431655765)) &&& 858993459) + ((ip_iushr (p0 - ((ip_iushr p0 1) &&& 1431655765)) 2) &&& 858993459)) + (ip_iushr (((p0 - ((ip_iushr p0 1) &&& 1431655765)) &&& 858993459) + ((ip_iushr (p0 - ((ip_iushr p0 1) &&& 1431655765)) 2) &&& 858993459)) 4)) &&& 252645135) 8)) 16)) &&& 63)]) (S1 := S) rfl ?_
  cases h
  exact ip_Ev.ret rfl
-- A_bestTest
def f_A_bestTest_7 : Nat → Int32 → Int32 → Int32 → Int32 → Option (Int32)
  | 0, _, _, _, _ => none
  | n + 1, x0, x1, x2, x3 => (if 12 ≤ x3 then some x1 else (if x0 = 0 then some x1 else ((f_A_kindsSayingSo (x3 / 2) (ip_irem x3 2)).bind fun zv4 => (if x2 ≤ (if (f_I_bitCount (x0 &&& zv4)) < (f_I_bitCount (x0 &&& ((x0 &&& zv4) ^^^ (-1)))) then (f_I_bitCount (x0 &&& ((x0 &&& zv4) ^^^ (-1)))) else (f_I_bitCount (x0 &&& zv4))) then (f_A_bestTest_7 n x0 x1 x2 (x3 + 1)) else (f_A_bestTest_7 n x0 x3 (if (f_I_bitCount (x0 &&& zv4)) < (f_I_bitCount (x0 &&& ((x0 &&& zv4) ^^^ (-1)))) then (f_I_bitCount (x0 &&& ((x0 &&& zv4) ^^^ (-1)))) else (f_I_bitCount (x0 &&& zv4))) (x3 + 1))))))
set_option maxRecDepth 10000 in
theorem E_A_bestTest_7 : ∀ (n : Nat) {x0 : Int32} {x1 : Int32} {x2 : Int32} {x3 : Int32} {S : ip_St} {r : Int32} {d4 : Option Value} {d5 : Option Value}, f_A_bestTest_7 n x0 x1 x2 x3 = some r → ip_Ev 66 7 [some (.int x0), some (.int x1), some (.int x2), some (.int x3), d4, d5] [] S (some (.int r)) S := by
  intro n
  induction n with
  | zero =>
    intro x0 x1 x2 x3 S r d4 d5 h
    cases h
  | succ n ih =>
    intro x0 x1 x2 x3 S r d4 d5 h
    rw [f_A_bestTest_7] at h
    refine ip_Ev.steps 2 (pc' := 10) (lv' := [some (.int x0), some (.int x1), some (.int x2), some (.int x3), d4, d5]) (st' := [.int 12, .int x3]) (S1 := S) rfl ?_
    refine ip_Ev.iff2 rfl rfl ip_cGe (fun zhc1 => ?_) (fun zhc1 => ?_)
    · rw [if_pos zhc1] at h
      refine ip_Ev.steps 1 (pc' := 67) (lv' := [some (.int x0), some (.int x1), some (.int x2), some (.int x3), d4, d5]) (st' := [.int x1]) (S1 := S) rfl ?_
      cases h
      exact ip_Ev.ret rfl
    · rw [if_neg zhc1] at h
      refine ip_Ev.steps 1 (pc' := 14) (lv' := [some (.int x0), some (.int x1), some (.int x2), some (.int x3), d4, d5]) (st' := [.int x0]) (S1 := S) rfl ?_
      refine ip_Ev.iff1 rfl rfl ip_cEq (fun zhc2 => ?_) (fun zhc2 => ?_)
      · rw [if_pos zhc2] at h
        refine ip_Ev.steps 1 (pc' := 67) (lv' := [some (.int x0), some (.int x1), some (.int x2), some (.int x3), d4, d5]) (st' := [.int x1]) (S1 := S) rfl ?_
        cases h
        exact ip_Ev.ret rfl
      · rw [if_neg zhc2] at h
        refine ip_Ev.steps 3 (pc' := 20) (lv' := [some (.int x0), some (.int x1), some (.int x2), some (.int x3), d4, d5]) (st' := [.int 2, .int x3, .int x0]) (S1 := S) rfl ?_
        refine ip_Ev.idiv rfl (by decide) ?_
        refine ip_Ev.steps 2 (pc' := 23) (lv' := [some (.int x0), some (.int x1), some (.int x2), some (.int x3), d4, d5]) (st' := [.int 2, .int x3, .int (x3 / 2), .int x0]) (S1 := S) rfl ?_
        refine ip_Ev.irem rfl (by decide) ?_
        show ip_Ev 66 24 [some (.int x0), some (.int x1), some (.int x2), some (.int x3), d4, d5] [.int (ip_irem x3 2), .int (x3 / 2), .int x0] S _ _
        obtain ⟨zv4, hzq3, h⟩ := ip_bind h
        refine ip_Ev.call (i := 65) (a := [.int (x3 / 2), .int (ip_irem x3 2)]) (r := [.int x0]) rfl (T_A_kindsSayingSo hzq3) ?_
        show ip_Ev 66 27 [some (.int x0), some (.int x1), some (.int x2), some (.int x3), d4, d5] [.int zv4, .int x0] S _ _
        refine ip_Ev.steps 3 (pc' := 32) (lv' := [some (.int x0), some (.int x1), some (.int x2), some (.int x3), some (.int (x0 &&& zv4)), d5]) (st' := [.int (x0 &&& zv4)]) (S1 := S) rfl ?_
        refine ip_Ev.call (i := 58) (a := [.int (x0 &&& zv4)]) (r := []) rfl (T_I_bitCount rfl) ?_
        show ip_Ev 66 35 [some (.int x0), some (.int x1), some (.int x2), some (.int x3), some (.int (x0 &&& zv4)), d5] [.int (f_I_bitCount (x0 &&& zv4))] S _ _
        refine ip_Ev.steps 5 (pc' := 41) (lv' := [some (.int x0), some (.int x1), some (.int x2), some (.int x3), some (.int (x0 &&& zv4)), d5]) (st' := [.int (x0 &&& ((x0 &&& zv4) ^^^ (-1))), .int (f_I_bitCount (x0 &&& zv4))]) (S1 := S) rfl ?_
        refine ip_Ev.call (i := 58) (a := [.int (x0 &&& ((x0 &&& zv4) ^^^ (-1)))]) (r := [.int (f_I_bitCount (x0 &&& zv4))]) rfl (T_I_bitCount rfl) ?_
        show ip_Ev 66 44 [some (.int x0), some (.int x1), some (.int x2), some (.int x3), some (.int (x0 &&& zv4)), d5] [.int (f_I_bitCount (x0 &&& ((x0 &&& zv4) ^^^ (-1)))), .int (f_I_bitCount (x0 &&& zv4))] S _ _
        refine ip_Ev.steps 4 (pc' := 52) (lv' := [some (.int x0), some (.int x1), some (.int x2), some (.int x3), some (.int (x0 &&& zv4)), some (.int (if (f_I_bitCount (x0 &&& zv4)) < (f_I_bitCount (x0 &&& ((x0 &&& zv4) ^^^ (-1)))) then (f_I_bitCount (x0 &&& ((x0 &&& zv4) ^^^ (-1)))) else (f_I_bitCount (x0 &&& zv4))))]) (st' := [.int x2, .int (if (f_I_bitCount (x0 &&& zv4)) < (f_I_bitCount (x0 &&& ((x0 &&& zv4) ^^^ (-1)))) then (f_I_bitCount (x0 &&& ((x0 &&& zv4) ^^^ (-1)))) else (f_I_bitCount (x0 &&& zv4)))]) (S1 := S) rfl ?_
        refine ip_Ev.iff2 rfl rfl ip_cGe (fun zhc5 => ?_) (fun zhc5 => ?_)
        · rw [if_pos zhc5] at h
          refine ip_Ev.steps 2 (pc' := 7) (lv' := [some (.int x0), some (.int x1), some (.int x2), some (.int (x3 + 1)), some (.int (x0 &&& zv4)), some (.int (if (f_I_bitCount (x0 &&& zv4)) < (f_I_bitCount (x0 &&& ((x0 &&& zv4) ^^^ (-1)))) then (f_I_bitCount (x0 &&& ((x0 &&& zv4) ^^^ (-1)))) else (f_I_bitCount (x0 &&& zv4))))]) (st' := []) (S1 := S) rfl ?_
          exact ih h
        · rw [if_neg zhc5] at h
          refine ip_Ev.steps 6 (pc' := 7) (lv' := [some (.int x0), some (.int x3), some (.int (if (f_I_bitCount (x0 &&& zv4)) < (f_I_bitCount (x0 &&& ((x0 &&& zv4) ^^^ (-1)))) then (f_I_bitCount (x0 &&& ((x0 &&& zv4) ^^^ (-1)))) else (f_I_bitCount (x0 &&& zv4)))), some (.int (x3 + 1)), some (.int (x0 &&& zv4)), some (.int (if (f_I_bitCount (x0 &&& zv4)) < (f_I_bitCount (x0 &&& ((x0 &&& zv4) ^^^ (-1)))) then (f_I_bitCount (x0 &&& ((x0 &&& zv4) ^^^ (-1)))) else (f_I_bitCount (x0 &&& zv4))))]) (st' := []) (S1 := S) rfl ?_
          exact ih h
def f_A_bestTest (p0 : Int32) : Option (Int32) := (f_A_bestTest_7 ip_FU p0 (-1) 6 0)
set_option maxRecDepth 10000 in
theorem T_A_bestTest {p0 : Int32} {S : ip_St} {r : Int32} (h : f_A_bestTest p0 = some r) : ip_Me 66 [.int p0] S (some (.int r)) S := by
  unfold f_A_bestTest at h
  refine ⟨[some (.int p0), none, none, none, none, none], rfl, ?_⟩
  refine ip_Ev.steps 6 (pc' := 7) (lv' := [some (.int p0), some (.int (-1)), some (.int 6), some (.int 0), none, none]) (st' := []) (S1 := S) rfl ?_
  exact E_A_bestTest_7 ip_FU h
-- A_where
def f_A_where (p0 : Int32) (p1 : Int32) : Option (Int64) := (if p1 = 1 then ((ip_cL p0).bind fun zv3 => some zv3) else ((ip_cL p0).bind fun zv2 => some (zv2 ^^^ (-1))))
set_option maxRecDepth 10000 in
theorem T_A_where {p0 : Int32} {p1 : Int32} {S : ip_St} {r : Int64} (h : f_A_where p0 p1 = some r) : ip_Me 43 [.int p0, .int p1] S (some (.long r)) S := by
  unfold f_A_where at h
  refine ⟨[some (.int p0), some (.int p1)], rfl, ?_⟩
  refine ip_Ev.steps 2 (pc' := 2) (lv' := [some (.int p0), some (.int p1)]) (st' := [.int 1, .int p1]) (S1 := S) rfl ?_
  refine ip_Ev.iff2 rfl rfl ip_cNe (fun zhc1 => ?_) (fun zhc1 => ?_)
  · rw [if_neg zhc1] at h
    refine ip_Ev.steps 2 (pc' := 17) (lv' := [some (.int p0), some (.int p1)]) (st' := [.int p0, .ref 55]) (S1 := S) rfl ?_
    obtain ⟨zv2, hzv2, h⟩ := ip_bind h
    refine ip_Ev.lald rfl hzv2 ?_
    refine ip_Ev.steps 2 (pc' := 22) (lv' := [some (.int p0), some (.int p1)]) (st' := [.long (zv2 ^^^ (-1))]) (S1 := S) rfl ?_
    cases h
    exact ip_Ev.ret rfl
  · rw [if_pos (Decidable.of_not_not zhc1)] at h
    refine ip_Ev.steps 2 (pc' := 9) (lv' := [some (.int p0), some (.int p1)]) (st' := [.int p0, .ref 55]) (S1 := S) rfl ?_
    obtain ⟨zv3, hzv3, h⟩ := ip_bind h
    refine ip_Ev.lald rfl hzv3 ?_
    refine ip_Ev.steps 1 (pc' := 22) (lv' := [some (.int p0), some (.int p1)]) (st' := [.long zv3]) (S1 := S) rfl ?_
    cases h
    exact ip_Ev.ret rfl
-- A_whereSaid
def f_A_whereSaid (p0 : Int32) (p1 : Int32) (p2 : Int32) : Option (Int64) := ((ip_cI 56 p0).bind fun zv1 => (if (f_A_bit zv1 p1) = 0 then ((f_A_where p1 p2).bind fun zv6 => some zv6) else ((ip_cI 57 p0).bind fun zv3 => (if (f_A_bit zv3 p1) = p2 then some (-1) else some 0))))
set_option maxRecDepth 10000 in
theorem T_A_whereSaid {p0 : Int32} {p1 : Int32} {p2 : Int32} {S : ip_St} {r : Int64} (h : f_A_whereSaid p0 p1 p2 = some r) : ip_Me 44 [.int p0, .int p1, .int p2] S (some (.long r)) S := by
  unfold f_A_whereSaid at h
  refine ⟨[some (.int p0), some (.int p1), some (.int p2)], rfl, ?_⟩
  refine ip_Ev.steps 2 (pc' := 4) (lv' := [some (.int p0), some (.int p1), some (.int p2)]) (st' := [.int p0, .ref 56]) (S1 := S) rfl ?_
  obtain ⟨zv1, hzv1, h⟩ := ip_bind h
  refine ip_Ev.iald rfl hzv1 ?_
  refine ip_Ev.steps 1 (pc' := 6) (lv' := [some (.int p0), some (.int p1), some (.int p2)]) (st' := [.int p1, .int zv1]) (S1 := S) rfl ?_
  refine ip_Ev.call (i := 41) (a := [.int zv1, .int p1]) (r := []) rfl (T_A_bit rfl) ?_
  show ip_Ev 44 9 [some (.int p0), some (.int p1), some (.int p2)] [.int (f_A_bit zv1 p1)] S _ _
  refine ip_Ev.iff1 rfl rfl ip_cNe (fun zhc2 => ?_) (fun zhc2 => ?_)
  · rw [if_neg zhc2] at h
    refine ip_Ev.steps 2 (pc' := 22) (lv' := [some (.int p0), some (.int p1), some (.int p2)]) (st' := [.int p0, .ref 57]) (S1 := S) rfl ?_
    obtain ⟨zv3, hzv3, h⟩ := ip_bind h
    refine ip_Ev.iald rfl hzv3 ?_
    refine ip_Ev.steps 1 (pc' := 24) (lv' := [some (.int p0), some (.int p1), some (.int p2)]) (st' := [.int p1, .int zv3]) (S1 := S) rfl ?_
    refine ip_Ev.call (i := 41) (a := [.int zv3, .int p1]) (r := []) rfl (T_A_bit rfl) ?_
    show ip_Ev 44 27 [some (.int p0), some (.int p1), some (.int p2)] [.int (f_A_bit zv3 p1)] S _ _
    refine ip_Ev.steps 1 (pc' := 28) (lv' := [some (.int p0), some (.int p1), some (.int p2)]) (st' := [.int p2, .int (f_A_bit zv3 p1)]) (S1 := S) rfl ?_
    refine ip_Ev.iff2 rfl rfl ip_cNe (fun zhc4 => ?_) (fun zhc4 => ?_)
    · rw [if_neg zhc4] at h
      refine ip_Ev.steps 1 (pc' := 38) (lv' := [some (.int p0), some (.int p1), some (.int p2)]) (st' := [.long 0]) (S1 := S) rfl ?_
      cases h
      exact ip_Ev.ret rfl
    · rw [if_pos (Decidable.of_not_not zhc4)] at h
      refine ip_Ev.steps 2 (pc' := 38) (lv' := [some (.int p0), some (.int p1), some (.int p2)]) (st' := [.long (-1)]) (S1 := S) rfl ?_
      cases h
      exact ip_Ev.ret rfl
  · rw [if_pos (Decidable.of_not_not zhc2)] at h
    refine ip_Ev.steps 2 (pc' := 14) (lv' := [some (.int p0), some (.int p1), some (.int p2)]) (st' := [.int p2, .int p1]) (S1 := S) rfl ?_
    obtain ⟨zv6, hzq5, h⟩ := ip_bind h
    refine ip_Ev.call (i := 43) (a := [.int p1, .int p2]) (r := []) rfl (T_A_where hzq5) ?_
    show ip_Ev 44 17 [some (.int p0), some (.int p1), some (.int p2)] [.long zv6] S _ _
    cases h
    exact ip_Ev.ret rfl
-- J_worlds
def f_J_worlds_39 (k6 : Nat → Int64 → Int32 → ip_St → Option (Int64)) (c0 : Nat) (x1 : Int64) (x3 : Int32) (S : ip_St) : Option (Int64) := (if (f_A_bit (S.1 c0 3) x3) = 1 then ((f_A_whereSaid (S.1 c0 0) x3 (f_A_bit (S.1 c0 4) x3)).bind fun zv3 => (k6 c0 (x1 &&& zv3) (x3 + 1) S)) else (k6 c0 x1 (x3 + 1) S))
set_option maxRecDepth 10000 in
theorem E_J_worlds_39 {k6 : Nat → Int64 → Int32 → ip_St → Option (Int64)} (hk6 : ∀ {c0 : Nat} {x1 : Int64} {x3 : Int32} {S : ip_St} {r : Int64}, ip_ob c0 = some 1 → k6 c0 x1 x3 S = some r → ip_Ev 45 6 [some (.ref c0), some (.long x1), none, some (.int x3)] [] S (some (.long r)) S) {c0 : Nat} {x1 : Int64} {x3 : Int32} {S : ip_St} {r : Int64} (hc0 : ip_ob c0 = some 1) (h : f_J_worlds_39 k6 c0 x1 x3 S = some r) : ip_Ev 45 39 [some (.ref c0), some (.long x1), none, some (.int x3)] [] S (some (.long r)) S := by
  unfold f_J_worlds_39 at h
  refine ip_Ev.steps 1 (pc' := 40) (lv' := [some (.ref c0), some (.long x1), none, some (.int x3)]) (st' := [.ref c0]) (S1 := S) rfl ?_
  refine ip_Ev.gfI rfl rfl hc0 (by decide) ?_
  refine ip_Ev.steps 1 (pc' := 44) (lv' := [some (.ref c0), some (.long x1), none, some (.int x3)]) (st' := [.int x3, .int (S.1 c0 3)]) (S1 := S) rfl ?_
  refine ip_Ev.call (i := 41) (a := [.int (S.1 c0 3), .int x3]) (r := []) rfl (T_A_bit rfl) ?_
  show ip_Ev 45 47 [some (.ref c0), some (.long x1), none, some (.int x3)] [.int (f_A_bit (S.1 c0 3) x3)] S _ _
  refine ip_Ev.steps 1 (pc' := 48) (lv' := [some (.ref c0), some (.long x1), none, some (.int x3)]) (st' := [.int 1, .int (f_A_bit (S.1 c0 3) x3)]) (S1 := S) rfl ?_
  refine ip_Ev.iff2 rfl rfl ip_cNe (fun zhc1 => ?_) (fun zhc1 => ?_)
  · rw [if_neg zhc1] at h
    refine ip_Ev.steps 2 (pc' := 6) (lv' := [some (.ref c0), some (.long x1), none, some (.int (x3 + 1))]) (st' := []) (S1 := S) rfl ?_
    exact hk6 hc0 h
  · rw [if_pos (Decidable.of_not_not zhc1)] at h
    refine ip_Ev.steps 2 (pc' := 53) (lv' := [some (.ref c0), some (.long x1), none, some (.int x3)]) (st' := [.ref c0, .long x1]) (S1 := S) rfl ?_
    refine ip_Ev.gfI rfl rfl hc0 (by decide) ?_
    refine ip_Ev.steps 2 (pc' := 58) (lv' := [some (.ref c0), some (.long x1), none, some (.int x3)]) (st' := [.ref c0, .int x3, .int (S.1 c0 0), .long x1]) (S1 := S) rfl ?_
    refine ip_Ev.gfI rfl rfl hc0 (by decide) ?_
    refine ip_Ev.steps 1 (pc' := 62) (lv' := [some (.ref c0), some (.long x1), none, some (.int x3)]) (st' := [.int x3, .int (S.1 c0 4), .int x3, .int (S.1 c0 0), .long x1]) (S1 := S) rfl ?_
    refine ip_Ev.call (i := 41) (a := [.int (S.1 c0 4), .int x3]) (r := [.int x3, .int (S.1 c0 0), .long x1]) rfl (T_A_bit rfl) ?_
    show ip_Ev 45 65 [some (.ref c0), some (.long x1), none, some (.int x3)] [.int (f_A_bit (S.1 c0 4) x3), .int x3, .int (S.1 c0 0), .long x1] S _ _
    obtain ⟨zv3, hzq2, h⟩ := ip_bind h
    refine ip_Ev.call (i := 44) (a := [.int (S.1 c0 0), .int x3, .int (f_A_bit (S.1 c0 4) x3)]) (r := [.long x1]) rfl (T_A_whereSaid hzq2) ?_
    show ip_Ev 45 68 [some (.ref c0), some (.long x1), none, some (.int x3)] [.long zv3, .long x1] S _ _
    refine ip_Ev.steps 4 (pc' := 6) (lv' := [some (.ref c0), some (.long (x1 &&& zv3)), none, some (.int (x3 + 1))]) (st' := []) (S1 := S) rfl ?_
    exact hk6 hc0 h
def f_J_worlds_6 : Nat → Nat → Int64 → Int32 → ip_St → Option (Int64)
  | 0, _, _, _, _ => none
  | n + 1, c0, x1, x3, S => (if 6 ≤ x3 then some x1 else (if (f_A_bit (S.1 c0 1) x3) = 1 then ((f_A_where x3 (f_A_bit (S.1 c0 2) x3)).bind fun zv4 => (f_J_worlds_39 (f_J_worlds_6 n) c0 (x1 &&& zv4) x3 S)) else (f_J_worlds_39 (f_J_worlds_6 n) c0 x1 x3 S)))
set_option maxRecDepth 10000 in
theorem E_J_worlds_6 : ∀ (n : Nat) {c0 : Nat} {x1 : Int64} {x3 : Int32} {S : ip_St} {r : Int64}, ip_ob c0 = some 1 → f_J_worlds_6 n c0 x1 x3 S = some r → ip_Ev 45 6 [some (.ref c0), some (.long x1), none, some (.int x3)] [] S (some (.long r)) S := by
  intro n
  induction n with
  | zero =>
    intro c0 x1 x3 S r hc0 h
    cases h
  | succ n ih =>
    intro c0 x1 x3 S r hc0 h
    rw [f_J_worlds_6] at h
    refine ip_Ev.steps 2 (pc' := 9) (lv' := [some (.ref c0), some (.long x1), none, some (.int x3)]) (st' := [.int 6, .int x3]) (S1 := S) rfl ?_
    refine ip_Ev.iff2 rfl rfl ip_cGe (fun zhc1 => ?_) (fun zhc1 => ?_)
    · rw [if_pos zhc1] at h
      refine ip_Ev.steps 1 (pc' := 77) (lv' := [some (.ref c0), some (.long x1), none, some (.int x3)]) (st' := [.long x1]) (S1 := S) rfl ?_
      cases h
      exact ip_Ev.ret rfl
    · rw [if_neg zhc1] at h
      refine ip_Ev.steps 1 (pc' := 13) (lv' := [some (.ref c0), some (.long x1), none, some (.int x3)]) (st' := [.ref c0]) (S1 := S) rfl ?_
      refine ip_Ev.gfI rfl rfl hc0 (by decide) ?_
      refine ip_Ev.steps 1 (pc' := 17) (lv' := [some (.ref c0), some (.long x1), none, some (.int x3)]) (st' := [.int x3, .int (S.1 c0 1)]) (S1 := S) rfl ?_
      refine ip_Ev.call (i := 41) (a := [.int (S.1 c0 1), .int x3]) (r := []) rfl (T_A_bit rfl) ?_
      show ip_Ev 45 20 [some (.ref c0), some (.long x1), none, some (.int x3)] [.int (f_A_bit (S.1 c0 1) x3)] S _ _
      refine ip_Ev.steps 1 (pc' := 21) (lv' := [some (.ref c0), some (.long x1), none, some (.int x3)]) (st' := [.int 1, .int (f_A_bit (S.1 c0 1) x3)]) (S1 := S) rfl ?_
      refine ip_Ev.iff2 rfl rfl ip_cNe (fun zhc2 => ?_) (fun zhc2 => ?_)
      · rw [if_neg zhc2] at h
        exact E_J_worlds_39 ih hc0 h
      · rw [if_pos (Decidable.of_not_not zhc2)] at h
        refine ip_Ev.steps 3 (pc' := 27) (lv' := [some (.ref c0), some (.long x1), none, some (.int x3)]) (st' := [.ref c0, .int x3, .long x1]) (S1 := S) rfl ?_
        refine ip_Ev.gfI rfl rfl hc0 (by decide) ?_
        refine ip_Ev.steps 1 (pc' := 31) (lv' := [some (.ref c0), some (.long x1), none, some (.int x3)]) (st' := [.int x3, .int (S.1 c0 2), .int x3, .long x1]) (S1 := S) rfl ?_
        refine ip_Ev.call (i := 41) (a := [.int (S.1 c0 2), .int x3]) (r := [.int x3, .long x1]) rfl (T_A_bit rfl) ?_
        show ip_Ev 45 34 [some (.ref c0), some (.long x1), none, some (.int x3)] [.int (f_A_bit (S.1 c0 2) x3), .int x3, .long x1] S _ _
        obtain ⟨zv4, hzq3, h⟩ := ip_bind h
        refine ip_Ev.call (i := 43) (a := [.int x3, .int (f_A_bit (S.1 c0 2) x3)]) (r := [.long x1]) rfl (T_A_where hzq3) ?_
        show ip_Ev 45 37 [some (.ref c0), some (.long x1), none, some (.int x3)] [.long zv4, .long x1] S _ _
        refine ip_Ev.steps 2 (pc' := 39) (lv' := [some (.ref c0), some (.long (x1 &&& zv4)), none, some (.int x3)]) (st' := []) (S1 := S) rfl ?_
        exact E_J_worlds_39 ih hc0 h
def f_J_worlds (p0 : Nat) (S : ip_St) : Option (Int64) := (f_J_worlds_6 ip_FU p0 (-1) 0 S)
set_option maxRecDepth 10000 in
theorem T_J_worlds {p0 : Nat} {S : ip_St} {r : Int64} (hp0 : ip_ob p0 = some 1) (h : f_J_worlds p0 S = some r) : ip_Me 45 [.ref p0] S (some (.long r)) S := by
  unfold f_J_worlds at h
  refine ⟨[some (.ref p0), none, none, none], rfl, ?_⟩
  refine ip_Ev.steps 4 (pc' := 6) (lv' := [some (.ref p0), some (.long (-1)), none, some (.int 0)]) (st' := []) (S1 := S) rfl ?_
  exact E_J_worlds_6 ip_FU hp0 h
-- A_pinned
def f_A_pinned (p0 : Int64) (p1 : Int32) (p2 : Int32) : Option (Int64) := ((f_A_where p1 p2).bind fun zv2 => ((f_A_turned (p0 &&& zv2) p1).bind fun zv4 => some ((p0 &&& zv2) ||| zv4)))
set_option maxRecDepth 10000 in
theorem T_A_pinned {p0 : Int64} {p1 : Int32} {p2 : Int32} {S : ip_St} {r : Int64} (h : f_A_pinned p0 p1 p2 = some r) : ip_Me 46 [.long p0, .int p1, .int p2] S (some (.long r)) S := by
  unfold f_A_pinned at h
  refine ⟨[some (.long p0), none, some (.int p1), some (.int p2), none, none], rfl, ?_⟩
  refine ip_Ev.steps 3 (pc' := 3) (lv' := [some (.long p0), none, some (.int p1), some (.int p2), none, none]) (st' := [.int p2, .int p1, .long p0]) (S1 := S) rfl ?_
  obtain ⟨zv2, hzq1, h⟩ := ip_bind h
  refine ip_Ev.call (i := 43) (a := [.int p1, .int p2]) (r := [.long p0]) rfl (T_A_where hzq1) ?_
  show ip_Ev 46 6 [some (.long p0), none, some (.int p1), some (.int p2), none, none] [.long zv2, .long p0] S _ _
  refine ip_Ev.steps 5 (pc' := 14) (lv' := [some (.long p0), none, some (.int p1), some (.int p2), some (.long (p0 &&& zv2)), none]) (st' := [.int p1, .long (p0 &&& zv2), .long (p0 &&& zv2)]) (S1 := S) rfl ?_
  obtain ⟨zv4, hzq3, h⟩ := ip_bind h
  refine ip_Ev.call (i := 34) (a := [.long (p0 &&& zv2), .int p1]) (r := [.long (p0 &&& zv2)]) rfl (T_A_turned hzq3) ?_
  show ip_Ev 46 17 [some (.long p0), none, some (.int p1), some (.int p2), some (.long (p0 &&& zv2)), none] [.long zv4, .long (p0 &&& zv2)] S _ _
  refine ip_Ev.steps 1 (pc' := 18) (lv' := [some (.long p0), none, some (.int p1), some (.int p2), some (.long (p0 &&& zv2)), none]) (st' := [.long ((p0 &&& zv2) ||| zv4)]) (S1 := S) rfl ?_
  cases h
  exact ip_Ev.ret rfl
-- A_freed
def f_A_freed_5 : Nat → Int32 → Int64 → Int32 → Option (Int64)
  | 0, _, _, _ => none
  | n + 1, x0, x3, x5 => (if 6 ≤ x5 then some x3 else ((ip_cI 56 x0).bind fun zv2 => (if (f_A_bit zv2 x5) = 1 then ((ip_cI 57 x0).bind fun zv4 => ((f_A_pinned x3 x5 (f_A_bit zv4 x5)).bind fun zv6 => (f_A_freed_5 n x0 zv6 (x5 + 1)))) else (f_A_freed_5 n x0 x3 (x5 + 1)))))
set_option maxRecDepth 10000 in
theorem E_A_freed_5 : ∀ (n : Nat) {x0 : Int32} {x3 : Int64} {x5 : Int32} {S : ip_St} {r : Int64} {d1 : Option Value} {d2 : Option Value}, f_A_freed_5 n x0 x3 x5 = some r → ip_Ev 47 5 [some (.int x0), d1, d2, some (.long x3), none, some (.int x5)] [] S (some (.long r)) S := by
  intro n
  induction n with
  | zero =>
    intro x0 x3 x5 S r d1 d2 h
    cases h
  | succ n ih =>
    intro x0 x3 x5 S r d1 d2 h
    rw [f_A_freed_5] at h
    refine ip_Ev.steps 2 (pc' := 9) (lv' := [some (.int x0), d1, d2, some (.long x3), none, some (.int x5)]) (st' := [.int 6, .int x5]) (S1 := S) rfl ?_
    refine ip_Ev.iff2 rfl rfl ip_cGe (fun zhc1 => ?_) (fun zhc1 => ?_)
    · rw [if_pos zhc1] at h
      refine ip_Ev.steps 1 (pc' := 50) (lv' := [some (.int x0), d1, d2, some (.long x3), none, some (.int x5)]) (st' := [.long x3]) (S1 := S) rfl ?_
      cases h
      exact ip_Ev.ret rfl
    · rw [if_neg zhc1] at h
      refine ip_Ev.steps 2 (pc' := 16) (lv' := [some (.int x0), d1, d2, some (.long x3), none, some (.int x5)]) (st' := [.int x0, .ref 56]) (S1 := S) rfl ?_
      obtain ⟨zv2, hzv2, h⟩ := ip_bind h
      refine ip_Ev.iald rfl hzv2 ?_
      refine ip_Ev.steps 1 (pc' := 19) (lv' := [some (.int x0), d1, d2, some (.long x3), none, some (.int x5)]) (st' := [.int x5, .int zv2]) (S1 := S) rfl ?_
      refine ip_Ev.call (i := 41) (a := [.int zv2, .int x5]) (r := []) rfl (T_A_bit rfl) ?_
      show ip_Ev 47 22 [some (.int x0), d1, d2, some (.long x3), none, some (.int x5)] [.int (f_A_bit zv2 x5)] S _ _
      refine ip_Ev.steps 1 (pc' := 23) (lv' := [some (.int x0), d1, d2, some (.long x3), none, some (.int x5)]) (st' := [.int 1, .int (f_A_bit zv2 x5)]) (S1 := S) rfl ?_
      refine ip_Ev.iff2 rfl rfl ip_cNe (fun zhc3 => ?_) (fun zhc3 => ?_)
      · rw [if_neg zhc3] at h
        refine ip_Ev.steps 2 (pc' := 5) (lv' := [some (.int x0), d1, d2, some (.long x3), none, some (.int (x5 + 1))]) (st' := []) (S1 := S) rfl ?_
        exact ih h
      · rw [if_pos (Decidable.of_not_not zhc3)] at h
        refine ip_Ev.steps 4 (pc' := 33) (lv' := [some (.int x0), d1, d2, some (.long x3), none, some (.int x5)]) (st' := [.int x0, .ref 57, .int x5, .long x3]) (S1 := S) rfl ?_
        obtain ⟨zv4, hzv4, h⟩ := ip_bind h
        refine ip_Ev.iald rfl hzv4 ?_
        refine ip_Ev.steps 1 (pc' := 36) (lv' := [some (.int x0), d1, d2, some (.long x3), none, some (.int x5)]) (st' := [.int x5, .int zv4, .int x5, .long x3]) (S1 := S) rfl ?_
        refine ip_Ev.call (i := 41) (a := [.int zv4, .int x5]) (r := [.int x5, .long x3]) rfl (T_A_bit rfl) ?_
        show ip_Ev 47 39 [some (.int x0), d1, d2, some (.long x3), none, some (.int x5)] [.int (f_A_bit zv4 x5), .int x5, .long x3] S _ _
        obtain ⟨zv6, hzq5, h⟩ := ip_bind h
        refine ip_Ev.call (i := 46) (a := [.long x3, .int x5, .int (f_A_bit zv4 x5)]) (r := []) rfl (T_A_pinned hzq5) ?_
        show ip_Ev 47 42 [some (.int x0), d1, d2, some (.long x3), none, some (.int x5)] [.long zv6] S _ _
        refine ip_Ev.steps 3 (pc' := 5) (lv' := [some (.int x0), d1, (ip_kd d2), some (.long zv6), none, some (.int (x5 + 1))]) (st' := []) (S1 := S) rfl ?_
        exact ih h
def f_A_freed (p0 : Int32) (p1 : Int64) : Option (Int64) := (f_A_freed_5 ip_FU p0 p1 0)
set_option maxRecDepth 10000 in
theorem T_A_freed {p0 : Int32} {p1 : Int64} {S : ip_St} {r : Int64} (h : f_A_freed p0 p1 = some r) : ip_Me 47 [.int p0, .long p1] S (some (.long r)) S := by
  unfold f_A_freed at h
  refine ⟨[some (.int p0), some (.long p1), none, none, none, none], rfl, ?_⟩
  refine ip_Ev.steps 4 (pc' := 5) (lv' := [some (.int p0), some (.long p1), none, some (.long p1), none, some (.int 0)]) (st' := []) (S1 := S) rfl ?_
  exact E_A_freed_5 ip_FU h
-- A_strike
def f_A_strike_35 : Nat → Nat → Int64 → Int32 → Int32 → Int32 → ip_St → Option (Int32)
  | 0, _, _, _, _, _, _ => none
  | n + 1, c1, x2, x4, x5, x6, S => (if 6 ≤ x6 then some x4 else ((f_A_pinned (S.2 17 0) x6 0).bind fun zv3 => ((f_A_freed (S.1 c1 0) zv3).bind fun zv5 => (if (f_G_bitCount (x2 &&& zv5)) ≤ x5 then (f_A_strike_35 n c1 x2 x4 x5 (x6 + 1) S) else (f_A_strike_35 n c1 x2 x6 (f_G_bitCount (x2 &&& zv5)) (x6 + 1) S)))))
set_option maxRecDepth 10000 in
theorem E_A_strike_35 : ∀ (n : Nat) {c1 : Nat} {x2 : Int64} {x4 : Int32} {x5 : Int32} {x6 : Int32} {S : ip_St} {r : Int32} {d7 : Option Value} {d8 : Option Value} {d9 : Option Value}, ip_ob c1 = some 1 → f_A_strike_35 n c1 x2 x4 x5 x6 S = some r → ip_Ev 61 35 [some (.ref 0), some (.ref c1), some (.long x2), none, some (.int x4), some (.int x5), some (.int x6), d7, d8, d9] [] S (some (.int r)) S := by
  intro n
  induction n with
  | zero =>
    intro c1 x2 x4 x5 x6 S r d7 d8 d9 hc1 h
    cases h
  | succ n ih =>
    intro c1 x2 x4 x5 x6 S r d7 d8 d9 hc1 h
    rw [f_A_strike_35] at h
    refine ip_Ev.steps 2 (pc' := 39) (lv' := [some (.ref 0), some (.ref c1), some (.long x2), none, some (.int x4), some (.int x5), some (.int x6), d7, d8, d9]) (st' := [.int 6, .int x6]) (S1 := S) rfl ?_
    refine ip_Ev.iff2 rfl rfl ip_cGe (fun zhc1 => ?_) (fun zhc1 => ?_)
    · rw [if_pos zhc1] at h
      refine ip_Ev.steps 1 (pc' := 99) (lv' := [some (.ref 0), some (.ref c1), some (.long x2), none, some (.int x4), some (.int x5), some (.int x6), d7, d8, d9]) (st' := [.int x4]) (S1 := S) rfl ?_
      cases h
      exact ip_Ev.ret rfl
    · rw [if_neg zhc1] at h
      refine ip_Ev.steps 1 (pc' := 43) (lv' := [some (.ref 0), some (.ref c1), some (.long x2), none, some (.int x4), some (.int x5), some (.int x6), d7, d8, d9]) (st' := [.ref c1]) (S1 := S) rfl ?_
      refine ip_Ev.gfI rfl rfl hc1 (by decide) ?_
      refine ip_Ev.steps 6 (pc' := 59) (lv' := [some (.ref 0), some (.ref c1), some (.long x2), none, some (.int x4), some (.int x5), some (.int x6), d7, d8, d9]) (st' := [.int 0, .int x6, .long (S.2 17 0), .int (S.1 c1 0)]) (S1 := S) rfl ?_
      obtain ⟨zv3, hzq2, h⟩ := ip_bind h
      refine ip_Ev.call (i := 46) (a := [.long (S.2 17 0), .int x6, .int 0]) (r := [.int (S.1 c1 0)]) rfl (T_A_pinned hzq2) ?_
      show ip_Ev 61 62 [some (.ref 0), some (.ref c1), some (.long x2), none, some (.int x4), some (.int x5), some (.int x6), d7, d8, d9] [.long zv3, .int (S.1 c1 0)] S _ _
      obtain ⟨zv5, hzq4, h⟩ := ip_bind h
      refine ip_Ev.call (i := 47) (a := [.int (S.1 c1 0), .long zv3]) (r := []) rfl (T_A_freed hzq4) ?_
      show ip_Ev 61 65 [some (.ref 0), some (.ref c1), some (.long x2), none, some (.int x4), some (.int x5), some (.int x6), d7, d8, d9] [.long zv5] S _ _
      refine ip_Ev.steps 4 (pc' := 71) (lv' := [some (.ref 0), some (.ref c1), some (.long x2), none, some (.int x4), some (.int x5), some (.int x6), some (.long zv5), none, d9]) (st' := [.long (x2 &&& zv5)]) (S1 := S) rfl ?_
      refine ip_Ev.call (i := 31) (a := [.long (x2 &&& zv5)]) (r := []) rfl (T_G_bitCount rfl) ?_
      show ip_Ev 61 74 [some (.ref 0), some (.ref c1), some (.long x2), none, some (.int x4), some (.int x5), some (.int x6), some (.long zv5), none, d9] [.int (f_G_bitCount (x2 &&& zv5))] S _ _
      refine ip_Ev.steps 3 (pc' := 80) (lv' := [some (.ref 0), some (.ref c1), some (.long x2), none, some (.int x4), some (.int x5), some (.int x6), some (.long zv5), none, some (.int (f_G_bitCount (x2 &&& zv5)))]) (st' := [.int x5, .int (f_G_bitCount (x2 &&& zv5))]) (S1 := S) rfl ?_
      refine ip_Ev.iff2 rfl rfl ip_cLe (fun zhc6 => ?_) (fun zhc6 => ?_)
      · rw [if_pos zhc6] at h
        refine ip_Ev.steps 2 (pc' := 35) (lv' := [some (.ref 0), some (.ref c1), some (.long x2), none, some (.int x4), some (.int x5), some (.int (x6 + 1)), some (.long zv5), none, some (.int (f_G_bitCount (x2 &&& zv5)))]) (st' := []) (S1 := S) rfl ?_
        exact ih hc1 h
      · rw [if_neg zhc6] at h
        refine ip_Ev.steps 6 (pc' := 35) (lv' := [some (.ref 0), some (.ref c1), some (.long x2), none, some (.int x6), some (.int (f_G_bitCount (x2 &&& zv5))), some (.int (x6 + 1)), some (.long zv5), none, some (.int (f_G_bitCount (x2 &&& zv5)))]) (st' := []) (S1 := S) rfl ?_
        exact ih hc1 h
def f_A_strike (p1 : Nat) (S : ip_St) : Option (Int32) := ((f_J_worlds p1 S).bind fun zv2 => ((f_A_freed (S.1 p1 0) (S.2 17 0)).bind fun zv4 => (f_A_strike_35 ip_FU p1 zv2 (-1) (f_G_bitCount (zv2 &&& zv4)) 0 S)))
set_option maxRecDepth 10000 in
theorem T_A_strike {p1 : Nat} {S : ip_St} {r : Int32} (hp1 : ip_ob p1 = some 1) (h : f_A_strike p1 S = some r) : ip_Me 61 [.ref 0, .ref p1] S (some (.int r)) S := by
  unfold f_A_strike at h
  refine ⟨[some (.ref 0), some (.ref p1), none, none, none, none, none, none, none, none], rfl, ?_⟩
  refine ip_Ev.steps 1 (pc' := 1) (lv' := [some (.ref 0), some (.ref p1), none, none, none, none, none, none, none, none]) (st' := [.ref p1]) (S1 := S) rfl ?_
  obtain ⟨zv2, hzq1, h⟩ := ip_bind h
  refine ip_Ev.callJ (i := 45) (b := p1) (a := []) (r := []) rfl rfl rfl rfl hp1 rfl rfl (T_J_worlds hp1 hzq1) ?_
  show ip_Ev 61 4 [some (.ref 0), some (.ref p1), none, none, none, none, none, none, none, none] [.long zv2] S _ _
  refine ip_Ev.steps 5 (pc' := 10) (lv' := [some (.ref 0), some (.ref p1), some (.long zv2), none, some (.int (-1)), none, none, none, none, none]) (st' := [.ref p1, .long zv2]) (S1 := S) rfl ?_
  refine ip_Ev.gfI rfl rfl hp1 (by decide) ?_
  refine ip_Ev.steps 4 (pc' := 23) (lv' := [some (.ref 0), some (.ref p1), some (.long zv2), none, some (.int (-1)), none, none, none, none, none]) (st' := [.long (S.2 17 0), .int (S.1 p1 0), .long zv2]) (S1 := S) rfl ?_
  obtain ⟨zv4, hzq3, h⟩ := ip_bind h
  refine ip_Ev.call (i := 47) (a := [.int (S.1 p1 0), .long (S.2 17 0)]) (r := [.long zv2]) rfl (T_A_freed hzq3) ?_
  show ip_Ev 61 26 [some (.ref 0), some (.ref p1), some (.long zv2), none, some (.int (-1)), none, none, none, none, none] [.long zv4, .long zv2] S _ _
  refine ip_Ev.steps 1 (pc' := 27) (lv' := [some (.ref 0), some (.ref p1), some (.long zv2), none, some (.int (-1)), none, none, none, none, none]) (st' := [.long (zv2 &&& zv4)]) (S1 := S) rfl ?_
  refine ip_Ev.call (i := 31) (a := [.long (zv2 &&& zv4)]) (r := []) rfl (T_G_bitCount rfl) ?_
  show ip_Ev 61 30 [some (.ref 0), some (.ref p1), some (.long zv2), none, some (.int (-1)), none, none, none, none, none] [.int (f_G_bitCount (zv2 &&& zv4))] S _ _
  refine ip_Ev.steps 3 (pc' := 35) (lv' := [some (.ref 0), some (.ref p1), some (.long zv2), none, some (.int (-1)), some (.int (f_G_bitCount (zv2 &&& zv4))), some (.int 0), none, none, none]) (st' := []) (S1 := S) rfl ?_
  exact E_A_strike_35 ip_FU hp1 h
-- A_sureWays
def f_A_sureWays_12 : Nat → Int64 → Int32 → Int64 → Int32 → Option (Int64)
  | 0, _, _, _, _ => none
  | n + 1, x0, x4, x5, x7 => (if 6 ≤ x7 then some (x0 &&& (x5 ^^^ (-1))) else (if (f_A_bit x4 x7) = 0 then ((f_A_turned x5 x7).bind fun zv4 => (f_A_sureWays_12 n x0 x4 (x5 ||| zv4) (x7 + 1))) else (f_A_sureWays_12 n x0 x4 x5 (x7 + 1))))
set_option maxRecDepth 10000 in
theorem E_A_sureWays_12 : ∀ (n : Nat) {x0 : Int64} {x4 : Int32} {x5 : Int64} {x7 : Int32} {S : ip_St} {r : Int64} {d2 : Option Value} {d3 : Option Value}, f_A_sureWays_12 n x0 x4 x5 x7 = some r → ip_Ev 59 12 [some (.long x0), none, d2, d3, some (.int x4), some (.long x5), none, some (.int x7)] [] S (some (.long r)) S := by
  intro n
  induction n with
  | zero =>
    intro x0 x4 x5 x7 S r d2 d3 h
    cases h
  | succ n ih =>
    intro x0 x4 x5 x7 S r d2 d3 h
    rw [f_A_sureWays_12] at h
    refine ip_Ev.steps 2 (pc' := 16) (lv' := [some (.long x0), none, d2, d3, some (.int x4), some (.long x5), none, some (.int x7)]) (st' := [.int 6, .int x7]) (S1 := S) rfl ?_
    refine ip_Ev.iff2 rfl rfl ip_cGe (fun zhc1 => ?_) (fun zhc1 => ?_)
    · rw [if_pos zhc1] at h
      refine ip_Ev.steps 5 (pc' := 55) (lv' := [some (.long x0), none, d2, d3, some (.int x4), some (.long x5), none, some (.int x7)]) (st' := [.long (x0 &&& (x5 ^^^ (-1)))]) (S1 := S) rfl ?_
      cases h
      exact ip_Ev.ret rfl
    · rw [if_neg zhc1] at h
      refine ip_Ev.steps 2 (pc' := 23) (lv' := [some (.long x0), none, d2, d3, some (.int x4), some (.long x5), none, some (.int x7)]) (st' := [.int x7, .int x4]) (S1 := S) rfl ?_
      refine ip_Ev.call (i := 41) (a := [.int x4, .int x7]) (r := []) rfl (T_A_bit rfl) ?_
      show ip_Ev 59 26 [some (.long x0), none, d2, d3, some (.int x4), some (.long x5), none, some (.int x7)] [.int (f_A_bit x4 x7)] S _ _
      refine ip_Ev.iff1 rfl rfl ip_cNe (fun zhc2 => ?_) (fun zhc2 => ?_)
      · rw [if_neg zhc2] at h
        refine ip_Ev.steps 2 (pc' := 12) (lv' := [some (.long x0), none, d2, d3, some (.int x4), some (.long x5), none, some (.int (x7 + 1))]) (st' := []) (S1 := S) rfl ?_
        exact ih h
      · rw [if_pos (Decidable.of_not_not zhc2)] at h
        refine ip_Ev.steps 3 (pc' := 35) (lv' := [some (.long x0), none, d2, d3, some (.int x4), some (.long x5), none, some (.int x7)]) (st' := [.int x7, .long x5, .long x5]) (S1 := S) rfl ?_
        obtain ⟨zv4, hzq3, h⟩ := ip_bind h
        refine ip_Ev.call (i := 34) (a := [.long x5, .int x7]) (r := [.long x5]) rfl (T_A_turned hzq3) ?_
        show ip_Ev 59 38 [some (.long x0), none, d2, d3, some (.int x4), some (.long x5), none, some (.int x7)] [.long zv4, .long x5] S _ _
        refine ip_Ev.steps 4 (pc' := 12) (lv' := [some (.long x0), none, d2, d3, some (.int x4), some (.long (x5 ||| zv4)), none, some (.int (x7 + 1))]) (st' := []) (S1 := S) rfl ?_
        exact ih h
def f_A_sureWays (p0 : Int64) (p1 : Int64) (p2 : Int32) : Option (Int64) := (f_A_sureWays_12 ip_FU p0 p2 (p0 &&& (p1 ^^^ (-1))) 0)
set_option maxRecDepth 10000 in
theorem T_A_sureWays {p0 : Int64} {p1 : Int64} {p2 : Int32} {S : ip_St} {r : Int64} (h : f_A_sureWays p0 p1 p2 = some r) : ip_Me 59 [.long p0, .long p1, .int p2] S (some (.long r)) S := by
  unfold f_A_sureWays at h
  refine ⟨[some (.long p0), none, some (.long p1), none, some (.int p2), none, none, none], rfl, ?_⟩
  refine ip_Ev.steps 8 (pc' := 12) (lv' := [some (.long p0), none, some (.long p1), none, some (.int p2), some (.long (p0 &&& (p1 ^^^ (-1)))), none, some (.int 0)]) (st' := []) (S1 := S) rfl ?_
  exact E_A_sureWays_12 ip_FU h
-- A_luck
def f_A_luck_44 (k6 : Int32 → Int64 → Int64 → Int32 → Int32 → Option (Int32)) (x0 : Int32) (x1 : Int64) (x3 : Int64) (x5 : Int32) (x6 : Int32) (x7 : Int32) : Option (Int32) := ((f_A_sureWays x1 x3 x6).bind fun zv2 => (if zv2 = 0 then (k6 x0 x1 x3 x5 (x6 + 1)) else (k6 x0 x1 x3 x7 (x6 + 1))))
set_option maxRecDepth 10000 in
theorem E_A_luck_44 {k6 : Int32 → Int64 → Int64 → Int32 → Int32 → Option (Int32)} (hk6 : ∀ {x0 : Int32} {x1 : Int64} {x3 : Int64} {x5 : Int32} {x6 : Int32} {S : ip_St} {r : Int32} {d7 : Option Value}, k6 x0 x1 x3 x5 x6 = some r → ip_Ev 60 6 [some (.int x0), some (.long x1), none, some (.long x3), none, some (.int x5), some (.int x6), d7] [] S (some (.int r)) S) {x0 : Int32} {x1 : Int64} {x3 : Int64} {x5 : Int32} {x6 : Int32} {x7 : Int32} {S : ip_St} {r : Int32} (h : f_A_luck_44 k6 x0 x1 x3 x5 x6 x7 = some r) : ip_Ev 60 44 [some (.int x0), some (.long x1), none, some (.long x3), none, some (.int x5), some (.int x6), some (.int x7)] [] S (some (.int r)) S := by
  unfold f_A_luck_44 at h
  refine ip_Ev.steps 3 (pc' := 48) (lv' := [some (.int x0), some (.long x1), none, some (.long x3), none, some (.int x5), some (.int x6), some (.int x7)]) (st' := [.int x6, .long x3, .long x1]) (S1 := S) rfl ?_
  obtain ⟨zv2, hzq1, h⟩ := ip_bind h
  refine ip_Ev.call (i := 59) (a := [.long x1, .long x3, .int x6]) (r := []) rfl (T_A_sureWays hzq1) ?_
  show ip_Ev 60 51 [some (.int x0), some (.long x1), none, some (.long x3), none, some (.int x5), some (.int x6), some (.int x7)] [.long zv2] S _ _
  refine ip_Ev.steps 2 (pc' := 53) (lv' := [some (.int x0), some (.long x1), none, some (.long x3), none, some (.int x5), some (.int x6), some (.int x7)]) (st' := [.int (lg_cmp zv2 0)]) (S1 := S) rfl ?_
  refine ip_Ev.iff1 rfl rfl ip_lEq (fun zhc3 => ?_) (fun zhc3 => ?_)
  · rw [if_pos zhc3] at h
    refine ip_Ev.steps 2 (pc' := 6) (lv' := [some (.int x0), some (.long x1), none, some (.long x3), none, some (.int x5), some (.int (x6 + 1)), some (.int x7)]) (st' := []) (S1 := S) rfl ?_
    exact hk6 h
  · rw [if_neg zhc3] at h
    refine ip_Ev.steps 4 (pc' := 6) (lv' := [some (.int x0), some (.long x1), none, some (.long x3), none, some (.int x7), some (.int (x6 + 1)), some (.int x7)]) (st' := []) (S1 := S) rfl ?_
    exact hk6 h
def f_A_luck_6 : Nat → Int32 → Int64 → Int64 → Int32 → Int32 → Option (Int32)
  | 0, _, _, _, _, _ => none
  | n + 1, x0, x1, x3, x5, x6 => (if 64 ≤ x6 then some x5 else ((ip_cI 56 x0).bind fun zv2 => (if (x6 &&& zv2) = 0 then (if x5 = (-1) then (f_A_luck_44 (f_A_luck_6 n) x0 x1 x3 x5 x6 (f_I_bitCount x6)) else (if x5 ≤ (f_I_bitCount x6) then (f_A_luck_6 n x0 x1 x3 x5 (x6 + 1)) else (f_A_luck_44 (f_A_luck_6 n) x0 x1 x3 x5 x6 (f_I_bitCount x6)))) else (f_A_luck_6 n x0 x1 x3 x5 (x6 + 1)))))
set_option maxRecDepth 10000 in
theorem E_A_luck_6 : ∀ (n : Nat) {x0 : Int32} {x1 : Int64} {x3 : Int64} {x5 : Int32} {x6 : Int32} {S : ip_St} {r : Int32} {d7 : Option Value}, f_A_luck_6 n x0 x1 x3 x5 x6 = some r → ip_Ev 60 6 [some (.int x0), some (.long x1), none, some (.long x3), none, some (.int x5), some (.int x6), d7] [] S (some (.int r)) S := by
  intro n
  induction n with
  | zero =>
    intro x0 x1 x3 x5 x6 S r d7 h
    cases h
  | succ n ih =>
    intro x0 x1 x3 x5 x6 S r d7 h
    rw [f_A_luck_6] at h
    refine ip_Ev.steps 2 (pc' := 10) (lv' := [some (.int x0), some (.long x1), none, some (.long x3), none, some (.int x5), some (.int x6), d7]) (st' := [.int 64, .int x6]) (S1 := S) rfl ?_
    refine ip_Ev.iff2 rfl rfl ip_cGe (fun zhc1 => ?_) (fun zhc1 => ?_)
    · rw [if_pos zhc1] at h
      refine ip_Ev.steps 1 (pc' := 68) (lv' := [some (.int x0), some (.long x1), none, some (.long x3), none, some (.int x5), some (.int x6), d7]) (st' := [.int x5]) (S1 := S) rfl ?_
      cases h
      exact ip_Ev.ret rfl
    · rw [if_neg zhc1] at h
      refine ip_Ev.steps 1 (pc' := 15) (lv' := [some (.int x0), some (.long x1), none, some (.long x3), none, some (.int x5), some (.int x6), d7]) (st' := [.int x6]) (S1 := S) rfl ?_
      refine ip_Ev.call (i := 58) (a := [.int x6]) (r := []) rfl (T_I_bitCount rfl) ?_
      show ip_Ev 60 18 [some (.int x0), some (.long x1), none, some (.long x3), none, some (.int x5), some (.int x6), d7] [.int (f_I_bitCount x6)] S _ _
      refine ip_Ev.steps 4 (pc' := 26) (lv' := [some (.int x0), some (.long x1), none, some (.long x3), none, some (.int x5), some (.int x6), some (.int (f_I_bitCount x6))]) (st' := [.int x0, .ref 56, .int x6]) (S1 := S) rfl ?_
      obtain ⟨zv2, hzv2, h⟩ := ip_bind h
      refine ip_Ev.iald rfl hzv2 ?_
      refine ip_Ev.steps 1 (pc' := 28) (lv' := [some (.int x0), some (.long x1), none, some (.long x3), none, some (.int x5), some (.int x6), some (.int (f_I_bitCount x6))]) (st' := [.int (x6 &&& zv2)]) (S1 := S) rfl ?_
      refine ip_Ev.iff1 rfl rfl ip_cNe (fun zhc3 => ?_) (fun zhc3 => ?_)
      · rw [if_neg zhc3] at h
        refine ip_Ev.steps 2 (pc' := 6) (lv' := [some (.int x0), some (.long x1), none, some (.long x3), none, some (.int x5), some (.int (x6 + 1)), some (.int (f_I_bitCount x6))]) (st' := []) (S1 := S) rfl ?_
        exact ih h
      · rw [if_pos (Decidable.of_not_not zhc3)] at h
        refine ip_Ev.steps 2 (pc' := 34) (lv' := [some (.int x0), some (.long x1), none, some (.long x3), none, some (.int x5), some (.int x6), some (.int (f_I_bitCount x6))]) (st' := [.int (-1), .int x5]) (S1 := S) rfl ?_
        refine ip_Ev.iff2 rfl rfl ip_cEq (fun zhc4 => ?_) (fun zhc4 => ?_)
        · rw [if_pos zhc4] at h
          exact E_A_luck_44 ih h
        · rw [if_neg zhc4] at h
          refine ip_Ev.steps 2 (pc' := 41) (lv' := [some (.int x0), some (.long x1), none, some (.long x3), none, some (.int x5), some (.int x6), some (.int (f_I_bitCount x6))]) (st' := [.int x5, .int (f_I_bitCount x6)]) (S1 := S) rfl ?_
          refine ip_Ev.iff2 rfl rfl ip_cGe (fun zhc5 => ?_) (fun zhc5 => ?_)
          · rw [if_pos zhc5] at h
            refine ip_Ev.steps 2 (pc' := 6) (lv' := [some (.int x0), some (.long x1), none, some (.long x3), none, some (.int x5), some (.int (x6 + 1)), some (.int (f_I_bitCount x6))]) (st' := []) (S1 := S) rfl ?_
            exact ih h
          · rw [if_neg zhc5] at h
            exact E_A_luck_44 ih h
def f_A_luck (p0 : Int32) (p1 : Int64) (p2 : Int64) : Option (Int32) := (f_A_luck_6 ip_FU p0 p1 p2 (-1) 0)
set_option maxRecDepth 10000 in
theorem T_A_luck {p0 : Int32} {p1 : Int64} {p2 : Int64} {S : ip_St} {r : Int32} (h : f_A_luck p0 p1 p2 = some r) : ip_Me 60 [.int p0, .long p1, .long p2] S (some (.int r)) S := by
  unfold f_A_luck at h
  refine ⟨[some (.int p0), some (.long p1), none, some (.long p2), none, none, none, none], rfl, ?_⟩
  refine ip_Ev.steps 4 (pc' := 6) (lv' := [some (.int p0), some (.long p1), none, some (.long p2), none, some (.int (-1)), some (.int 0), none]) (st' := []) (S1 := S) rfl ?_
  exact E_A_luck_6 ip_FU h
-- P_isFor
def f_P_isFor (p1 : Int32) (p2 : Int64) (p3 : Int64) (S : ip_St) : Bool := (if p1 = (S.1 26 2) then (if p2 = (S.2 26 3) then (if p3 = (S.2 26 4) then true else false) else false) else false)
set_option maxRecDepth 10000 in
theorem T_P_isFor {p1 : Int32} {p2 : Int64} {p3 : Int64} {S : ip_St} {r : Bool} (h : f_P_isFor p1 p2 p3 S = r) : ip_Me 50 [.ref 26, .int p1, .long p2, .long p3] S (some (.int (ip_b2i r))) S := by
  unfold f_P_isFor at h
  refine ⟨[some (.ref 26), some (.int p1), some (.long p2), none, some (.long p3), none], rfl, ?_⟩
  refine ip_Ev.steps 3 (pc' := 5) (lv' := [some (.ref 26), some (.int p1), some (.long p2), none, some (.long p3), none]) (st' := [.int (S.1 26 2), .int p1]) (S1 := S) rfl ?_
  refine ip_Ev.iff2 rfl rfl ip_cNe (fun zhc1 => ?_) (fun zhc1 => ?_)
  · rw [if_neg zhc1] at h
    refine ip_Ev.steps 1 (pc' := 32) (lv' := [some (.ref 26), some (.int p1), some (.long p2), none, some (.long p3), none]) (st' := [.int 0]) (S1 := S) rfl ?_
    cases h
    exact ip_Ev.retB (b := false) rfl rfl
  · rw [if_pos (Decidable.of_not_not zhc1)] at h
    refine ip_Ev.steps 4 (pc' := 14) (lv' := [some (.ref 26), some (.int p1), some (.long p2), none, some (.long p3), none]) (st' := [.int (lg_cmp p2 (S.2 26 3))]) (S1 := S) rfl ?_
    refine ip_Ev.iff1 rfl rfl ip_lNe (fun zhc2 => ?_) (fun zhc2 => ?_)
    · rw [if_neg zhc2] at h
      refine ip_Ev.steps 1 (pc' := 32) (lv' := [some (.ref 26), some (.int p1), some (.long p2), none, some (.long p3), none]) (st' := [.int 0]) (S1 := S) rfl ?_
      cases h
      exact ip_Ev.retB (b := false) rfl rfl
    · rw [if_pos (Decidable.of_not_not zhc2)] at h
      refine ip_Ev.steps 4 (pc' := 24) (lv' := [some (.ref 26), some (.int p1), some (.long p2), none, some (.long p3), none]) (st' := [.int (lg_cmp p3 (S.2 26 4))]) (S1 := S) rfl ?_
      refine ip_Ev.iff1 rfl rfl ip_lNe (fun zhc3 => ?_) (fun zhc3 => ?_)
      · rw [if_neg zhc3] at h
        refine ip_Ev.steps 1 (pc' := 32) (lv' := [some (.ref 26), some (.int p1), some (.long p2), none, some (.long p3), none]) (st' := [.int 0]) (S1 := S) rfl ?_
        cases h
        exact ip_Ev.retB (b := false) rfl rfl
      · rw [if_pos (Decidable.of_not_not zhc3)] at h
        refine ip_Ev.steps 2 (pc' := 32) (lv' := [some (.ref 26), some (.int p1), some (.long p2), none, some (.long p3), none]) (st' := [.int 1]) (S1 := S) rfl ?_
        cases h
        exact ip_Ev.retB (b := true) rfl rfl
-- P_spread
def f_P_spread_71 (k30 : Int32 → Int64 → Int32 → ip_St → Option (ip_St)) : Nat → Int32 → Int64 → Int32 → Int64 → Int32 → ip_St → Option (ip_St)
  | 0, _, _, _, _, _, _ => none
  | n + 1, x1, x2, x4, x5, x7, S => (if (S.1 26 9) ≤ x7 then ((ip_wI S 27 (S.1 26 6) x4).bind fun zS2 => (k30 x1 x2 (x4 + 1) (ip_upI (ip_upI zS2 26 6 ((zS2.1 26 6) + 1)) 26 9 (((ip_upI zS2 26 6 ((zS2.1 26 6) + 1)).1 26 9) * 3)))) else ((ip_aL S 28 x7).bind fun zv3 => ((ip_wL S 28 (x7 + (S.1 26 9)) (zv3 &&& (x5 ^^^ (-1)))).bind fun zS4 => ((ip_aL zS4 28 x7).bind fun zv5 => ((ip_wL zS4 28 (x7 + (2 * (zS4.1 26 9))) (zv5 &&& x5)).bind fun zS6 => (f_P_spread_71 k30 n x1 x2 x4 x5 (x7 + 1) zS6))))))
set_option maxRecDepth 10000 in
theorem E_P_spread_71 {k30 : Int32 → Int64 → Int32 → ip_St → Option (ip_St)} (hk30 : ∀ {x1 : Int32} {x2 : Int64} {x4 : Int32} {S : ip_St} {S9 : ip_St} {d5 : Option Value} {d6 : Option Value} {d7 : Option Value}, k30 x1 x2 x4 S = some S9 → ip_Ev 51 30 [some (.ref 26), some (.int x1), some (.long x2), none, some (.int x4), d5, d6, d7] [] S none S9) : ∀ (n : Nat) {x1 : Int32} {x2 : Int64} {x4 : Int32} {x5 : Int64} {x7 : Int32} {S : ip_St} {S9 : ip_St}, f_P_spread_71 k30 n x1 x2 x4 x5 x7 S = some S9 → ip_Ev 51 71 [some (.ref 26), some (.int x1), some (.long x2), none, some (.int x4), some (.long x5), none, some (.int x7)] [] S none S9 := by
  intro n
  induction n with
  | zero =>
    intro x1 x2 x4 x5 x7 S S9 h
    cases h
  | succ n ih =>
    intro x1 x2 x4 x5 x7 S S9 h
    rw [f_P_spread_71] at h
    refine ip_Ev.steps 3 (pc' := 77) (lv' := [some (.ref 26), some (.int x1), some (.long x2), none, some (.int x4), some (.long x5), none, some (.int x7)]) (st' := [.int (S.1 26 9), .int x7]) (S1 := S) rfl ?_
    refine ip_Ev.iff2 rfl rfl ip_cGe (fun zhc1 => ?_) (fun zhc1 => ?_)
    · rw [if_pos zhc1] at h
      refine ip_Ev.steps 5 (pc' := 146) (lv' := [some (.ref 26), some (.int x1), some (.long x2), none, some (.int x4), some (.long x5), none, some (.int x7)]) (st' := [.int x4, .int (S.1 26 6), .ref 27]) (S1 := S) rfl ?_
      obtain ⟨zS2, hzS2, h⟩ := ip_bind h
      refine ip_Ev.iast rfl hzS2 ?_
      refine ip_Ev.steps 12 (pc' := 167) (lv' := [some (.ref 26), some (.int x1), some (.long x2), none, some (.int x4), some (.long x5), none, some (.int x7)]) (st' := []) (S1 := (ip_upI (ip_upI zS2 26 6 ((zS2.1 26 6) + 1)) 26 9 (((ip_upI zS2 26 6 ((zS2.1 26 6) + 1)).1 26 9) * 3))) rfl ?_
      refine ip_Ev.steps 2 (pc' := 30) (lv' := [some (.ref 26), some (.int x1), some (.long x2), none, some (.int (x4 + 1)), some (.long x5), none, some (.int x7)]) (st' := []) (S1 := (ip_upI (ip_upI zS2 26 6 ((zS2.1 26 6) + 1)) 26 9 (((ip_upI zS2 26 6 ((zS2.1 26 6) + 1)).1 26 9) * 3))) rfl ?_
      exact hk30 h
    · rw [if_neg zhc1] at h
      refine ip_Ev.steps 9 (pc' := 97) (lv' := [some (.ref 26), some (.int x1), some (.long x2), none, some (.int x4), some (.long x5), none, some (.int x7)]) (st' := [.int x7, .ref 28, .int (x7 + (S.1 26 9)), .ref 28]) (S1 := S) rfl ?_
      obtain ⟨zv3, hzv3, h⟩ := ip_bind h
      refine ip_Ev.lald rfl hzv3 ?_
      refine ip_Ev.steps 4 (pc' := 105) (lv' := [some (.ref 26), some (.int x1), some (.long x2), none, some (.int x4), some (.long x5), none, some (.int x7)]) (st' := [.long (zv3 &&& (x5 ^^^ (-1))), .int (x7 + (S.1 26 9)), .ref 28]) (S1 := S) rfl ?_
      obtain ⟨zS4, hzS4, h⟩ := ip_bind h
      refine ip_Ev.last rfl hzS4 ?_
      refine ip_Ev.steps 11 (pc' := 125) (lv' := [some (.ref 26), some (.int x1), some (.long x2), none, some (.int x4), some (.long x5), none, some (.int x7)]) (st' := [.int x7, .ref 28, .int (x7 + (2 * (zS4.1 26 9))), .ref 28]) (S1 := zS4) rfl ?_
      obtain ⟨zv5, hzv5, h⟩ := ip_bind h
      refine ip_Ev.lald rfl hzv5 ?_
      refine ip_Ev.steps 2 (pc' := 129) (lv' := [some (.ref 26), some (.int x1), some (.long x2), none, some (.int x4), some (.long x5), none, some (.int x7)]) (st' := [.long (zv5 &&& x5), .int (x7 + (2 * (zS4.1 26 9))), .ref 28]) (S1 := zS4) rfl ?_
      obtain ⟨zS6, hzS6, h⟩ := ip_bind h
      refine ip_Ev.last rfl hzS6 ?_
      refine ip_Ev.steps 2 (pc' := 71) (lv' := [some (.ref 26), some (.int x1), some (.long x2), none, some (.int x4), some (.long x5), none, some (.int (x7 + 1))]) (st' := []) (S1 := zS6) rfl ?_
      exact ih h
def f_P_spread_30 : Nat → Int32 → Int64 → Int32 → ip_St → Option (ip_St)
  | 0, _, _, _, _ => none
  | n + 1, x1, x2, x4, S => (if 6 ≤ x4 then some S else ((f_A_whereSaid x1 x4 1).bind fun zv3 => (if (x2 &&& zv3) = 0 then (f_P_spread_30 n x1 x2 (x4 + 1) S) else (if (x2 &&& (zv3 ^^^ (-1))) = 0 then (f_P_spread_30 n x1 x2 (x4 + 1) S) else (f_P_spread_71 (f_P_spread_30 n) ip_FU x1 x2 x4 zv3 0 S)))))
set_option maxRecDepth 10000 in
theorem E_P_spread_30 : ∀ (n : Nat) {x1 : Int32} {x2 : Int64} {x4 : Int32} {S : ip_St} {S9 : ip_St} {d5 : Option Value} {d6 : Option Value} {d7 : Option Value}, f_P_spread_30 n x1 x2 x4 S = some S9 → ip_Ev 51 30 [some (.ref 26), some (.int x1), some (.long x2), none, some (.int x4), d5, d6, d7] [] S none S9 := by
  intro n
  induction n with
  | zero =>
    intro x1 x2 x4 S S9 d5 d6 d7 h
    cases h
  | succ n ih =>
    intro x1 x2 x4 S S9 d5 d6 d7 h
    rw [f_P_spread_30] at h
    refine ip_Ev.steps 2 (pc' := 34) (lv' := [some (.ref 26), some (.int x1), some (.long x2), none, some (.int x4), d5, d6, d7]) (st' := [.int 6, .int x4]) (S1 := S) rfl ?_
    refine ip_Ev.iff2 rfl rfl ip_cGe (fun zhc1 => ?_) (fun zhc1 => ?_)
    · rw [if_pos zhc1] at h
      cases h
      exact ip_Ev.ret rfl
    · rw [if_neg zhc1] at h
      refine ip_Ev.steps 3 (pc' := 41) (lv' := [some (.ref 26), some (.int x1), some (.long x2), none, some (.int x4), d5, d6, d7]) (st' := [.int 1, .int x4, .int x1]) (S1 := S) rfl ?_
      obtain ⟨zv3, hzq2, h⟩ := ip_bind h
      refine ip_Ev.call (i := 44) (a := [.int x1, .int x4, .int 1]) (r := []) rfl (T_A_whereSaid hzq2) ?_
      show ip_Ev 51 44 [some (.ref 26), some (.int x1), some (.long x2), none, some (.int x4), d5, d6, d7] [.long zv3] S _ _
      refine ip_Ev.steps 6 (pc' := 52) (lv' := [some (.ref 26), some (.int x1), some (.long x2), none, some (.int x4), some (.long zv3), none, d7]) (st' := [.int (lg_cmp (x2 &&& zv3) 0)]) (S1 := S) rfl ?_
      refine ip_Ev.iff1 rfl rfl ip_lEq (fun zhc4 => ?_) (fun zhc4 => ?_)
      · rw [if_pos zhc4] at h
        refine ip_Ev.steps 2 (pc' := 30) (lv' := [some (.ref 26), some (.int x1), some (.long x2), none, some (.int (x4 + 1)), some (.long zv3), none, d7]) (st' := []) (S1 := S) rfl ?_
        exact ih h
      · rw [if_neg zhc4] at h
        refine ip_Ev.steps 7 (pc' := 65) (lv' := [some (.ref 26), some (.int x1), some (.long x2), none, some (.int x4), some (.long zv3), none, d7]) (st' := [.int (lg_cmp (x2 &&& (zv3 ^^^ (-1))) 0)]) (S1 := S) rfl ?_
        refine ip_Ev.iff1 rfl rfl ip_lEq (fun zhc5 => ?_) (fun zhc5 => ?_)
        · rw [if_pos zhc5] at h
          refine ip_Ev.steps 2 (pc' := 30) (lv' := [some (.ref 26), some (.int x1), some (.long x2), none, some (.int (x4 + 1)), some (.long zv3), none, d7]) (st' := []) (S1 := S) rfl ?_
          exact ih h
        · rw [if_neg zhc5] at h
          refine ip_Ev.steps 2 (pc' := 71) (lv' := [some (.ref 26), some (.int x1), some (.long x2), none, some (.int x4), some (.long zv3), none, some (.int 0)]) (st' := []) (S1 := S) rfl ?_
          exact E_P_spread_71 ih ip_FU h
def f_P_spread (p1 : Int32) (p2 : Int64) (S : ip_St) : Option (ip_St) := ((ip_wL (ip_upL (ip_upI S 26 2 p1) 26 3 p2) 28 0 p2).bind fun zS1 => (f_P_spread_30 ip_FU p1 p2 0 (ip_upI (ip_upI zS1 26 9 1) 26 6 0)))
set_option maxRecDepth 10000 in
theorem T_P_spread {p1 : Int32} {p2 : Int64} {S : ip_St} {S9 : ip_St} (h : f_P_spread p1 p2 S = some S9) : ip_Me 51 [.ref 26, .int p1, .long p2] S none S9 := by
  unfold f_P_spread at h
  refine ⟨[some (.ref 26), some (.int p1), some (.long p2), none, none, none, none, none], rfl, ?_⟩
  refine ip_Ev.steps 10 (pc' := 16) (lv' := [some (.ref 26), some (.int p1), some (.long p2), none, none, none, none, none]) (st' := [.long p2, .int 0, .ref 28]) (S1 := (ip_upL (ip_upI S 26 2 p1) 26 3 p2)) rfl ?_
  obtain ⟨zS1, hzS1, h⟩ := ip_bind h
  refine ip_Ev.last rfl hzS1 ?_
  refine ip_Ev.steps 8 (pc' := 30) (lv' := [some (.ref 26), some (.int p1), some (.long p2), none, some (.int 0), none, none, none]) (st' := []) (S1 := (ip_upI (ip_upI zS1 26 9 1) 26 6 0)) rfl ?_
  exact E_P_spread_30 ip_FU h
-- P_worstBehind
def f_P_worstBehind (p1 : Int32) (p2 : Int32) (S : ip_St) : Option (Int32) := ((ip_aI S 29 (p1 + p2)).bind fun zv1 => ((ip_aI S 29 (p1 + (2 * p2))).bind fun zv2 => (if zv1 ≤ zv2 then some zv2 else some zv1)))
set_option maxRecDepth 10000 in
theorem T_P_worstBehind {p1 : Int32} {p2 : Int32} {S : ip_St} {r : Int32} (h : f_P_worstBehind p1 p2 S = some r) : ip_Me 52 [.ref 26, .int p1, .int p2] S (some (.int r)) S := by
  unfold f_P_worstBehind at h
  refine ⟨[some (.ref 26), some (.int p1), some (.int p2), none, none], rfl, ?_⟩
  refine ip_Ev.steps 5 (pc' := 7) (lv' := [some (.ref 26), some (.int p1), some (.int p2), none, none]) (st' := [.int (p1 + p2), .ref 29]) (S1 := S) rfl ?_
  obtain ⟨zv1, hzv1, h⟩ := ip_bind h
  refine ip_Ev.iald rfl hzv1 ?_
  refine ip_Ev.steps 8 (pc' := 18) (lv' := [some (.ref 26), some (.int p1), some (.int p2), some (.int zv1), none]) (st' := [.int (p1 + (2 * p2)), .ref 29]) (S1 := S) rfl ?_
  obtain ⟨zv2, hzv2, h⟩ := ip_bind h
  refine ip_Ev.iald rfl hzv2 ?_
  refine ip_Ev.steps 3 (pc' := 24) (lv' := [some (.ref 26), some (.int p1), some (.int p2), some (.int zv1), some (.int zv2)]) (st' := [.int zv2, .int zv1]) (S1 := S) rfl ?_
  refine ip_Ev.iff2 rfl rfl ip_cLe (fun zhc3 => ?_) (fun zhc3 => ?_)
  · rw [if_pos zhc3] at h
    refine ip_Ev.steps 1 (pc' := 33) (lv' := [some (.ref 26), some (.int p1), some (.int p2), some (.int zv1), some (.int zv2)]) (st' := [.int zv2]) (S1 := S) rfl ?_
    cases h
    exact ip_Ev.ret rfl
  · rw [if_neg zhc3] at h
    refine ip_Ev.steps 2 (pc' := 33) (lv' := [some (.ref 26), some (.int p1), some (.int p2), some (.int zv1), some (.int zv2)]) (st' := [.int zv1]) (S1 := S) rfl ?_
    cases h
    exact ip_Ev.ret rfl
-- P_fewFrom
def f_P_fewFrom_11 : Nat → Int32 → Int32 → Int32 → Int32 → Int32 → ip_St → Option (Int32)
  | 0, _, _, _, _, _, _ => none
  | n + 1, x1, x2, x3, x4, x5, S => (if (S.1 26 6) ≤ x5 then some x2 else (if (ip_irem x3 3) = 0 then ((f_P_worstBehind x1 x4 S).bind fun zv4 => (f_P_fewFrom_11 n x1 (if (zv4 + 1) < x2 then (zv4 + 1) else x2) (x3 / 3) (x4 * 3) (x5 + 1) S)) else (f_P_fewFrom_11 n x1 x2 (x3 / 3) (x4 * 3) (x5 + 1) S)))
set_option maxRecDepth 10000 in
theorem E_P_fewFrom_11 : ∀ (n : Nat) {x1 : Int32} {x2 : Int32} {x3 : Int32} {x4 : Int32} {x5 : Int32} {S : ip_St} {r : Int32}, f_P_fewFrom_11 n x1 x2 x3 x4 x5 S = some r → ip_Ev 54 11 [some (.ref 26), some (.int x1), some (.int x2), some (.int x3), some (.int x4), some (.int x5)] [] S (some (.int r)) S := by
  intro n
  induction n with
  | zero =>
    intro x1 x2 x3 x4 x5 S r h
    cases h
  | succ n ih =>
    intro x1 x2 x3 x4 x5 S r h
    rw [f_P_fewFrom_11] at h
    refine ip_Ev.steps 3 (pc' := 17) (lv' := [some (.ref 26), some (.int x1), some (.int x2), some (.int x3), some (.int x4), some (.int x5)]) (st' := [.int (S.1 26 6), .int x5]) (S1 := S) rfl ?_
    refine ip_Ev.iff2 rfl rfl ip_cGe (fun zhc1 => ?_) (fun zhc1 => ?_)
    · rw [if_pos zhc1] at h
      refine ip_Ev.steps 1 (pc' := 57) (lv' := [some (.ref 26), some (.int x1), some (.int x2), some (.int x3), some (.int x4), some (.int x5)]) (st' := [.int x2]) (S1 := S) rfl ?_
      cases h
      exact ip_Ev.ret rfl
    · rw [if_neg zhc1] at h
      refine ip_Ev.steps 2 (pc' := 22) (lv' := [some (.ref 26), some (.int x1), some (.int x2), some (.int x3), some (.int x4), some (.int x5)]) (st' := [.int 3, .int x3]) (S1 := S) rfl ?_
      refine ip_Ev.irem rfl (by decide) ?_
      show ip_Ev 54 23 [some (.ref 26), some (.int x1), some (.int x2), some (.int x3), some (.int x4), some (.int x5)] [.int (ip_irem x3 3)] S _ _
      refine ip_Ev.iff1 rfl rfl ip_cNe (fun zhc2 => ?_) (fun zhc2 => ?_)
      · rw [if_neg zhc2] at h
        refine ip_Ev.steps 2 (pc' := 42) (lv' := [some (.ref 26), some (.int x1), some (.int x2), some (.int x3), some (.int x4), some (.int x5)]) (st' := [.int 3, .int x3]) (S1 := S) rfl ?_
        refine ip_Ev.idiv rfl (by decide) ?_
        refine ip_Ev.steps 7 (pc' := 11) (lv' := [some (.ref 26), some (.int x1), some (.int x2), some (.int (x3 / 3)), some (.int (x4 * 3)), some (.int (x5 + 1))]) (st' := []) (S1 := S) rfl ?_
        exact ih h
      · rw [if_pos (Decidable.of_not_not zhc2)] at h
        refine ip_Ev.steps 4 (pc' := 31) (lv' := [some (.ref 26), some (.int x1), some (.int x2), some (.int x3), some (.int x4), some (.int x5)]) (st' := [.int x4, .int x1, .ref 26, .int x2]) (S1 := S) rfl ?_
        obtain ⟨zv4, hzq3, h⟩ := ip_bind h
        refine ip_Ev.call (i := 52) (a := [.ref 26, .int x1, .int x4]) (r := [.int x2]) rfl (T_P_worstBehind hzq3) ?_
        show ip_Ev 54 34 [some (.ref 26), some (.int x1), some (.int x2), some (.int x3), some (.int x4), some (.int x5)] [.int zv4, .int x2] S _ _
        refine ip_Ev.steps 6 (pc' := 42) (lv' := [some (.ref 26), some (.int x1), some (.int (if (zv4 + 1) < x2 then (zv4 + 1) else x2)), some (.int x3), some (.int x4), some (.int x5)]) (st' := [.int 3, .int x3]) (S1 := S) rfl ?_
        refine ip_Ev.idiv rfl (by decide) ?_
        refine ip_Ev.steps 7 (pc' := 11) (lv' := [some (.ref 26), some (.int x1), some (.int (if (zv4 + 1) < x2 then (zv4 + 1) else x2)), some (.int (x3 / 3)), some (.int (x4 * 3)), some (.int (x5 + 1))]) (st' := []) (S1 := S) rfl ?_
        exact ih h
def f_P_fewFrom (p1 : Int32) (S : ip_St) : Option (Int32) := (f_P_fewFrom_11 ip_FU p1 6 p1 1 0 S)
set_option maxRecDepth 10000 in
theorem T_P_fewFrom {p1 : Int32} {S : ip_St} {r : Int32} (h : f_P_fewFrom p1 S = some r) : ip_Me 54 [.ref 26, .int p1] S (some (.int r)) S := by
  unfold f_P_fewFrom at h
  refine ⟨[some (.ref 26), some (.int p1), none, none, none, none], rfl, ?_⟩
  refine ip_Ev.steps 8 (pc' := 11) (lv' := [some (.ref 26), some (.int p1), some (.int 6), some (.int p1), some (.int 1), some (.int 0)]) (st' := []) (S1 := S) rfl ?_
  exact E_P_fewFrom_11 ip_FU h
-- P_firstQuestion
def f_P_firstQuestion_4 : Nat → Int32 → Int32 → ip_St → Option (Int32)
  | 0, _, _, _ => none
  | n + 1, x1, x2, S => (if (S.1 26 6) ≤ x2 then some (-1) else ((f_P_worstBehind 0 x1 S).bind fun zv3 => (if (zv3 + 1) = (S.1 26 0) then ((ip_aI S 27 x2).bind fun zv5 => some zv5) else (f_P_firstQuestion_4 n (x1 * 3) (x2 + 1) S))))
set_option maxRecDepth 10000 in
theorem E_P_firstQuestion_4 : ∀ (n : Nat) {x1 : Int32} {x2 : Int32} {S : ip_St} {r : Int32}, f_P_firstQuestion_4 n x1 x2 S = some r → ip_Ev 55 4 [some (.ref 26), some (.int x1), some (.int x2)] [] S (some (.int r)) S := by
  intro n
  induction n with
  | zero =>
    intro x1 x2 S r h
    cases h
  | succ n ih =>
    intro x1 x2 S r h
    rw [f_P_firstQuestion_4] at h
    refine ip_Ev.steps 3 (pc' := 9) (lv' := [some (.ref 26), some (.int x1), some (.int x2)]) (st' := [.int (S.1 26 6), .int x2]) (S1 := S) rfl ?_
    refine ip_Ev.iff2 rfl rfl ip_cGe (fun zhc1 => ?_) (fun zhc1 => ?_)
    · rw [if_pos zhc1] at h
      refine ip_Ev.steps 1 (pc' := 45) (lv' := [some (.ref 26), some (.int x1), some (.int x2)]) (st' := [.int (-1)]) (S1 := S) rfl ?_
      cases h
      exact ip_Ev.ret rfl
    · rw [if_neg zhc1] at h
      refine ip_Ev.steps 3 (pc' := 15) (lv' := [some (.ref 26), some (.int x1), some (.int x2)]) (st' := [.int x1, .int 0, .ref 26]) (S1 := S) rfl ?_
      obtain ⟨zv3, hzq2, h⟩ := ip_bind h
      refine ip_Ev.call (i := 52) (a := [.ref 26, .int 0, .int x1]) (r := []) rfl (T_P_worstBehind hzq2) ?_
      show ip_Ev 55 18 [some (.ref 26), some (.int x1), some (.int x2)] [.int zv3] S _ _
      refine ip_Ev.steps 4 (pc' := 24) (lv' := [some (.ref 26), some (.int x1), some (.int x2)]) (st' := [.int (S.1 26 0), .int (zv3 + 1)]) (S1 := S) rfl ?_
      refine ip_Ev.iff2 rfl rfl ip_cNe (fun zhc4 => ?_) (fun zhc4 => ?_)
      · rw [if_neg zhc4] at h
        refine ip_Ev.steps 6 (pc' := 4) (lv' := [some (.ref 26), some (.int (x1 * 3)), some (.int (x2 + 1))]) (st' := []) (S1 := S) rfl ?_
        exact ih h
      · rw [if_pos (Decidable.of_not_not zhc4)] at h
        refine ip_Ev.steps 3 (pc' := 32) (lv' := [some (.ref 26), some (.int x1), some (.int x2)]) (st' := [.int x2, .ref 27]) (S1 := S) rfl ?_
        obtain ⟨zv5, hzv5, h⟩ := ip_bind h
        refine ip_Ev.iald rfl hzv5 ?_
        cases h
        exact ip_Ev.ret rfl
def f_P_firstQuestion  (S : ip_St) : Option (Int32) := (f_P_firstQuestion_4 ip_FU 1 0 S)
set_option maxRecDepth 10000 in
theorem T_P_firstQuestion  {S : ip_St} {r : Int32} (h : f_P_firstQuestion S = some r) : ip_Me 55 [.ref 26] S (some (.int r)) S := by
  unfold f_P_firstQuestion at h
  refine ⟨[some (.ref 26), none, none], rfl, ?_⟩
  refine ip_Ev.steps 4 (pc' := 4) (lv' := [some (.ref 26), some (.int 1), some (.int 0)]) (st' := []) (S1 := S) rfl ?_
  exact E_P_firstQuestion_4 ip_FU h
-- P_weigh
def f_P_weigh_72 (k12 : Int64 → Int32 → ip_St → Option (ip_St)) (x1 : Int64) (x3 : Int32) (s1 : Int32) (s2 : Int32) (S : ip_St) : Option (ip_St) := ((ip_wI S 29 s1 s2).bind fun zS1 => (k12 x1 (x3 + (-1)) zS1))
set_option maxRecDepth 10000 in
theorem E_P_weigh_72 {k12 : Int64 → Int32 → ip_St → Option (ip_St)} (hk12 : ∀ {x1 : Int64} {x3 : Int32} {S : ip_St} {S9 : ip_St} {d4 : Option Value} {d5 : Option Value} {d6 : Option Value}, k12 x1 x3 S = some S9 → ip_Ev 56 12 [some (.ref 26), some (.long x1), none, some (.int x3), d4, d5, d6] [] S none S9) {x1 : Int64} {x3 : Int32} {s1 : Int32} {s2 : Int32} {S : ip_St} {S9 : ip_St} {d4 : Option Value} {d5 : Option Value} {d6 : Option Value} (h : f_P_weigh_72 k12 x1 x3 s1 s2 S = some S9) : ip_Ev 56 72 [some (.ref 26), some (.long x1), none, some (.int x3), d4, d5, d6] [.int s2, .int s1, .ref 29] S none S9 := by
  unfold f_P_weigh_72 at h
  obtain ⟨zS1, hzS1, h⟩ := ip_bind h
  refine ip_Ev.iast rfl hzS1 ?_
  refine ip_Ev.steps 2 (pc' := 12) (lv' := [some (.ref 26), some (.long x1), none, some (.int (x3 + (-1))), d4, d5, d6]) (st' := []) (S1 := zS1) rfl ?_
  exact hk12 h
def f_P_weigh_51 (k12 : Int64 → Int32 → ip_St → Option (ip_St)) (x1 : Int64) (x3 : Int32) (s0 : Int32) (S : ip_St) : Option (ip_St) := (if s0 = 0 then (f_P_weigh_72 k12 x1 x3 x3 0 S) else ((f_P_fewFrom x3 S).bind fun zv3 => (f_P_weigh_72 k12 x1 x3 x3 zv3 S)))
set_option maxRecDepth 10000 in
theorem E_P_weigh_51 {k12 : Int64 → Int32 → ip_St → Option (ip_St)} (hk12 : ∀ {x1 : Int64} {x3 : Int32} {S : ip_St} {S9 : ip_St} {d4 : Option Value} {d5 : Option Value} {d6 : Option Value}, k12 x1 x3 S = some S9 → ip_Ev 56 12 [some (.ref 26), some (.long x1), none, some (.int x3), d4, d5, d6] [] S none S9) {x1 : Int64} {x3 : Int32} {s0 : Int32} {S : ip_St} {S9 : ip_St} {d4 : Option Value} {d5 : Option Value} {d6 : Option Value} (h : f_P_weigh_51 k12 x1 x3 s0 S = some S9) : ip_Ev 56 51 [some (.ref 26), some (.long x1), none, some (.int x3), d4, d5, d6] [.int s0] S none S9 := by
  unfold f_P_weigh_51 at h
  refine ip_Ev.steps 5 (pc' := 60) (lv' := [some (.ref 26), some (.long x1), none, some (.int x3), d4, (ip_kd d5), some (.int s0)]) (st' := [.int s0, .int x3, .ref 29]) (S1 := S) rfl ?_
  refine ip_Ev.iff1 rfl rfl ip_cEq (fun zhc1 => ?_) (fun zhc1 => ?_)
  · rw [if_pos zhc1] at h
    refine ip_Ev.steps 1 (pc' := 72) (lv' := [some (.ref 26), some (.long x1), none, some (.int x3), d4, (ip_kd d5), some (.int s0)]) (st' := [.int 0, .int x3, .ref 29]) (S1 := S) rfl ?_
    exact E_P_weigh_72 hk12 h
  · rw [if_neg zhc1] at h
    refine ip_Ev.steps 2 (pc' := 65) (lv' := [some (.ref 26), some (.long x1), none, some (.int x3), d4, (ip_kd d5), some (.int s0)]) (st' := [.int x3, .ref 26, .int x3, .ref 29]) (S1 := S) rfl ?_
    obtain ⟨zv3, hzq2, h⟩ := ip_bind h
    refine ip_Ev.call (i := 54) (a := [.ref 26, .int x3]) (r := [.int x3, .ref 29]) rfl (T_P_fewFrom hzq2) ?_
    show ip_Ev 56 68 [some (.ref 26), some (.long x1), none, some (.int x3), d4, (ip_kd d5), some (.int s0)] [.int zv3, .int x3, .ref 29] S _ _
    refine ip_Ev.steps 1 (pc' := 72) (lv' := [some (.ref 26), some (.long x1), none, some (.int x3), d4, (ip_kd d5), some (.int s0)]) (st' := [.int zv3, .int x3, .ref 29]) (S1 := S) rfl ?_
    exact E_P_weigh_72 hk12 h
def f_P_weigh_50 (k12 : Int64 → Int32 → ip_St → Option (ip_St)) (x1 : Int64) (x3 : Int32) (S : ip_St) : Option (ip_St) := (f_P_weigh_51 k12 x1 x3 0 S)
set_option maxRecDepth 10000 in
theorem E_P_weigh_50 {k12 : Int64 → Int32 → ip_St → Option (ip_St)} (hk12 : ∀ {x1 : Int64} {x3 : Int32} {S : ip_St} {S9 : ip_St} {d4 : Option Value} {d5 : Option Value} {d6 : Option Value}, k12 x1 x3 S = some S9 → ip_Ev 56 12 [some (.ref 26), some (.long x1), none, some (.int x3), d4, d5, d6] [] S none S9) {x1 : Int64} {x3 : Int32} {S : ip_St} {S9 : ip_St} {d4 : Option Value} {d5 : Option Value} {d6 : Option Value} (h : f_P_weigh_50 k12 x1 x3 S = some S9) : ip_Ev 56 50 [some (.ref 26), some (.long x1), none, some (.int x3), d4, d5, d6] [] S none S9 := by
  unfold f_P_weigh_50 at h
  refine ip_Ev.steps 1 (pc' := 51) (lv' := [some (.ref 26), some (.long x1), none, some (.int x3), d4, d5, d6]) (st' := [.int 0]) (S1 := S) rfl ?_
  exact E_P_weigh_51 hk12 h
def f_P_weigh_12 : Nat → Int64 → Int32 → ip_St → Option (ip_St)
  | 0, _, _, _ => none
  | n + 1, x1, x3, S => (if x3 < 0 then ((ip_aI S 29 0).bind fun zv2 => ((f_P_firstQuestion (ip_upI S 26 0 zv2)).bind fun zv4 => some (ip_upI (ip_upI S 26 0 zv2) 26 1 zv4))) else ((ip_aL S 28 x3).bind fun zv5 => (if (zv5 &&& x1) = 0 then (f_P_weigh_50 (f_P_weigh_12 n) x1 x3 S) else (if (zv5 &&& (x1 ^^^ (-1))) = 0 then (f_P_weigh_50 (f_P_weigh_12 n) x1 x3 S) else (f_P_weigh_51 (f_P_weigh_12 n) x1 x3 1 S)))))
set_option maxRecDepth 10000 in
theorem E_P_weigh_12 : ∀ (n : Nat) {x1 : Int64} {x3 : Int32} {S : ip_St} {S9 : ip_St} {d4 : Option Value} {d5 : Option Value} {d6 : Option Value}, f_P_weigh_12 n x1 x3 S = some S9 → ip_Ev 56 12 [some (.ref 26), some (.long x1), none, some (.int x3), d4, d5, d6] [] S none S9 := by
  intro n
  induction n with
  | zero =>
    intro x1 x3 S S9 d4 d5 d6 h
    cases h
  | succ n ih =>
    intro x1 x3 S S9 d4 d5 d6 h
    rw [f_P_weigh_12] at h
    refine ip_Ev.steps 1 (pc' := 13) (lv' := [some (.ref 26), some (.long x1), none, some (.int x3), d4, d5, d6]) (st' := [.int x3]) (S1 := S) rfl ?_
    refine ip_Ev.iff1 rfl rfl ip_cLt (fun zhc1 => ?_) (fun zhc1 => ?_)
    · rw [if_pos zhc1] at h
      refine ip_Ev.steps 4 (pc' := 85) (lv' := [some (.ref 26), some (.long x1), none, some (.int x3), d4, d5, d6]) (st' := [.int 0, .ref 29, .ref 26]) (S1 := S) rfl ?_
      obtain ⟨zv2, hzv2, h⟩ := ip_bind h
      refine ip_Ev.iald rfl hzv2 ?_
      refine ip_Ev.steps 3 (pc' := 91) (lv' := [some (.ref 26), some (.long x1), none, some (.int x3), d4, d5, d6]) (st' := [.ref 26, .ref 26]) (S1 := (ip_upI S 26 0 zv2)) rfl ?_
      obtain ⟨zv4, hzq3, h⟩ := ip_bind h
      refine ip_Ev.call (i := 55) (a := [.ref 26]) (r := [.ref 26]) rfl (T_P_firstQuestion hzq3) ?_
      show ip_Ev 56 94 [some (.ref 26), some (.long x1), none, some (.int x3), d4, d5, d6] [.int zv4, .ref 26] (ip_upI S 26 0 zv2) _ _
      refine ip_Ev.steps 1 (pc' := 97) (lv' := [some (.ref 26), some (.long x1), none, some (.int x3), d4, d5, d6]) (st' := []) (S1 := (ip_upI (ip_upI S 26 0 zv2) 26 1 zv4)) rfl ?_
      cases h
      exact ip_Ev.ret rfl
    · rw [if_neg zhc1] at h
      refine ip_Ev.steps 3 (pc' := 21) (lv' := [some (.ref 26), some (.long x1), none, some (.int x3), d4, d5, d6]) (st' := [.int x3, .ref 28]) (S1 := S) rfl ?_
      obtain ⟨zv5, hzv5, h⟩ := ip_bind h
      refine ip_Ev.lald rfl hzv5 ?_
      refine ip_Ev.steps 6 (pc' := 30) (lv' := [some (.ref 26), some (.long x1), none, some (.int x3), some (.long zv5), none, d6]) (st' := [.int (lg_cmp (zv5 &&& x1) 0)]) (S1 := S) rfl ?_
      refine ip_Ev.iff1 rfl rfl ip_lEq (fun zhc6 => ?_) (fun zhc6 => ?_)
      · rw [if_pos zhc6] at h
        exact E_P_weigh_50 ih h
      · rw [if_neg zhc6] at h
        refine ip_Ev.steps 7 (pc' := 43) (lv' := [some (.ref 26), some (.long x1), none, some (.int x3), some (.long zv5), none, d6]) (st' := [.int (lg_cmp (zv5 &&& (x1 ^^^ (-1))) 0)]) (S1 := S) rfl ?_
        refine ip_Ev.iff1 rfl rfl ip_lEq (fun zhc7 => ?_) (fun zhc7 => ?_)
        · rw [if_pos zhc7] at h
          exact E_P_weigh_50 ih h
        · rw [if_neg zhc7] at h
          refine ip_Ev.steps 2 (pc' := 51) (lv' := [some (.ref 26), some (.long x1), none, some (.int x3), some (.long zv5), none, d6]) (st' := [.int 1]) (S1 := S) rfl ?_
          exact E_P_weigh_51 ih h
def f_P_weigh (p1 : Int64) (S : ip_St) : Option (ip_St) := (f_P_weigh_12 ip_FU p1 (((ip_upL S 26 4 p1).1 26 9) - 1) (ip_upL S 26 4 p1))
set_option maxRecDepth 10000 in
theorem T_P_weigh {p1 : Int64} {S : ip_St} {S9 : ip_St} (h : f_P_weigh p1 S = some S9) : ip_Me 56 [.ref 26, .long p1] S none S9 := by
  unfold f_P_weigh at h
  refine ⟨[some (.ref 26), some (.long p1), none, none, none, none, none], rfl, ?_⟩
  refine ip_Ev.steps 8 (pc' := 12) (lv' := [some (.ref 26), some (.long p1), none, some (.int (((ip_upL S 26 4 p1).1 26 9) - 1)), none, none, none]) (st' := []) (S1 := (ip_upL S 26 4 p1)) rfl ?_
  exact E_P_weigh_12 ip_FU h
-- A_prospectOf
def f_A_prospectOf (p1 : Nat) (S : ip_St) : Option (ip_St) := ((f_J_worlds p1 S).bind fun zv2 => ((f_A_freed (S.1 p1 0) (S.2 17 0)).bind fun zv4 => (if (f_P_isFor (S.1 p1 0) zv2 zv4 S) = true then some S else ((f_P_spread (S.1 p1 0) zv2 S).bind fun zS7 => ((f_P_weigh zv4 zS7).bind fun zS9 => some zS9)))))
set_option maxRecDepth 10000 in
theorem T_A_prospectOf {p1 : Nat} {S : ip_St} {S9 : ip_St} (hp1 : ip_ob p1 = some 1) (h : f_A_prospectOf p1 S = some S9) : ip_Me 57 [.ref 0, .ref p1] S (some (.ref 26)) S9 := by
  unfold f_A_prospectOf at h
  refine ⟨[some (.ref 0), some (.ref p1), none, none, none, none], rfl, ?_⟩
  refine ip_Ev.steps 1 (pc' := 1) (lv' := [some (.ref 0), some (.ref p1), none, none, none, none]) (st' := [.ref p1]) (S1 := S) rfl ?_
  obtain ⟨zv2, hzq1, h⟩ := ip_bind h
  refine ip_Ev.callJ (i := 45) (b := p1) (a := []) (r := []) rfl rfl rfl rfl hp1 rfl rfl (T_J_worlds hp1 hzq1) ?_
  show ip_Ev 57 4 [some (.ref 0), some (.ref p1), none, none, none, none] [.long zv2] S _ _
  refine ip_Ev.steps 2 (pc' := 6) (lv' := [some (.ref 0), some (.ref p1), some (.long zv2), none, none, none]) (st' := [.ref p1]) (S1 := S) rfl ?_
  refine ip_Ev.gfI rfl rfl hp1 (by decide) ?_
  refine ip_Ev.steps 4 (pc' := 19) (lv' := [some (.ref 0), some (.ref p1), some (.long zv2), none, none, none]) (st' := [.long (S.2 17 0), .int (S.1 p1 0)]) (S1 := S) rfl ?_
  obtain ⟨zv4, hzq3, h⟩ := ip_bind h
  refine ip_Ev.call (i := 47) (a := [.int (S.1 p1 0), .long (S.2 17 0)]) (r := []) rfl (T_A_freed hzq3) ?_
  show ip_Ev 57 22 [some (.ref 0), some (.ref p1), some (.long zv2), none, none, none] [.long zv4] S _ _
  refine ip_Ev.steps 4 (pc' := 29) (lv' := [some (.ref 0), some (.ref p1), some (.long zv2), none, some (.long zv4), none]) (st' := [.ref p1, .ref 26]) (S1 := S) rfl ?_
  refine ip_Ev.gfI rfl rfl hp1 (by decide) ?_
  refine ip_Ev.steps 2 (pc' := 35) (lv' := [some (.ref 0), some (.ref p1), some (.long zv2), none, some (.long zv4), none]) (st' := [.long zv4, .long zv2, .int (S.1 p1 0), .ref 26]) (S1 := S) rfl ?_
  refine ip_Ev.call (i := 50) (a := [.ref 26, .int (S.1 p1 0), .long zv2, .long zv4]) (r := []) rfl (T_P_isFor rfl) ?_
  show ip_Ev 57 38 [some (.ref 0), some (.ref p1), some (.long zv2), none, some (.long zv4), none] [.int (ip_b2i (f_P_isFor (S.1 p1 0) zv2 zv4 S))] S _ _
  refine ip_Ev.iff1 rfl rfl ip_bNe (fun zhc5 => ?_) (fun zhc5 => ?_)
  · rw [if_pos zhc5] at h
    refine ip_Ev.steps 2 (pc' := 66) (lv' := [some (.ref 0), some (.ref p1), some (.long zv2), none, some (.long zv4), none]) (st' := [.ref 26]) (S1 := S) rfl ?_
    cases h
    exact ip_Ev.ret rfl
  · rw [if_neg zhc5] at h
    refine ip_Ev.steps 3 (pc' := 46) (lv' := [some (.ref 0), some (.ref p1), some (.long zv2), none, some (.long zv4), none]) (st' := [.ref p1, .ref 26]) (S1 := S) rfl ?_
    refine ip_Ev.gfI rfl rfl hp1 (by decide) ?_
    refine ip_Ev.steps 1 (pc' := 50) (lv' := [some (.ref 0), some (.ref p1), some (.long zv2), none, some (.long zv4), none]) (st' := [.long zv2, .int (S.1 p1 0), .ref 26]) (S1 := S) rfl ?_
    obtain ⟨zS7, hzq6, h⟩ := ip_bind h
    refine ip_Ev.call (i := 51) (a := [.ref 26, .int (S.1 p1 0), .long zv2]) (r := []) rfl (T_P_spread hzq6) ?_
    show ip_Ev 57 53 [some (.ref 0), some (.ref p1), some (.long zv2), none, some (.long zv4), none] [] zS7 _ _
    refine ip_Ev.steps 3 (pc' := 59) (lv' := [some (.ref 0), some (.ref p1), some (.long zv2), none, some (.long zv4), none]) (st' := [.long zv4, .ref 26]) (S1 := zS7) rfl ?_
    obtain ⟨zS9, hzq8, h⟩ := ip_bind h
    refine ip_Ev.call (i := 56) (a := [.ref 26, .long zv4]) (r := []) rfl (T_P_weigh hzq8) ?_
    show ip_Ev 57 62 [some (.ref 0), some (.ref p1), some (.long zv2), none, some (.long zv4), none] [] zS9 _ _
    refine ip_Ev.steps 2 (pc' := 66) (lv' := [some (.ref 0), some (.ref p1), some (.long zv2), none, some (.long zv4), none]) (st' := [.ref 26]) (S1 := zS9) rfl ?_
    cases h
    exact ip_Ev.ret rfl
-- A_verdict
def f_A_verdict (p1 : Nat) (S : ip_St) : Option (Int32) := ((f_J_worlds p1 S).bind fun zv2 => ((f_A_freed (S.1 p1 0) (S.2 17 0)).bind fun zv4 => (if (zv2 &&& zv4) = zv2 then some 1 else (if (zv2 &&& zv4) = 0 then some 2 else some 0))))
set_option maxRecDepth 10000 in
theorem T_A_verdict {p1 : Nat} {S : ip_St} {r : Int32} (hp1 : ip_ob p1 = some 1) (h : f_A_verdict p1 S = some r) : ip_Me 49 [.ref 0, .ref p1] S (some (.int r)) S := by
  unfold f_A_verdict at h
  refine ⟨[some (.ref 0), some (.ref p1), none, none, none, none], rfl, ?_⟩
  refine ip_Ev.steps 1 (pc' := 1) (lv' := [some (.ref 0), some (.ref p1), none, none, none, none]) (st' := [.ref p1]) (S1 := S) rfl ?_
  obtain ⟨zv2, hzq1, h⟩ := ip_bind h
  refine ip_Ev.callJ (i := 45) (b := p1) (a := []) (r := []) rfl rfl rfl rfl hp1 rfl rfl (T_J_worlds hp1 hzq1) ?_
  show ip_Ev 49 4 [some (.ref 0), some (.ref p1), none, none, none, none] [.long zv2] S _ _
  refine ip_Ev.steps 3 (pc' := 7) (lv' := [some (.ref 0), some (.ref p1), some (.long zv2), none, none, none]) (st' := [.ref p1, .long zv2]) (S1 := S) rfl ?_
  refine ip_Ev.gfI rfl rfl hp1 (by decide) ?_
  refine ip_Ev.steps 4 (pc' := 20) (lv' := [some (.ref 0), some (.ref p1), some (.long zv2), none, none, none]) (st' := [.long (S.2 17 0), .int (S.1 p1 0), .long zv2]) (S1 := S) rfl ?_
  obtain ⟨zv4, hzq3, h⟩ := ip_bind h
  refine ip_Ev.call (i := 47) (a := [.int (S.1 p1 0), .long (S.2 17 0)]) (r := [.long zv2]) rfl (T_A_freed hzq3) ?_
  show ip_Ev 49 23 [some (.ref 0), some (.ref p1), some (.long zv2), none, none, none] [.long zv4, .long zv2] S _ _
  refine ip_Ev.steps 5 (pc' := 30) (lv' := [some (.ref 0), some (.ref p1), some (.long zv2), none, some (.long (zv2 &&& zv4)), none]) (st' := [.int (lg_cmp (zv2 &&& zv4) zv2)]) (S1 := S) rfl ?_
  refine ip_Ev.iff1 rfl rfl ip_lNe (fun zhc5 => ?_) (fun zhc5 => ?_)
  · rw [if_neg zhc5] at h
    refine ip_Ev.steps 3 (pc' := 39) (lv' := [some (.ref 0), some (.ref p1), some (.long zv2), none, some (.long (zv2 &&& zv4)), none]) (st' := [.int (lg_cmp (zv2 &&& zv4) 0)]) (S1 := S) rfl ?_
    refine ip_Ev.iff1 rfl rfl ip_lNe (fun zhc6 => ?_) (fun zhc6 => ?_)
    · rw [if_neg zhc6] at h
      refine ip_Ev.steps 1 (pc' := 47) (lv' := [some (.ref 0), some (.ref p1), some (.long zv2), none, some (.long (zv2 &&& zv4)), none]) (st' := [.int 0]) (S1 := S) rfl ?_
      cases h
      exact ip_Ev.ret rfl
    · rw [if_pos (Decidable.of_not_not zhc6)] at h
      refine ip_Ev.steps 2 (pc' := 47) (lv' := [some (.ref 0), some (.ref p1), some (.long zv2), none, some (.long (zv2 &&& zv4)), none]) (st' := [.int 2]) (S1 := S) rfl ?_
      cases h
      exact ip_Ev.ret rfl
  · rw [if_pos (Decidable.of_not_not zhc5)] at h
    refine ip_Ev.steps 1 (pc' := 34) (lv' := [some (.ref 0), some (.ref p1), some (.long zv2), none, some (.long (zv2 &&& zv4)), none]) (st' := [.int 1]) (S1 := S) rfl ?_
    cases h
    exact ip_Ev.ret rfl
-- A_freeWays
def f_A_freeWays (p1 : Nat) (S : ip_St) : Option (Int64) := ((f_J_worlds p1 S).bind fun zv2 => ((f_A_freed (S.1 p1 0) (S.2 17 0)).bind fun zv4 => some (zv2 &&& zv4)))
set_option maxRecDepth 10000 in
theorem T_A_freeWays {p1 : Nat} {S : ip_St} {r : Int64} (hp1 : ip_ob p1 = some 1) (h : f_A_freeWays p1 S = some r) : ip_Me 48 [.ref 0, .ref p1] S (some (.long r)) S := by
  unfold f_A_freeWays at h
  refine ⟨[some (.ref 0), some (.ref p1)], rfl, ?_⟩
  refine ip_Ev.steps 1 (pc' := 1) (lv' := [some (.ref 0), some (.ref p1)]) (st' := [.ref p1]) (S1 := S) rfl ?_
  obtain ⟨zv2, hzq1, h⟩ := ip_bind h
  refine ip_Ev.callJ (i := 45) (b := p1) (a := []) (r := []) rfl rfl rfl rfl hp1 rfl rfl (T_J_worlds hp1 hzq1) ?_
  show ip_Ev 48 4 [some (.ref 0), some (.ref p1)] [.long zv2] S _ _
  refine ip_Ev.steps 1 (pc' := 5) (lv' := [some (.ref 0), some (.ref p1)]) (st' := [.ref p1, .long zv2]) (S1 := S) rfl ?_
  refine ip_Ev.gfI rfl rfl hp1 (by decide) ?_
  refine ip_Ev.steps 4 (pc' := 18) (lv' := [some (.ref 0), some (.ref p1)]) (st' := [.long (S.2 17 0), .int (S.1 p1 0), .long zv2]) (S1 := S) rfl ?_
  obtain ⟨zv4, hzq3, h⟩ := ip_bind h
  refine ip_Ev.call (i := 47) (a := [.int (S.1 p1 0), .long (S.2 17 0)]) (r := [.long zv2]) rfl (T_A_freed hzq3) ?_
  show ip_Ev 48 21 [some (.ref 0), some (.ref p1)] [.long zv4, .long zv2] S _ _
  refine ip_Ev.steps 1 (pc' := 22) (lv' := [some (.ref 0), some (.ref p1)]) (st' := [.long (zv2 &&& zv4)]) (S1 := S) rfl ?_
  cases h
  exact ip_Ev.ret rfl
-- A_judge
def f_A_judge_77 (x1 : Int32) (x2 : Int32) (c3 : Nat) (S : ip_St) : Option (Int32 × ip_St) := (if x2 = 0 then some ((S.1 c3 0), S) else (if x2 = 1 then ((f_J_worlds c3 S).bind fun zv3 => some ((f_G_bitCount zv3), S)) else (if x2 = 2 then ((f_A_freeWays c3 S).bind fun zv5 => some ((f_G_bitCount zv5), S)) else (if x2 = 3 then ((f_A_verdict c3 S).bind fun zv7 => some (zv7, S)) else (if x2 = 4 then ((f_A_prospectOf c3 S).bind fun zS9 => some ((zS9.1 26 0), zS9)) else (if x2 = 5 then ((f_A_prospectOf c3 S).bind fun zS11 => some ((zS11.1 26 1), zS11)) else (if x2 = 6 then ((f_J_worlds c3 S).bind fun zv13 => ((f_A_freed (S.1 c3 0) (S.2 17 0)).bind fun zv15 => ((f_A_luck (S.1 c3 0) zv13 zv15).bind fun zv17 => some (zv17, S)))) else (if x2 = 7 then some ((f_I_bitCount (S.1 c3 3)), S) else (if x2 = 8 then ((f_A_strike c3 S).bind fun zv19 => some (zv19, S)) else (if x2 = 9 then ((f_A_kindsLeft x1 S).bind fun zv21 => some (zv21, S)) else (if x2 = 10 then ((f_A_kindsLeft x1 S).bind fun zv23 => ((f_A_bestTest zv23).bind fun zv25 => some (zv25, S))) else some ((-102), S))))))))))))
set_option maxRecDepth 10000 in
theorem E_A_judge_77 {x1 : Int32} {x2 : Int32} {c3 : Nat} {S : ip_St} {r : Int32} {S9 : ip_St} (hc3 : ip_ob c3 = some 1) (h : f_A_judge_77 x1 x2 c3 S = some (r, S9)) : ip_Ev 67 77 [some (.ref 0), some (.int x1), some (.int x2), some (.ref c3)] [] S (some (.int r)) S9 := by
  unfold f_A_judge_77 at h
  refine ip_Ev.steps 1 (pc' := 78) (lv' := [some (.ref 0), some (.int x1), some (.int x2), some (.ref c3)]) (st' := [.int x2]) (S1 := S) rfl ?_
  by_cases zhs1_0 : x2 = 0
  · rw [if_pos zhs1_0] at h
    refine ip_Ev.ts (off := 58) rfl (by rw [zhs1_0]; rfl) rfl ?_
    refine ip_Ev.steps 1 (pc' := 137) (lv' := [some (.ref 0), some (.int x1), some (.int x2), some (.ref c3)]) (st' := [.ref c3]) (S1 := S) rfl ?_
    refine ip_Ev.gfI rfl rfl hc3 (by decide) ?_
    cases h
    exact ip_Ev.ret rfl
  rw [if_neg zhs1_0] at h
  by_cases zhs1_1 : x2 = 1
  · rw [if_pos zhs1_1] at h
    refine ip_Ev.ts (off := 63) rfl (by rw [zhs1_1]; rfl) rfl ?_
    refine ip_Ev.steps 1 (pc' := 142) (lv' := [some (.ref 0), some (.int x1), some (.int x2), some (.ref c3)]) (st' := [.ref c3]) (S1 := S) rfl ?_
    obtain ⟨zv3, hzq2, h⟩ := ip_bind h
    refine ip_Ev.callJ (i := 45) (b := c3) (a := []) (r := []) rfl rfl rfl rfl hc3 rfl rfl (T_J_worlds hc3 hzq2) ?_
    show ip_Ev 67 145 [some (.ref 0), some (.int x1), some (.int x2), some (.ref c3)] [.long zv3] S _ _
    refine ip_Ev.call (i := 31) (a := [.long zv3]) (r := []) rfl (T_G_bitCount rfl) ?_
    show ip_Ev 67 148 [some (.ref 0), some (.int x1), some (.int x2), some (.ref c3)] [.int (f_G_bitCount zv3)] S _ _
    cases h
    exact ip_Ev.ret rfl
  rw [if_neg zhs1_1] at h
  by_cases zhs1_2 : x2 = 2
  · rw [if_pos zhs1_2] at h
    refine ip_Ev.ts (off := 71) rfl (by rw [zhs1_2]; rfl) rfl ?_
    refine ip_Ev.steps 2 (pc' := 151) (lv' := [some (.ref 0), some (.int x1), some (.int x2), some (.ref c3)]) (st' := [.ref c3, .ref 0]) (S1 := S) rfl ?_
    obtain ⟨zv5, hzq4, h⟩ := ip_bind h
    refine ip_Ev.call (i := 48) (a := [.ref 0, .ref c3]) (r := []) rfl (T_A_freeWays hc3 hzq4) ?_
    show ip_Ev 67 154 [some (.ref 0), some (.int x1), some (.int x2), some (.ref c3)] [.long zv5] S _ _
    refine ip_Ev.call (i := 31) (a := [.long zv5]) (r := []) rfl (T_G_bitCount rfl) ?_
    show ip_Ev 67 157 [some (.ref 0), some (.int x1), some (.int x2), some (.ref c3)] [.int (f_G_bitCount zv5)] S _ _
    cases h
    exact ip_Ev.ret rfl
  rw [if_neg zhs1_2] at h
  by_cases zhs1_3 : x2 = 3
  · rw [if_pos zhs1_3] at h
    refine ip_Ev.ts (off := 80) rfl (by rw [zhs1_3]; rfl) rfl ?_
    refine ip_Ev.steps 2 (pc' := 160) (lv' := [some (.ref 0), some (.int x1), some (.int x2), some (.ref c3)]) (st' := [.ref c3, .ref 0]) (S1 := S) rfl ?_
    obtain ⟨zv7, hzq6, h⟩ := ip_bind h
    refine ip_Ev.call (i := 49) (a := [.ref 0, .ref c3]) (r := []) rfl (T_A_verdict hc3 hzq6) ?_
    show ip_Ev 67 163 [some (.ref 0), some (.int x1), some (.int x2), some (.ref c3)] [.int zv7] S _ _
    cases h
    exact ip_Ev.ret rfl
  rw [if_neg zhs1_3] at h
  by_cases zhs1_4 : x2 = 4
  · rw [if_pos zhs1_4] at h
    refine ip_Ev.ts (off := 86) rfl (by rw [zhs1_4]; rfl) rfl ?_
    refine ip_Ev.steps 2 (pc' := 166) (lv' := [some (.ref 0), some (.int x1), some (.int x2), some (.ref c3)]) (st' := [.ref c3, .ref 0]) (S1 := S) rfl ?_
    obtain ⟨zS9, hzq8, h⟩ := ip_bind h
    refine ip_Ev.call (i := 57) (a := [.ref 0, .ref c3]) (r := []) rfl (T_A_prospectOf hc3 hzq8) ?_
    show ip_Ev 67 169 [some (.ref 0), some (.int x1), some (.int x2), some (.ref c3)] [.ref 26] zS9 _ _
    refine ip_Ev.steps 1 (pc' := 172) (lv' := [some (.ref 0), some (.int x1), some (.int x2), some (.ref c3)]) (st' := [.int (zS9.1 26 0)]) (S1 := zS9) rfl ?_
    cases h
    exact ip_Ev.ret rfl
  rw [if_neg zhs1_4] at h
  by_cases zhs1_5 : x2 = 5
  · rw [if_pos zhs1_5] at h
    refine ip_Ev.ts (off := 95) rfl (by rw [zhs1_5]; rfl) rfl ?_
    refine ip_Ev.steps 2 (pc' := 175) (lv' := [some (.ref 0), some (.int x1), some (.int x2), some (.ref c3)]) (st' := [.ref c3, .ref 0]) (S1 := S) rfl ?_
    obtain ⟨zS11, hzq10, h⟩ := ip_bind h
    refine ip_Ev.call (i := 57) (a := [.ref 0, .ref c3]) (r := []) rfl (T_A_prospectOf hc3 hzq10) ?_
    show ip_Ev 67 178 [some (.ref 0), some (.int x1), some (.int x2), some (.ref c3)] [.ref 26] zS11 _ _
    refine ip_Ev.steps 1 (pc' := 181) (lv' := [some (.ref 0), some (.int x1), some (.int x2), some (.ref c3)]) (st' := [.int (zS11.1 26 1)]) (S1 := zS11) rfl ?_
    cases h
    exact ip_Ev.ret rfl
  rw [if_neg zhs1_5] at h
  by_cases zhs1_6 : x2 = 6
  · rw [if_pos zhs1_6] at h
    refine ip_Ev.ts (off := 104) rfl (by rw [zhs1_6]; rfl) rfl ?_
    refine ip_Ev.steps 1 (pc' := 183) (lv' := [some (.ref 0), some (.int x1), some (.int x2), some (.ref c3)]) (st' := [.ref c3]) (S1 := S) rfl ?_
    refine ip_Ev.gfI rfl rfl hc3 (by decide) ?_
    refine ip_Ev.steps 1 (pc' := 187) (lv' := [some (.ref 0), some (.int x1), some (.int x2), some (.ref c3)]) (st' := [.ref c3, .int (S.1 c3 0)]) (S1 := S) rfl ?_
    obtain ⟨zv13, hzq12, h⟩ := ip_bind h
    refine ip_Ev.callJ (i := 45) (b := c3) (a := []) (r := [.int (S.1 c3 0)]) rfl rfl rfl rfl hc3 rfl rfl (T_J_worlds hc3 hzq12) ?_
    show ip_Ev 67 190 [some (.ref 0), some (.int x1), some (.int x2), some (.ref c3)] [.long zv13, .int (S.1 c3 0)] S _ _
    refine ip_Ev.steps 1 (pc' := 191) (lv' := [some (.ref 0), some (.int x1), some (.int x2), some (.ref c3)]) (st' := [.ref c3, .long zv13, .int (S.1 c3 0)]) (S1 := S) rfl ?_
    refine ip_Ev.gfI rfl rfl hc3 (by decide) ?_
    refine ip_Ev.steps 4 (pc' := 204) (lv' := [some (.ref 0), some (.int x1), some (.int x2), some (.ref c3)]) (st' := [.long (S.2 17 0), .int (S.1 c3 0), .long zv13, .int (S.1 c3 0)]) (S1 := S) rfl ?_
    obtain ⟨zv15, hzq14, h⟩ := ip_bind h
    refine ip_Ev.call (i := 47) (a := [.int (S.1 c3 0), .long (S.2 17 0)]) (r := [.long zv13, .int (S.1 c3 0)]) rfl (T_A_freed hzq14) ?_
    show ip_Ev 67 207 [some (.ref 0), some (.int x1), some (.int x2), some (.ref c3)] [.long zv15, .long zv13, .int (S.1 c3 0)] S _ _
    obtain ⟨zv17, hzq16, h⟩ := ip_bind h
    refine ip_Ev.call (i := 60) (a := [.int (S.1 c3 0), .long zv13, .long zv15]) (r := []) rfl (T_A_luck hzq16) ?_
    show ip_Ev 67 210 [some (.ref 0), some (.int x1), some (.int x2), some (.ref c3)] [.int zv17] S _ _
    cases h
    exact ip_Ev.ret rfl
  rw [if_neg zhs1_6] at h
  by_cases zhs1_7 : x2 = 7
  · rw [if_pos zhs1_7] at h
    refine ip_Ev.ts (off := 133) rfl (by rw [zhs1_7]; rfl) rfl ?_
    refine ip_Ev.steps 1 (pc' := 212) (lv' := [some (.ref 0), some (.int x1), some (.int x2), some (.ref c3)]) (st' := [.ref c3]) (S1 := S) rfl ?_
    refine ip_Ev.gfI rfl rfl hc3 (by decide) ?_
    refine ip_Ev.call (i := 58) (a := [.int (S.1 c3 3)]) (r := []) rfl (T_I_bitCount rfl) ?_
    show ip_Ev 67 218 [some (.ref 0), some (.int x1), some (.int x2), some (.ref c3)] [.int (f_I_bitCount (S.1 c3 3))] S _ _
    cases h
    exact ip_Ev.ret rfl
  rw [if_neg zhs1_7] at h
  by_cases zhs1_8 : x2 = 8
  · rw [if_pos zhs1_8] at h
    refine ip_Ev.ts (off := 141) rfl (by rw [zhs1_8]; rfl) rfl ?_
    refine ip_Ev.steps 2 (pc' := 221) (lv' := [some (.ref 0), some (.int x1), some (.int x2), some (.ref c3)]) (st' := [.ref c3, .ref 0]) (S1 := S) rfl ?_
    obtain ⟨zv19, hzq18, h⟩ := ip_bind h
    refine ip_Ev.call (i := 61) (a := [.ref 0, .ref c3]) (r := []) rfl (T_A_strike hc3 hzq18) ?_
    show ip_Ev 67 224 [some (.ref 0), some (.int x1), some (.int x2), some (.ref c3)] [.int zv19] S _ _
    cases h
    exact ip_Ev.ret rfl
  rw [if_neg zhs1_8] at h
  by_cases zhs1_9 : x2 = 9
  · rw [if_pos zhs1_9] at h
    refine ip_Ev.ts (off := 147) rfl (by rw [zhs1_9]; rfl) rfl ?_
    refine ip_Ev.steps 2 (pc' := 227) (lv' := [some (.ref 0), some (.int x1), some (.int x2), some (.ref c3)]) (st' := [.int x1, .ref 0]) (S1 := S) rfl ?_
    obtain ⟨zv21, hzq20, h⟩ := ip_bind h
    refine ip_Ev.call (i := 64) (a := [.ref 0, .int x1]) (r := []) rfl (T_A_kindsLeft hzq20) ?_
    show ip_Ev 67 230 [some (.ref 0), some (.int x1), some (.int x2), some (.ref c3)] [.int zv21] S _ _
    cases h
    exact ip_Ev.ret rfl
  rw [if_neg zhs1_9] at h
  by_cases zhs1_10 : x2 = 10
  · rw [if_pos zhs1_10] at h
    refine ip_Ev.ts (off := 153) rfl (by rw [zhs1_10]; rfl) rfl ?_
    refine ip_Ev.steps 2 (pc' := 233) (lv' := [some (.ref 0), some (.int x1), some (.int x2), some (.ref c3)]) (st' := [.int x1, .ref 0]) (S1 := S) rfl ?_
    obtain ⟨zv23, hzq22, h⟩ := ip_bind h
    refine ip_Ev.call (i := 64) (a := [.ref 0, .int x1]) (r := []) rfl (T_A_kindsLeft hzq22) ?_
    show ip_Ev 67 236 [some (.ref 0), some (.int x1), some (.int x2), some (.ref c3)] [.int zv23] S _ _
    obtain ⟨zv25, hzq24, h⟩ := ip_bind h
    refine ip_Ev.call (i := 66) (a := [.int zv23]) (r := []) rfl (T_A_bestTest hzq24) ?_
    show ip_Ev 67 239 [some (.ref 0), some (.int x1), some (.int x2), some (.ref c3)] [.int zv25] S _ _
    cases h
    exact ip_Ev.ret rfl
  rw [if_neg zhs1_10] at h
  have zhs1_0n : ¬ Int32.toInt x2 = 0 := fun q => zhs1_0 (Int32.toInt_inj.mp q)
  have zhs1_1n : ¬ Int32.toInt x2 = 1 := fun q => zhs1_1 (Int32.toInt_inj.mp q)
  have zhs1_2n : ¬ Int32.toInt x2 = 2 := fun q => zhs1_2 (Int32.toInt_inj.mp q)
  have zhs1_3n : ¬ Int32.toInt x2 = 3 := fun q => zhs1_3 (Int32.toInt_inj.mp q)
  have zhs1_4n : ¬ Int32.toInt x2 = 4 := fun q => zhs1_4 (Int32.toInt_inj.mp q)
  have zhs1_5n : ¬ Int32.toInt x2 = 5 := fun q => zhs1_5 (Int32.toInt_inj.mp q)
  have zhs1_6n : ¬ Int32.toInt x2 = 6 := fun q => zhs1_6 (Int32.toInt_inj.mp q)
  have zhs1_7n : ¬ Int32.toInt x2 = 7 := fun q => zhs1_7 (Int32.toInt_inj.mp q)
  have zhs1_8n : ¬ Int32.toInt x2 = 8 := fun q => zhs1_8 (Int32.toInt_inj.mp q)
  have zhs1_9n : ¬ Int32.toInt x2 = 9 := fun q => zhs1_9 (Int32.toInt_inj.mp q)
  have zhs1_10n : ¬ Int32.toInt x2 = 10 := fun q => zhs1_10 (Int32.toInt_inj.mp q)
  refine ip_Ev.ts (off := 162) rfl (ip_tsO_out (by omega)) rfl ?_
  refine ip_Ev.steps 1 (pc' := 242) (lv' := [some (.ref 0), some (.int x1), some (.int x2), some (.ref c3)]) (st' := [.int (-102)]) (S1 := S) rfl ?_
  cases h
  exact ip_Ev.ret rfl
def f_A_judge_49 (x1 : Int32) (x2 : Int32) (c3 : Nat) (S : ip_St) : Option (Int32 × ip_St) := (if x2 < 30 then (f_A_judge_77 x1 x2 c3 S) else (if 36 ≤ x2 then (f_A_judge_77 x1 x2 c3 S) else some ((f_A_told (S.1 c3 3) (S.1 c3 4) (x2 - 30)), S)))
set_option maxRecDepth 10000 in
theorem E_A_judge_49 {x1 : Int32} {x2 : Int32} {c3 : Nat} {S : ip_St} {r : Int32} {S9 : ip_St} (hc3 : ip_ob c3 = some 1) (h : f_A_judge_49 x1 x2 c3 S = some (r, S9)) : ip_Ev 67 49 [some (.ref 0), some (.int x1), some (.int x2), some (.ref c3)] [] S (some (.int r)) S9 := by
  unfold f_A_judge_49 at h
  refine ip_Ev.steps 2 (pc' := 52) (lv' := [some (.ref 0), some (.int x1), some (.int x2), some (.ref c3)]) (st' := [.int 30, .int x2]) (S1 := S) rfl ?_
  refine ip_Ev.iff2 rfl rfl ip_cLt (fun zhc1 => ?_) (fun zhc1 => ?_)
  · rw [if_pos zhc1] at h
    exact E_A_judge_77 hc3 h
  · rw [if_neg zhc1] at h
    refine ip_Ev.steps 2 (pc' := 58) (lv' := [some (.ref 0), some (.int x1), some (.int x2), some (.ref c3)]) (st' := [.int 36, .int x2]) (S1 := S) rfl ?_
    refine ip_Ev.iff2 rfl rfl ip_cGe (fun zhc2 => ?_) (fun zhc2 => ?_)
    · rw [if_pos zhc2] at h
      exact E_A_judge_77 hc3 h
    · rw [if_neg zhc2] at h
      refine ip_Ev.steps 1 (pc' := 62) (lv' := [some (.ref 0), some (.int x1), some (.int x2), some (.ref c3)]) (st' := [.ref c3]) (S1 := S) rfl ?_
      refine ip_Ev.gfI rfl rfl hc3 (by decide) ?_
      refine ip_Ev.steps 1 (pc' := 66) (lv' := [some (.ref 0), some (.int x1), some (.int x2), some (.ref c3)]) (st' := [.ref c3, .int (S.1 c3 3)]) (S1 := S) rfl ?_
      refine ip_Ev.gfI rfl rfl hc3 (by decide) ?_
      refine ip_Ev.steps 3 (pc' := 73) (lv' := [some (.ref 0), some (.int x1), some (.int x2), some (.ref c3)]) (st' := [.int (x2 - 30), .int (S.1 c3 4), .int (S.1 c3 3)]) (S1 := S) rfl ?_
      refine ip_Ev.call (i := 42) (a := [.int (S.1 c3 3), .int (S.1 c3 4), .int (x2 - 30)]) (r := []) rfl (T_A_told rfl) ?_
      show ip_Ev 67 76 [some (.ref 0), some (.int x1), some (.int x2), some (.ref c3)] [.int (f_A_told (S.1 c3 3) (S.1 c3 4) (x2 - 30))] S _ _
      cases h
      exact ip_Ev.ret rfl
def f_A_judge (p1 : Int32) (p2 : Int32) (S : ip_St) : Option (Int32 × ip_St) := (if (f_A_isJudge p1 S) = true then ((ip_aA 13 p1).bind fun zv2 => (if p2 < 20 then (f_A_judge_49 p1 p2 zv2 S) else (if 26 ≤ p2 then (f_A_judge_49 p1 p2 zv2 S) else some ((f_A_told (S.1 zv2 1) (S.1 zv2 2) (p2 - 20)), S)))) else some ((-101), S))
set_option maxRecDepth 10000 in
theorem T_A_judge {p1 : Int32} {p2 : Int32} {S : ip_St} {r : Int32} {S9 : ip_St} (h : f_A_judge p1 p2 S = some (r, S9)) : ip_Me 67 [.ref 0, .int p1, .int p2] S (some (.int r)) S9 := by
  unfold f_A_judge at h
  refine ⟨[some (.ref 0), some (.int p1), some (.int p2), none], rfl, ?_⟩
  refine ip_Ev.steps 2 (pc' := 2) (lv' := [some (.ref 0), some (.int p1), some (.int p2), none]) (st' := [.int p1, .ref 0]) (S1 := S) rfl ?_
  refine ip_Ev.call (i := 40) (a := [.ref 0, .int p1]) (r := []) rfl (T_A_isJudge rfl) ?_
  show ip_Ev 67 5 [some (.ref 0), some (.int p1), some (.int p2), none] [.int (ip_b2i (f_A_isJudge p1 S))] S _ _
  refine ip_Ev.iff1 rfl rfl ip_bNe (fun zhc1 => ?_) (fun zhc1 => ?_)
  · rw [if_pos zhc1] at h
    refine ip_Ev.steps 4 (pc' := 19) (lv' := [some (.ref 0), some (.int p1), some (.int p2), none]) (st' := [.int p1, .ref 13]) (S1 := S) rfl ?_
    obtain ⟨zv2, hzv2, h⟩ := ip_bind h
    refine ip_Ev.aald rfl hzv2 ?_
    have hozv2 := ip_aA_ob hzv2
    refine ip_Ev.steps 3 (pc' := 24) (lv' := [some (.ref 0), some (.int p1), some (.int p2), some (.ref zv2)]) (st' := [.int 20, .int p2]) (S1 := S) rfl ?_
    refine ip_Ev.iff2 rfl rfl ip_cLt (fun zhc3 => ?_) (fun zhc3 => ?_)
    · rw [if_pos zhc3] at h
      exact E_A_judge_49 hozv2 h
    · rw [if_neg zhc3] at h
      refine ip_Ev.steps 2 (pc' := 30) (lv' := [some (.ref 0), some (.int p1), some (.int p2), some (.ref zv2)]) (st' := [.int 26, .int p2]) (S1 := S) rfl ?_
      refine ip_Ev.iff2 rfl rfl ip_cGe (fun zhc4 => ?_) (fun zhc4 => ?_)
      · rw [if_pos zhc4] at h
        exact E_A_judge_49 hozv2 h
      · rw [if_neg zhc4] at h
        refine ip_Ev.steps 1 (pc' := 34) (lv' := [some (.ref 0), some (.int p1), some (.int p2), some (.ref zv2)]) (st' := [.ref zv2]) (S1 := S) rfl ?_
        refine ip_Ev.gfI rfl rfl hozv2 (by decide) ?_
        refine ip_Ev.steps 1 (pc' := 38) (lv' := [some (.ref 0), some (.int p1), some (.int p2), some (.ref zv2)]) (st' := [.ref zv2, .int (S.1 zv2 1)]) (S1 := S) rfl ?_
        refine ip_Ev.gfI rfl rfl hozv2 (by decide) ?_
        refine ip_Ev.steps 3 (pc' := 45) (lv' := [some (.ref 0), some (.int p1), some (.int p2), some (.ref zv2)]) (st' := [.int (p2 - 20), .int (S.1 zv2 2), .int (S.1 zv2 1)]) (S1 := S) rfl ?_
        refine ip_Ev.call (i := 42) (a := [.int (S.1 zv2 1), .int (S.1 zv2 2), .int (p2 - 20)]) (r := []) rfl (T_A_told rfl) ?_
        show ip_Ev 67 48 [some (.ref 0), some (.int p1), some (.int p2), some (.ref zv2)] [.int (f_A_told (S.1 zv2 1) (S.1 zv2 2) (p2 - 20))] S _ _
        cases h
        exact ip_Ev.ret rfl
  · rw [if_neg zhc1] at h
    refine ip_Ev.steps 1 (pc' := 10) (lv' := [some (.ref 0), some (.int p1), some (.int p2), none]) (st' := [.int (-101)]) (S1 := S) rfl ?_
    cases h
    exact ip_Ev.ret rfl
-- M_isJudge
def f_M_isJudge (p1 : Int32) (S : ip_St) : Bool := (f_M_in (Int32.toInt64 p1) 0 (Int32.toInt64 ((S.1 30 18) - 1)))
set_option maxRecDepth 10000 in
theorem T_M_isJudge {p1 : Int32} {S : ip_St} {r : Bool} (h : f_M_isJudge p1 S = r) : ip_Me 135 [.ref 30, .int p1] S (some (.int (ip_b2i r))) S := by
  unfold f_M_isJudge at h
  refine ⟨[some (.ref 30), some (.int p1)], rfl, ?_⟩
  refine ip_Ev.steps 8 (pc' := 10) (lv' := [some (.ref 30), some (.int p1)]) (st' := [.long (Int32.toInt64 ((S.1 30 18) - 1)), .long 0, .long (Int32.toInt64 p1)]) (S1 := S) rfl ?_
  refine ip_Ev.call (i := 101) (a := [.long (Int32.toInt64 p1), .long 0, .long (Int32.toInt64 ((S.1 30 18) - 1))]) (r := []) rfl (T_M_in rfl) ?_
  show ip_Ev 135 13 [some (.ref 30), some (.int p1)] [.int (ip_b2i (f_M_in (Int32.toInt64 p1) 0 (Int32.toInt64 ((S.1 30 18) - 1))))] S _ _
  cases h
  exact ip_Ev.retB rfl rfl
-- M_saysBy
def f_M_saysBy (p0 : Int32) (p1 : Int32) : Int32 := (if p0 = 1 then (p1 ||| 56) else (if p0 = 2 then p1 else (if p0 = 3 then (p1 &&& 56) else (if p0 = 4 then ((p1 &&& 56) ||| 32) else p1))))
set_option maxRecDepth 10000 in
theorem T_M_saysBy {p0 : Int32} {p1 : Int32} {S : ip_St} {r : Int32} (h : f_M_saysBy p0 p1 = r) : ip_Me 99 [.int p0, .int p1] S (some (.int r)) S := by
  unfold f_M_saysBy at h
  refine ⟨[some (.int p0), some (.int p1)], rfl, ?_⟩
  refine ip_Ev.steps 1 (pc' := 1) (lv' := [some (.int p0), some (.int p1)]) (st' := [.int p0]) (S1 := S) rfl ?_
  by_cases zhs1_0 : p0 = 1
  · rw [if_pos zhs1_0] at h
    refine ip_Ev.ts (off := 31) rfl (by rw [zhs1_0]; rfl) rfl ?_
    refine ip_Ev.steps 3 (pc' := 36) (lv' := [some (.int p0), some (.int p1)]) (st' := [.int (p1 ||| 56)]) (S1 := S) rfl ?_
    cases h
    exact ip_Ev.ret rfl
  rw [if_neg zhs1_0] at h
  by_cases zhs1_1 : p0 = 2
  · rw [if_pos zhs1_1] at h
    refine ip_Ev.ts (off := 49) rfl (by rw [zhs1_1]; rfl) rfl ?_
    refine ip_Ev.steps 1 (pc' := 51) (lv' := [some (.int p0), some (.int p1)]) (st' := [.int p1]) (S1 := S) rfl ?_
    cases h
    exact ip_Ev.ret rfl
  rw [if_neg zhs1_1] at h
  by_cases zhs1_2 : p0 = 3
  · rw [if_pos zhs1_2] at h
    refine ip_Ev.ts (off := 36) rfl (by rw [zhs1_2]; rfl) rfl ?_
    refine ip_Ev.steps 3 (pc' := 41) (lv' := [some (.int p0), some (.int p1)]) (st' := [.int (p1 &&& 56)]) (S1 := S) rfl ?_
    cases h
    exact ip_Ev.ret rfl
  rw [if_neg zhs1_2] at h
  by_cases zhs1_3 : p0 = 4
  · rw [if_pos zhs1_3] at h
    refine ip_Ev.ts (off := 41) rfl (by rw [zhs1_3]; rfl) rfl ?_
    refine ip_Ev.steps 5 (pc' := 49) (lv' := [some (.int p0), some (.int p1)]) (st' := [.int ((p1 &&& 56) ||| 32)]) (S1 := S) rfl ?_
    cases h
    exact ip_Ev.ret rfl
  rw [if_neg zhs1_3] at h
  have zhs1_0n : ¬ Int32.toInt p0 = 1 := fun q => zhs1_0 (Int32.toInt_inj.mp q)
  have zhs1_1n : ¬ Int32.toInt p0 = 2 := fun q => zhs1_1 (Int32.toInt_inj.mp q)
  have zhs1_2n : ¬ Int32.toInt p0 = 3 := fun q => zhs1_2 (Int32.toInt_inj.mp q)
  have zhs1_3n : ¬ Int32.toInt p0 = 4 := fun q => zhs1_3 (Int32.toInt_inj.mp q)
  refine ip_Ev.ts (off := 49) rfl (ip_tsO_out (by omega)) rfl ?_
  refine ip_Ev.steps 1 (pc' := 51) (lv' := [some (.int p0), some (.int p1)]) (st' := [.int p1]) (S1 := S) rfl ?_
  cases h
  exact ip_Ev.ret rfl
-- M_saidBy
def f_M_saidBy (p0 : Int32) (p1 : Int32) (p2 : Int32) : Int32 := ((ip_ishr (f_M_saysBy p0 (ip_ishl p2 p1)) p1) &&& 1)
set_option maxRecDepth 10000 in
theorem T_M_saidBy {p0 : Int32} {p1 : Int32} {p2 : Int32} {S : ip_St} {r : Int32} (h : f_M_saidBy p0 p1 p2 = r) : ip_Me 150 [.int p0, .int p1, .int p2] S (some (.int r)) S := by
  unfold f_M_saidBy at h
  refine ⟨[some (.int p0), some (.int p1), some (.int p2)], rfl, ?_⟩
  refine ip_Ev.steps 4 (pc' := 4) (lv' := [some (.int p0), some (.int p1), some (.int p2)]) (st' := [.int (ip_ishl p2 p1), .int p0]) (S1 := S) rfl ?_
  refine ip_Ev.call (i := 99) (a := [.int p0, .int (ip_ishl p2 p1)]) (r := []) rfl (T_M_saysBy rfl) ?_
  show ip_Ev 150 7 [some (.int p0), some (.int p1), some (.int p2)] [.int (f_M_saysBy p0 (ip_ishl p2 p1))] S _ _
  refine ip_Ev.steps 4 (pc' := 11) (lv' := [some (.int p0), some (.int p1), some (.int p2)]) (st' := [.int ((ip_ishr (f_M_saysBy p0 (ip_ishl p2 p1)) p1) &&& 1)]) (S1 := S) rfl ?_
  cases h
  exact ip_Ev.ret rfl
-- M_kindsOf
def f_M_kindsOf_15 (k4 : Int32 → Int32 → Int32 → ip_St → Option (Int32)) : Nat → Int32 → Int32 → Int32 → Int32 → Int32 → ip_St → Option (Int32)
  | 0, _, _, _, _, _, _ => none
  | n + 1, x1, x2, x3, x4, x5, S => (if (4 * (S.1 30 29)) ≤ x5 then (if x4 = 0 then (k4 x1 (x2 ||| 0) (x3 + 1) S) else (k4 x1 (x2 ||| (ip_ishl 1 x3)) (x3 + 1) S)) else (if x4 = 0 then (f_M_kindsOf_15 k4 n x1 x2 x3 0 (x5 + 4) S) else ((ip_aI S 49 x5).bind fun zv4 => (if zv4 = x1 then ((ip_aI S 49 (x5 + 1)).bind fun zv6 => ((ip_aI S 49 (x5 + 2)).bind fun zv7 => ((ip_aI S 49 (x5 + 3)).bind fun zv8 => (if (f_M_saidBy x3 zv6 zv7) = zv8 then (f_M_kindsOf_15 k4 n x1 x2 x3 1 (x5 + 4) S) else (f_M_kindsOf_15 k4 n x1 x2 x3 0 (x5 + 4) S))))) else (f_M_kindsOf_15 k4 n x1 x2 x3 1 (x5 + 4) S)))))
set_option maxRecDepth 10000 in
theorem E_M_kindsOf_15 {k4 : Int32 → Int32 → Int32 → ip_St → Option (Int32)} (hk4 : ∀ {x1 : Int32} {x2 : Int32} {x3 : Int32} {S : ip_St} {r : Int32} {d4 : Option Value} {d5 : Option Value}, k4 x1 x2 x3 S = some r → ip_Ev 151 4 [some (.ref 30), some (.int x1), some (.int x2), some (.int x3), d4, d5] [] S (some (.int r)) S) : ∀ (n : Nat) {x1 : Int32} {x2 : Int32} {x3 : Int32} {x4 : Int32} {x5 : Int32} {S : ip_St} {r : Int32}, f_M_kindsOf_15 k4 n x1 x2 x3 x4 x5 S = some r → ip_Ev 151 15 [some (.ref 30), some (.int x1), some (.int x2), some (.int x3), some (.int x4), some (.int x5)] [] S (some (.int r)) S := by
  intro n
  induction n with
  | zero =>
    intro x1 x2 x3 x4 x5 S r h
    cases h
  | succ n ih =>
    intro x1 x2 x3 x4 x5 S r h
    rw [f_M_kindsOf_15] at h
    refine ip_Ev.steps 5 (pc' := 23) (lv' := [some (.ref 30), some (.int x1), some (.int x2), some (.int x3), some (.int x4), some (.int x5)]) (st' := [.int (4 * (S.1 30 29)), .int x5]) (S1 := S) rfl ?_
    refine ip_Ev.iff2 rfl rfl ip_cGe (fun zhc1 => ?_) (fun zhc1 => ?_)
    · rw [if_pos zhc1] at h
      refine ip_Ev.steps 2 (pc' := 92) (lv' := [some (.ref 30), some (.int x1), some (.int x2), some (.int x3), some (.int x4), some (.int x5)]) (st' := [.int x4, .int x2]) (S1 := S) rfl ?_
      refine ip_Ev.iff1 rfl rfl ip_cEq (fun zhc2 => ?_) (fun zhc2 => ?_)
      · rw [if_pos zhc2] at h
        refine ip_Ev.steps 5 (pc' := 4) (lv' := [some (.ref 30), some (.int x1), some (.int (x2 ||| 0)), some (.int (x3 + 1)), some (.int x4), some (.int x5)]) (st' := []) (S1 := S) rfl ?_
        exact hk4 h
      · rw [if_neg zhc2] at h
        refine ip_Ev.steps 8 (pc' := 4) (lv' := [some (.ref 30), some (.int x1), some (.int (x2 ||| (ip_ishl 1 x3))), some (.int (x3 + 1)), some (.int x4), some (.int x5)]) (st' := []) (S1 := S) rfl ?_
        exact hk4 h
    · rw [if_neg zhc1] at h
      refine ip_Ev.steps 1 (pc' := 28) (lv' := [some (.ref 30), some (.int x1), some (.int x2), some (.int x3), some (.int x4), some (.int x5)]) (st' := [.int x4]) (S1 := S) rfl ?_
      refine ip_Ev.iff1 rfl rfl ip_cEq (fun zhc3 => ?_) (fun zhc3 => ?_)
      · rw [if_pos zhc3] at h
        refine ip_Ev.steps 4 (pc' := 15) (lv' := [some (.ref 30), some (.int x1), some (.int x2), some (.int x3), some (.int 0), some (.int (x5 + 4))]) (st' := []) (S1 := S) rfl ?_
        exact ih h
      · rw [if_neg zhc3] at h
        refine ip_Ev.steps 3 (pc' := 37) (lv' := [some (.ref 30), some (.int x1), some (.int x2), some (.int x3), some (.int x4), some (.int x5)]) (st' := [.int x5, .ref 49]) (S1 := S) rfl ?_
        obtain ⟨zv4, hzv4, h⟩ := ip_bind h
        refine ip_Ev.iald rfl hzv4 ?_
        refine ip_Ev.steps 1 (pc' := 39) (lv' := [some (.ref 30), some (.int x1), some (.int x2), some (.int x3), some (.int x4), some (.int x5)]) (st' := [.int x1, .int zv4]) (S1 := S) rfl ?_
        refine ip_Ev.iff2 rfl rfl ip_cNe (fun zhc5 => ?_) (fun zhc5 => ?_)
        · rw [if_neg zhc5] at h
          refine ip_Ev.steps 5 (pc' := 15) (lv' := [some (.ref 30), some (.int x1), some (.int x2), some (.int x3), some (.int 1), some (.int (x5 + 4))]) (st' := []) (S1 := S) rfl ?_
          exact ih h
        · rw [if_pos (Decidable.of_not_not zhc5)] at h
          refine ip_Ev.steps 6 (pc' := 51) (lv' := [some (.ref 30), some (.int x1), some (.int x2), some (.int x3), some (.int x4), some (.int x5)]) (st' := [.int (x5 + 1), .ref 49, .int x3]) (S1 := S) rfl ?_
          obtain ⟨zv6, hzv6, h⟩ := ip_bind h
          refine ip_Ev.iald rfl hzv6 ?_
          refine ip_Ev.steps 5 (pc' := 60) (lv' := [some (.ref 30), some (.int x1), some (.int x2), some (.int x3), some (.int x4), some (.int x5)]) (st' := [.int (x5 + 2), .ref 49, .int zv6, .int x3]) (S1 := S) rfl ?_
          obtain ⟨zv7, hzv7, h⟩ := ip_bind h
          refine ip_Ev.iald rfl hzv7 ?_
          refine ip_Ev.call (i := 150) (a := [.int x3, .int zv6, .int zv7]) (r := []) rfl (T_M_saidBy rfl) ?_
          show ip_Ev 151 64 [some (.ref 30), some (.int x1), some (.int x2), some (.int x3), some (.int x4), some (.int x5)] [.int (f_M_saidBy x3 zv6 zv7)] S _ _
          refine ip_Ev.steps 5 (pc' := 72) (lv' := [some (.ref 30), some (.int x1), some (.int x2), some (.int x3), some (.int x4), some (.int x5)]) (st' := [.int (x5 + 3), .ref 49, .int (f_M_saidBy x3 zv6 zv7)]) (S1 := S) rfl ?_
          obtain ⟨zv8, hzv8, h⟩ := ip_bind h
          refine ip_Ev.iald rfl hzv8 ?_
          refine ip_Ev.iff2 rfl rfl ip_cNe (fun zhc9 => ?_) (fun zhc9 => ?_)
          · rw [if_neg zhc9] at h
            refine ip_Ev.steps 4 (pc' := 15) (lv' := [some (.ref 30), some (.int x1), some (.int x2), some (.int x3), some (.int 0), some (.int (x5 + 4))]) (st' := []) (S1 := S) rfl ?_
            exact ih h
          · rw [if_pos (Decidable.of_not_not zhc9)] at h
            refine ip_Ev.steps 5 (pc' := 15) (lv' := [some (.ref 30), some (.int x1), some (.int x2), some (.int x3), some (.int 1), some (.int (x5 + 4))]) (st' := []) (S1 := S) rfl ?_
            exact ih h
def f_M_kindsOf_4 : Nat → Int32 → Int32 → Int32 → ip_St → Option (Int32)
  | 0, _, _, _, _ => none
  | n + 1, x1, x2, x3, S => (if 5 ≤ x3 then some x2 else (f_M_kindsOf_15 (f_M_kindsOf_4 n) ip_FU x1 x2 x3 1 0 S))
set_option maxRecDepth 10000 in
theorem E_M_kindsOf_4 : ∀ (n : Nat) {x1 : Int32} {x2 : Int32} {x3 : Int32} {S : ip_St} {r : Int32} {d4 : Option Value} {d5 : Option Value}, f_M_kindsOf_4 n x1 x2 x3 S = some r → ip_Ev 151 4 [some (.ref 30), some (.int x1), some (.int x2), some (.int x3), d4, d5] [] S (some (.int r)) S := by
  intro n
  induction n with
  | zero =>
    intro x1 x2 x3 S r d4 d5 h
    cases h
  | succ n ih =>
    intro x1 x2 x3 S r d4 d5 h
    rw [f_M_kindsOf_4] at h
    refine ip_Ev.steps 2 (pc' := 6) (lv' := [some (.ref 30), some (.int x1), some (.int x2), some (.int x3), d4, d5]) (st' := [.int 5, .int x3]) (S1 := S) rfl ?_
    refine ip_Ev.iff2 rfl rfl ip_cGe (fun zhc1 => ?_) (fun zhc1 => ?_)
    · rw [if_pos zhc1] at h
      refine ip_Ev.steps 1 (pc' := 111) (lv' := [some (.ref 30), some (.int x1), some (.int x2), some (.int x3), d4, d5]) (st' := [.int x2]) (S1 := S) rfl ?_
      cases h
      exact ip_Ev.ret rfl
    · rw [if_neg zhc1] at h
      refine ip_Ev.steps 4 (pc' := 15) (lv' := [some (.ref 30), some (.int x1), some (.int x2), some (.int x3), some (.int 1), some (.int 0)]) (st' := []) (S1 := S) rfl ?_
      exact E_M_kindsOf_15 ih ip_FU h
def f_M_kindsOf (p1 : Int32) (S : ip_St) : Option (Int32) := (f_M_kindsOf_4 ip_FU p1 0 0 S)
set_option maxRecDepth 10000 in
theorem T_M_kindsOf {p1 : Int32} {S : ip_St} {r : Int32} (h : f_M_kindsOf p1 S = some r) : ip_Me 151 [.ref 30, .int p1] S (some (.int r)) S := by
  unfold f_M_kindsOf at h
  refine ⟨[some (.ref 30), some (.int p1), none, none, none, none], rfl, ?_⟩
  refine ip_Ev.steps 4 (pc' := 4) (lv' := [some (.ref 30), some (.int p1), some (.int 0), some (.int 0), none, none]) (st' := []) (S1 := S) rfl ?_
  exact E_M_kindsOf_4 ip_FU h
-- M_testOf
def f_M_testOf_118 (k15 : Int32 → Int32 → Int32 → Int32 → ip_St → Option (Int32)) (x2 : Int32) (x4 : Int32) (x5 : Int32) (x8 : Int32) (s0 : Int32) (S : ip_St) : Option (Int32) := (if x4 ≤ x8 then (k15 x2 s0 x4 (x5 + 1) S) else (k15 x2 s0 x8 (x5 + 1) S))
set_option maxRecDepth 10000 in
theorem E_M_testOf_118 {k15 : Int32 → Int32 → Int32 → Int32 → ip_St → Option (Int32)} (hk15 : ∀ {x2 : Int32} {x3 : Int32} {x4 : Int32} {x5 : Int32} {S : ip_St} {r : Int32} {d0 : Option Value} {d1 : Option Value} {d6 : Option Value} {d7 : Option Value} {d8 : Option Value} {d9 : Option Value}, k15 x2 x3 x4 x5 S = some r → ip_Ev 152 15 [d0, d1, some (.int x2), some (.int x3), some (.int x4), some (.int x5), d6, d7, d8, d9] [] S (some (.int r)) S) {x2 : Int32} {x4 : Int32} {x5 : Int32} {x8 : Int32} {s0 : Int32} {S : ip_St} {r : Int32} {d0 : Option Value} {d1 : Option Value} {d3 : Option Value} {d6 : Option Value} {d7 : Option Value} {d9 : Option Value} (h : f_M_testOf_118 k15 x2 x4 x5 x8 s0 S = some r) : ip_Ev 152 118 [d0, d1, some (.int x2), d3, some (.int x4), some (.int x5), d6, d7, some (.int x8), d9] [.int s0] S (some (.int r)) S := by
  unfold f_M_testOf_118 at h
  refine ip_Ev.steps 3 (pc' := 123) (lv' := [d0, d1, some (.int x2), some (.int s0), some (.int x4), some (.int x5), d6, d7, some (.int x8), d9]) (st' := [.int x4, .int x8]) (S1 := S) rfl ?_
  refine ip_Ev.iff2 rfl rfl ip_cGe (fun zhc1 => ?_) (fun zhc1 => ?_)
  · rw [if_pos zhc1] at h
    refine ip_Ev.steps 4 (pc' := 15) (lv' := [d0, d1, some (.int x2), some (.int s0), some (.int x4), some (.int (x5 + 1)), d6, d7, some (.int x8), d9]) (st' := []) (S1 := S) rfl ?_
    exact hk15 h
  · rw [if_neg zhc1] at h
    refine ip_Ev.steps 5 (pc' := 15) (lv' := [d0, d1, some (.int x2), some (.int s0), some (.int x8), some (.int (x5 + 1)), d6, d7, some (.int x8), d9]) (st' := []) (S1 := S) rfl ?_
    exact hk15 h
def f_M_testOf_103 (k15 : Int32 → Int32 → Int32 → Int32 → ip_St → Option (Int32)) (x2 : Int32) (x3 : Int32) (x4 : Int32) (x5 : Int32) (s0 : Int32) (S : ip_St) : Option (Int32) := (if x4 ≤ s0 then (f_M_testOf_118 k15 x2 x4 x5 s0 x3 S) else (f_M_testOf_118 k15 x2 x4 x5 s0 x5 S))
set_option maxRecDepth 10000 in
theorem E_M_testOf_103 {k15 : Int32 → Int32 → Int32 → Int32 → ip_St → Option (Int32)} (hk15 : ∀ {x2 : Int32} {x3 : Int32} {x4 : Int32} {x5 : Int32} {S : ip_St} {r : Int32} {d0 : Option Value} {d1 : Option Value} {d6 : Option Value} {d7 : Option Value} {d8 : Option Value} {d9 : Option Value}, k15 x2 x3 x4 x5 S = some r → ip_Ev 152 15 [d0, d1, some (.int x2), some (.int x3), some (.int x4), some (.int x5), d6, d7, d8, d9] [] S (some (.int r)) S) {x2 : Int32} {x3 : Int32} {x4 : Int32} {x5 : Int32} {s0 : Int32} {S : ip_St} {r : Int32} {d0 : Option Value} {d1 : Option Value} {d6 : Option Value} {d7 : Option Value} {d8 : Option Value} {d9 : Option Value} (h : f_M_testOf_103 k15 x2 x3 x4 x5 s0 S = some r) : ip_Ev 152 103 [d0, d1, some (.int x2), some (.int x3), some (.int x4), some (.int x5), d6, d7, d8, d9] [.int s0] S (some (.int r)) S := by
  unfold f_M_testOf_103 at h
  refine ip_Ev.steps 3 (pc' := 109) (lv' := [d0, d1, some (.int x2), some (.int x3), some (.int x4), some (.int x5), d6, (ip_kd d7), some (.int s0), d9]) (st' := [.int x4, .int s0]) (S1 := S) rfl ?_
  refine ip_Ev.iff2 rfl rfl ip_cGe (fun zhc1 => ?_) (fun zhc1 => ?_)
  · rw [if_pos zhc1] at h
    refine ip_Ev.steps 1 (pc' := 118) (lv' := [d0, d1, some (.int x2), some (.int x3), some (.int x4), some (.int x5), d6, (ip_kd d7), some (.int s0), d9]) (st' := [.int x3]) (S1 := S) rfl ?_
    exact E_M_testOf_118 hk15 h
  · rw [if_neg zhc1] at h
    refine ip_Ev.steps 2 (pc' := 118) (lv' := [d0, d1, some (.int x2), some (.int x3), some (.int x4), some (.int x5), d6, (ip_kd d7), some (.int s0), d9]) (st' := [.int x5]) (S1 := S) rfl ?_
    exact E_M_testOf_118 hk15 h
def f_M_testOf_35 (k15 : Int32 → Int32 → Int32 → Int32 → ip_St → Option (Int32)) : Nat → Int32 → Int32 → Int32 → Int32 → Int32 → Int32 → Int32 → ip_St → Option (Int32)
  | 0, _, _, _, _, _, _, _, _ => none
  | n + 1, x2, x3, x4, x5, x6, x7, x8, S => (if 5 ≤ x8 then (if x6 ≤ (x7 - x6) then (f_M_testOf_103 k15 x2 x3 x4 x5 (x7 - x6) S) else (f_M_testOf_103 k15 x2 x3 x4 x5 x6 S)) else (f_M_testOf_35 k15 n x2 x3 x4 x5 (x6 + (((ip_ishr x2 x8) &&& 1) * (f_M_saidBy x8 (x5 / 2) (ip_irem x5 2)))) (x7 + ((ip_ishr x2 x8) &&& 1)) (x8 + 1) S))
set_option maxRecDepth 10000 in
theorem E_M_testOf_35 {k15 : Int32 → Int32 → Int32 → Int32 → ip_St → Option (Int32)} (hk15 : ∀ {x2 : Int32} {x3 : Int32} {x4 : Int32} {x5 : Int32} {S : ip_St} {r : Int32} {d0 : Option Value} {d1 : Option Value} {d6 : Option Value} {d7 : Option Value} {d8 : Option Value} {d9 : Option Value}, k15 x2 x3 x4 x5 S = some r → ip_Ev 152 15 [d0, d1, some (.int x2), some (.int x3), some (.int x4), some (.int x5), d6, d7, d8, d9] [] S (some (.int r)) S) : ∀ (n : Nat) {x2 : Int32} {x3 : Int32} {x4 : Int32} {x5 : Int32} {x6 : Int32} {x7 : Int32} {x8 : Int32} {S : ip_St} {r : Int32} {d0 : Option Value} {d1 : Option Value} {d9 : Option Value}, f_M_testOf_35 k15 n x2 x3 x4 x5 x6 x7 x8 S = some r → ip_Ev 152 35 [d0, d1, some (.int x2), some (.int x3), some (.int x4), some (.int x5), some (.int x6), some (.int x7), some (.int x8), d9] [] S (some (.int r)) S := by
  intro n
  induction n with
  | zero =>
    intro x2 x3 x4 x5 x6 x7 x8 S r d0 d1 d9 h
    cases h
  | succ n ih =>
    intro x2 x3 x4 x5 x6 x7 x8 S r d0 d1 d9 h
    rw [f_M_testOf_35] at h
    refine ip_Ev.steps 2 (pc' := 38) (lv' := [d0, d1, some (.int x2), some (.int x3), some (.int x4), some (.int x5), some (.int x6), some (.int x7), some (.int x8), d9]) (st' := [.int 5, .int x8]) (S1 := S) rfl ?_
    refine ip_Ev.iff2 rfl rfl ip_cGe (fun zhc1 => ?_) (fun zhc1 => ?_)
    · rw [if_pos zhc1] at h
      refine ip_Ev.steps 4 (pc' := 90) (lv' := [d0, d1, some (.int x2), some (.int x3), some (.int x4), some (.int x5), some (.int x6), some (.int x7), some (.int x8), d9]) (st' := [.int (x7 - x6), .int x6]) (S1 := S) rfl ?_
      refine ip_Ev.iff2 rfl rfl ip_cLe (fun zhc2 => ?_) (fun zhc2 => ?_)
      · rw [if_pos zhc2] at h
        refine ip_Ev.steps 3 (pc' := 103) (lv' := [d0, d1, some (.int x2), some (.int x3), some (.int x4), some (.int x5), some (.int x6), some (.int x7), some (.int x8), d9]) (st' := [.int (x7 - x6)]) (S1 := S) rfl ?_
        exact E_M_testOf_103 hk15 h
      · rw [if_neg zhc2] at h
        refine ip_Ev.steps 2 (pc' := 103) (lv' := [d0, d1, some (.int x2), some (.int x3), some (.int x4), some (.int x5), some (.int x6), some (.int x7), some (.int x8), d9]) (st' := [.int x6]) (S1 := S) rfl ?_
        exact E_M_testOf_103 hk15 h
    · rw [if_neg zhc1] at h
      refine ip_Ev.steps 12 (pc' := 60) (lv' := [d0, d1, some (.int x2), some (.int x3), some (.int x4), some (.int x5), some (.int x6), some (.int (x7 + ((ip_ishr x2 x8) &&& 1))), some (.int x8), some (.int ((ip_ishr x2 x8) &&& 1))]) (st' := [.int ((ip_ishr x2 x8) &&& 1), .int x6]) (S1 := S) rfl ?_
      refine ip_Ev.steps 3 (pc' := 65) (lv' := [d0, d1, some (.int x2), some (.int x3), some (.int x4), some (.int x5), some (.int x6), some (.int (x7 + ((ip_ishr x2 x8) &&& 1))), some (.int x8), some (.int ((ip_ishr x2 x8) &&& 1))]) (st' := [.int 2, .int x5, .int x8, .int ((ip_ishr x2 x8) &&& 1), .int x6]) (S1 := S) rfl ?_
      refine ip_Ev.idiv rfl (by decide) ?_
      refine ip_Ev.steps 2 (pc' := 69) (lv' := [d0, d1, some (.int x2), some (.int x3), some (.int x4), some (.int x5), some (.int x6), some (.int (x7 + ((ip_ishr x2 x8) &&& 1))), some (.int x8), some (.int ((ip_ishr x2 x8) &&& 1))]) (st' := [.int 2, .int x5, .int (x5 / 2), .int x8, .int ((ip_ishr x2 x8) &&& 1), .int x6]) (S1 := S) rfl ?_
      refine ip_Ev.irem rfl (by decide) ?_
      show ip_Ev 152 70 [d0, d1, some (.int x2), some (.int x3), some (.int x4), some (.int x5), some (.int x6), some (.int (x7 + ((ip_ishr x2 x8) &&& 1))), some (.int x8), some (.int ((ip_ishr x2 x8) &&& 1))] [.int (ip_irem x5 2), .int (x5 / 2), .int x8, .int ((ip_ishr x2 x8) &&& 1), .int x6] S _ _
      refine ip_Ev.call (i := 150) (a := [.int x8, .int (x5 / 2), .int (ip_irem x5 2)]) (r := [.int ((ip_ishr x2 x8) &&& 1), .int x6]) rfl (T_M_saidBy rfl) ?_
      show ip_Ev 152 73 [d0, d1, some (.int x2), some (.int x3), some (.int x4), some (.int x5), some (.int x6), some (.int (x7 + ((ip_ishr x2 x8) &&& 1))), some (.int x8), some (.int ((ip_ishr x2 x8) &&& 1))] [.int (f_M_saidBy x8 (x5 / 2) (ip_irem x5 2)), .int ((ip_ishr x2 x8) &&& 1), .int x6] S _ _
      refine ip_Ev.steps 5 (pc' := 35) (lv' := [d0, d1, some (.int x2), some (.int x3), some (.int x4), some (.int x5), some (.int (x6 + (((ip_ishr x2 x8) &&& 1) * (f_M_saidBy x8 (x5 / 2) (ip_irem x5 2))))), some (.int (x7 + ((ip_ishr x2 x8) &&& 1))), some (.int (x8 + 1)), some (.int ((ip_ishr x2 x8) &&& 1))]) (st' := []) (S1 := S) rfl ?_
      exact ih h
def f_M_testOf_15 : Nat → Int32 → Int32 → Int32 → Int32 → ip_St → Option (Int32)
  | 0, _, _, _, _, _ => none
  | n + 1, x2, x3, x4, x5, S => (if 12 ≤ x5 then some x3 else (if x2 = 0 then some x3 else (f_M_testOf_35 (f_M_testOf_15 n) ip_FU x2 x3 x4 x5 0 0 0 S)))
set_option maxRecDepth 10000 in
theorem E_M_testOf_15 : ∀ (n : Nat) {x2 : Int32} {x3 : Int32} {x4 : Int32} {x5 : Int32} {S : ip_St} {r : Int32} {d0 : Option Value} {d1 : Option Value} {d6 : Option Value} {d7 : Option Value} {d8 : Option Value} {d9 : Option Value}, f_M_testOf_15 n x2 x3 x4 x5 S = some r → ip_Ev 152 15 [d0, d1, some (.int x2), some (.int x3), some (.int x4), some (.int x5), d6, d7, d8, d9] [] S (some (.int r)) S := by
  intro n
  induction n with
  | zero =>
    intro x2 x3 x4 x5 S r d0 d1 d6 d7 d8 d9 h
    cases h
  | succ n ih =>
    intro x2 x3 x4 x5 S r d0 d1 d6 d7 d8 d9 h
    rw [f_M_testOf_15] at h
    refine ip_Ev.steps 2 (pc' := 19) (lv' := [d0, d1, some (.int x2), some (.int x3), some (.int x4), some (.int x5), d6, d7, d8, d9]) (st' := [.int 12, .int x5]) (S1 := S) rfl ?_
    refine ip_Ev.iff2 rfl rfl ip_cGe (fun zhc1 => ?_) (fun zhc1 => ?_)
    · rw [if_pos zhc1] at h
      refine ip_Ev.steps 1 (pc' := 142) (lv' := [d0, d1, some (.int x2), some (.int x3), some (.int x4), some (.int x5), d6, d7, d8, d9]) (st' := [.int x3]) (S1 := S) rfl ?_
      cases h
      exact ip_Ev.ret rfl
    · rw [if_neg zhc1] at h
      refine ip_Ev.steps 1 (pc' := 23) (lv' := [d0, d1, some (.int x2), some (.int x3), some (.int x4), some (.int x5), d6, d7, d8, d9]) (st' := [.int x2]) (S1 := S) rfl ?_
      refine ip_Ev.iff1 rfl rfl ip_cEq (fun zhc2 => ?_) (fun zhc2 => ?_)
      · rw [if_pos zhc2] at h
        refine ip_Ev.steps 1 (pc' := 142) (lv' := [d0, d1, some (.int x2), some (.int x3), some (.int x4), some (.int x5), d6, d7, d8, d9]) (st' := [.int x3]) (S1 := S) rfl ?_
        cases h
        exact ip_Ev.ret rfl
      · rw [if_neg zhc2] at h
        refine ip_Ev.steps 6 (pc' := 35) (lv' := [d0, d1, some (.int x2), some (.int x3), some (.int x4), some (.int x5), some (.int 0), some (.int 0), some (.int 0), d9]) (st' := []) (S1 := S) rfl ?_
        exact E_M_testOf_35 ih ip_FU h
def f_M_testOf (p1 : Int32) (S : ip_St) : Option (Int32) := ((f_M_kindsOf p1 S).bind fun zv2 => (f_M_testOf_15 ip_FU zv2 (-1) 6 0 S))
set_option maxRecDepth 10000 in
theorem T_M_testOf {p1 : Int32} {S : ip_St} {r : Int32} (h : f_M_testOf p1 S = some r) : ip_Me 152 [.ref 30, .int p1] S (some (.int r)) S := by
  unfold f_M_testOf at h
  refine ⟨[some (.ref 30), some (.int p1), none, none, none, none, none, none, none, none], rfl, ?_⟩
  refine ip_Ev.steps 2 (pc' := 2) (lv' := [some (.ref 30), some (.int p1), none, none, none, none, none, none, none, none]) (st' := [.int p1, .ref 30]) (S1 := S) rfl ?_
  obtain ⟨zv2, hzq1, h⟩ := ip_bind h
  refine ip_Ev.call (i := 151) (a := [.ref 30, .int p1]) (r := []) rfl (T_M_kindsOf hzq1) ?_
  show ip_Ev 152 5 [some (.ref 30), some (.int p1), none, none, none, none, none, none, none, none] [.int zv2] S _ _
  refine ip_Ev.steps 7 (pc' := 15) (lv' := [some (.ref 30), some (.int p1), some (.int zv2), some (.int (-1)), some (.int 6), some (.int 0), none, none, none, none]) (st' := []) (S1 := S) rfl ?_
  exact E_M_testOf_15 ip_FU h
-- M_saysRow
def f_M_saysRow (p1 : Int32) (p2 : Int32) (S : ip_St) : Option (Int64) := ((ip_aL S 31 ((6 * p1) + p2)).bind fun zv1 => some zv1)
set_option maxRecDepth 10000 in
theorem T_M_saysRow {p1 : Int32} {p2 : Int32} {S : ip_St} {r : Int64} (h : f_M_saysRow p1 p2 S = some r) : ip_Me 137 [.ref 30, .int p1, .int p2] S (some (.long r)) S := by
  unfold f_M_saysRow at h
  refine ⟨[some (.ref 30), some (.int p1), some (.int p2)], rfl, ?_⟩
  refine ip_Ev.steps 7 (pc' := 10) (lv' := [some (.ref 30), some (.int p1), some (.int p2)]) (st' := [.int ((6 * p1) + p2), .ref 31]) (S1 := S) rfl ?_
  obtain ⟨zv1, hzv1, h⟩ := ip_bind h
  refine ip_Ev.lald rfl hzv1 ?_
  cases h
  exact ip_Ev.ret rfl
-- M_keptIf
def f_M_keptIf (p0 : Int64) (p1 : Int32) : Int64 := (if p1 = 1 then p0 else (p0 ^^^ (-1)))
set_option maxRecDepth 10000 in
theorem T_M_keptIf {p0 : Int64} {p1 : Int32} {S : ip_St} {r : Int64} (h : f_M_keptIf p0 p1 = r) : ip_Me 136 [.long p0, .int p1] S (some (.long r)) S := by
  unfold f_M_keptIf at h
  refine ⟨[some (.long p0), none, some (.int p1)], rfl, ?_⟩
  refine ip_Ev.steps 2 (pc' := 2) (lv' := [some (.long p0), none, some (.int p1)]) (st' := [.int 1, .int p1]) (S1 := S) rfl ?_
  refine ip_Ev.iff2 rfl rfl ip_cNe (fun zhc1 => ?_) (fun zhc1 => ?_)
  · rw [if_neg zhc1] at h
    refine ip_Ev.steps 3 (pc' := 14) (lv' := [some (.long p0), none, some (.int p1)]) (st' := [.long (p0 ^^^ (-1))]) (S1 := S) rfl ?_
    cases h
    exact ip_Ev.ret rfl
  · rw [if_pos (Decidable.of_not_not zhc1)] at h
    refine ip_Ev.steps 2 (pc' := 14) (lv' := [some (.long p0), none, some (.int p1)]) (st' := [.long p0]) (S1 := S) rfl ?_
    cases h
    exact ip_Ev.ret rfl
-- M_waysOf
def f_M_waysOf_66 (k7 : Int32 → Int64 → Int32 → ip_St → Option (Int64)) (x1 : Int32) (x4 : Int32) (x6 : Int32) (s0 : Int64) (s1 : Int64) (S : ip_St) : Option (Int64) := (if x6 = (-1) then (k7 x1 ((s0 &&& s1) &&& (-1)) (x4 + 1) S) else ((ip_aI S 42 (2 * x1)).bind fun zv2 => ((f_M_saysRow zv2 x4 S).bind fun zv4 => (k7 x1 ((s0 &&& s1) &&& (f_M_keptIf zv4 x6)) (x4 + 1) S))))
set_option maxRecDepth 10000 in
theorem E_M_waysOf_66 {k7 : Int32 → Int64 → Int32 → ip_St → Option (Int64)} (hk7 : ∀ {x1 : Int32} {x2 : Int64} {x4 : Int32} {S : ip_St} {r : Int64} {d5 : Option Value} {d6 : Option Value}, k7 x1 x2 x4 S = some r → ip_Ev 138 7 [some (.ref 30), some (.int x1), some (.long x2), none, some (.int x4), d5, d6] [] S (some (.long r)) S) {x1 : Int32} {x4 : Int32} {x6 : Int32} {s0 : Int64} {s1 : Int64} {S : ip_St} {r : Int64} {d2 : Option Value} {d3 : Option Value} {d5 : Option Value} (h : f_M_waysOf_66 k7 x1 x4 x6 s0 s1 S = some r) : ip_Ev 138 66 [some (.ref 30), some (.int x1), d2, d3, some (.int x4), d5, some (.int x6)] [.long s1, .long s0] S (some (.long r)) S := by
  unfold f_M_waysOf_66 at h
  refine ip_Ev.steps 5 (pc' := 72) (lv' := [some (.ref 30), some (.int x1), some (.long (s0 &&& s1)), none, some (.int x4), d5, some (.int x6)]) (st' := [.int (-1), .int x6, .long (s0 &&& s1)]) (S1 := S) rfl ?_
  refine ip_Ev.iff2 rfl rfl ip_cNe (fun zhc1 => ?_) (fun zhc1 => ?_)
  · rw [if_neg zhc1] at h
    refine ip_Ev.steps 6 (pc' := 89) (lv' := [some (.ref 30), some (.int x1), some (.long (s0 &&& s1)), none, some (.int x4), d5, some (.int x6)]) (st' := [.int (2 * x1), .ref 42, .ref 30, .long (s0 &&& s1)]) (S1 := S) rfl ?_
    obtain ⟨zv2, hzv2, h⟩ := ip_bind h
    refine ip_Ev.iald rfl hzv2 ?_
    refine ip_Ev.steps 1 (pc' := 92) (lv' := [some (.ref 30), some (.int x1), some (.long (s0 &&& s1)), none, some (.int x4), d5, some (.int x6)]) (st' := [.int x4, .int zv2, .ref 30, .long (s0 &&& s1)]) (S1 := S) rfl ?_
    obtain ⟨zv4, hzq3, h⟩ := ip_bind h
    refine ip_Ev.call (i := 137) (a := [.ref 30, .int zv2, .int x4]) (r := [.long (s0 &&& s1)]) rfl (T_M_saysRow hzq3) ?_
    show ip_Ev 138 95 [some (.ref 30), some (.int x1), some (.long (s0 &&& s1)), none, some (.int x4), d5, some (.int x6)] [.long zv4, .long (s0 &&& s1)] S _ _
    refine ip_Ev.steps 1 (pc' := 97) (lv' := [some (.ref 30), some (.int x1), some (.long (s0 &&& s1)), none, some (.int x4), d5, some (.int x6)]) (st' := [.int x6, .long zv4, .long (s0 &&& s1)]) (S1 := S) rfl ?_
    refine ip_Ev.call (i := 136) (a := [.long zv4, .int x6]) (r := [.long (s0 &&& s1)]) rfl (T_M_keptIf rfl) ?_
    show ip_Ev 138 100 [some (.ref 30), some (.int x1), some (.long (s0 &&& s1)), none, some (.int x4), d5, some (.int x6)] [.long (f_M_keptIf zv4 x6), .long (s0 &&& s1)] S _ _
    refine ip_Ev.steps 4 (pc' := 7) (lv' := [some (.ref 30), some (.int x1), some (.long ((s0 &&& s1) &&& (f_M_keptIf zv4 x6))), none, some (.int (x4 + 1)), d5, some (.int x6)]) (st' := []) (S1 := S) rfl ?_
    exact hk7 h
  · rw [if_pos (Decidable.of_not_not zhc1)] at h
    refine ip_Ev.steps 6 (pc' := 7) (lv' := [some (.ref 30), some (.int x1), some (.long ((s0 &&& s1) &&& (-1))), none, some (.int (x4 + 1)), d5, some (.int x6)]) (st' := []) (S1 := S) rfl ?_
    exact hk7 h
def f_M_waysOf_7 : Nat → Int32 → Int64 → Int32 → ip_St → Option (Int64)
  | 0, _, _, _, _ => none
  | n + 1, x1, x2, x4, S => (if 6 ≤ x4 then some x2 else ((ip_aI S 43 ((6 * x1) + x4)).bind fun zv2 => ((ip_aI S 44 ((6 * x1) + x4)).bind fun zv3 => (if zv2 = (-1) then (f_M_waysOf_66 (f_M_waysOf_7 n) x1 x4 zv3 x2 (-1) S) else ((f_M_rowOf x4 S).bind fun zv6 => (f_M_waysOf_66 (f_M_waysOf_7 n) x1 x4 zv3 x2 (f_M_keptIf zv6 zv2) S))))))
set_option maxRecDepth 10000 in
theorem E_M_waysOf_7 : ∀ (n : Nat) {x1 : Int32} {x2 : Int64} {x4 : Int32} {S : ip_St} {r : Int64} {d5 : Option Value} {d6 : Option Value}, f_M_waysOf_7 n x1 x2 x4 S = some r → ip_Ev 138 7 [some (.ref 30), some (.int x1), some (.long x2), none, some (.int x4), d5, d6] [] S (some (.long r)) S := by
  intro n
  induction n with
  | zero =>
    intro x1 x2 x4 S r d5 d6 h
    cases h
  | succ n ih =>
    intro x1 x2 x4 S r d5 d6 h
    rw [f_M_waysOf_7] at h
    refine ip_Ev.steps 2 (pc' := 11) (lv' := [some (.ref 30), some (.int x1), some (.long x2), none, some (.int x4), d5, d6]) (st' := [.int 6, .int x4]) (S1 := S) rfl ?_
    refine ip_Ev.iff2 rfl rfl ip_cGe (fun zhc1 => ?_) (fun zhc1 => ?_)
    · rw [if_pos zhc1] at h
      refine ip_Ev.steps 1 (pc' := 109) (lv' := [some (.ref 30), some (.int x1), some (.long x2), none, some (.int x4), d5, d6]) (st' := [.long x2]) (S1 := S) rfl ?_
      cases h
      exact ip_Ev.ret rfl
    · rw [if_neg zhc1] at h
      refine ip_Ev.steps 7 (pc' := 25) (lv' := [some (.ref 30), some (.int x1), some (.long x2), none, some (.int x4), d5, d6]) (st' := [.int ((6 * x1) + x4), .ref 43]) (S1 := S) rfl ?_
      obtain ⟨zv2, hzv2, h⟩ := ip_bind h
      refine ip_Ev.iald rfl hzv2 ?_
      refine ip_Ev.steps 8 (pc' := 39) (lv' := [some (.ref 30), some (.int x1), some (.long x2), none, some (.int x4), some (.int zv2), d6]) (st' := [.int ((6 * x1) + x4), .ref 44]) (S1 := S) rfl ?_
      obtain ⟨zv3, hzv3, h⟩ := ip_bind h
      refine ip_Ev.iald rfl hzv3 ?_
      refine ip_Ev.steps 4 (pc' := 46) (lv' := [some (.ref 30), some (.int x1), some (.long x2), none, some (.int x4), some (.int zv2), some (.int zv3)]) (st' := [.int (-1), .int zv2, .long x2]) (S1 := S) rfl ?_
      refine ip_Ev.iff2 rfl rfl ip_cNe (fun zhc4 => ?_) (fun zhc4 => ?_)
      · rw [if_neg zhc4] at h
        refine ip_Ev.steps 2 (pc' := 58) (lv' := [some (.ref 30), some (.int x1), some (.long x2), none, some (.int x4), some (.int zv2), some (.int zv3)]) (st' := [.int x4, .ref 30, .long x2]) (S1 := S) rfl ?_
        obtain ⟨zv6, hzq5, h⟩ := ip_bind h
        refine ip_Ev.call (i := 118) (a := [.ref 30, .int x4]) (r := [.long x2]) rfl (T_M_rowOf hzq5) ?_
        show ip_Ev 138 61 [some (.ref 30), some (.int x1), some (.long x2), none, some (.int x4), some (.int zv2), some (.int zv3)] [.long zv6, .long x2] S _ _
        refine ip_Ev.steps 1 (pc' := 63) (lv' := [some (.ref 30), some (.int x1), some (.long x2), none, some (.int x4), some (.int zv2), some (.int zv3)]) (st' := [.int zv2, .long zv6, .long x2]) (S1 := S) rfl ?_
        refine ip_Ev.call (i := 136) (a := [.long zv6, .int zv2]) (r := [.long x2]) rfl (T_M_keptIf rfl) ?_
        show ip_Ev 138 66 [some (.ref 30), some (.int x1), some (.long x2), none, some (.int x4), some (.int zv2), some (.int zv3)] [.long (f_M_keptIf zv6 zv2), .long x2] S _ _
        exact E_M_waysOf_66 ih h
      · rw [if_pos (Decidable.of_not_not zhc4)] at h
        refine ip_Ev.steps 2 (pc' := 66) (lv' := [some (.ref 30), some (.int x1), some (.long x2), none, some (.int x4), some (.int zv2), some (.int zv3)]) (st' := [.long (-1), .long x2]) (S1 := S) rfl ?_
        exact E_M_waysOf_66 ih h
def f_M_waysOf (p1 : Int32) (S : ip_St) : Option (Int64) := (f_M_waysOf_7 ip_FU p1 (-1) 0 S)
set_option maxRecDepth 10000 in
theorem T_M_waysOf {p1 : Int32} {S : ip_St} {r : Int64} (h : f_M_waysOf p1 S = some r) : ip_Me 138 [.ref 30, .int p1] S (some (.long r)) S := by
  unfold f_M_waysOf at h
  refine ⟨[some (.ref 30), some (.int p1), none, none, none, none, none], rfl, ?_⟩
  refine ip_Ev.steps 4 (pc' := 7) (lv' := [some (.ref 30), some (.int p1), some (.long (-1)), none, some (.int 0), none, none]) (st' := []) (S1 := S) rfl ?_
  exact E_M_waysOf_7 ip_FU h
-- M_freesRow
def f_M_freesRow_5 : Nat → Int32 → Int64 → Int64 → Int32 → Option (Int64)
  | 0, _, _, _, _ => none
  | n + 1, x0, x1, x3, x5 => (if 64 ≤ x5 then some x3 else (if ((ip_lshr x1 (f_M_saysBy x0 x5)) &&& 1) = 1 then (f_M_freesRow_5 n x0 x1 (x3 ||| (ip_lshl 1 x5)) (x5 + 1)) else (f_M_freesRow_5 n x0 x1 (x3 ||| 0) (x5 + 1))))
set_option maxRecDepth 10000 in
theorem E_M_freesRow_5 : ∀ (n : Nat) {x0 : Int32} {x1 : Int64} {x3 : Int64} {x5 : Int32} {S : ip_St} {r : Int64}, f_M_freesRow_5 n x0 x1 x3 x5 = some r → ip_Ev 139 5 [some (.int x0), some (.long x1), none, some (.long x3), none, some (.int x5)] [] S (some (.long r)) S := by
  intro n
  induction n with
  | zero =>
    intro x0 x1 x3 x5 S r h
    cases h
  | succ n ih =>
    intro x0 x1 x3 x5 S r h
    rw [f_M_freesRow_5] at h
    refine ip_Ev.steps 2 (pc' := 9) (lv' := [some (.int x0), some (.long x1), none, some (.long x3), none, some (.int x5)]) (st' := [.int 64, .int x5]) (S1 := S) rfl ?_
    refine ip_Ev.iff2 rfl rfl ip_cGe (fun zhc1 => ?_) (fun zhc1 => ?_)
    · rw [if_pos zhc1] at h
      refine ip_Ev.steps 1 (pc' := 45) (lv' := [some (.int x0), some (.long x1), none, some (.long x3), none, some (.int x5)]) (st' := [.long x3]) (S1 := S) rfl ?_
      cases h
      exact ip_Ev.ret rfl
    · rw [if_neg zhc1] at h
      refine ip_Ev.steps 4 (pc' := 17) (lv' := [some (.int x0), some (.long x1), none, some (.long x3), none, some (.int x5)]) (st' := [.int x5, .int x0, .long x1, .long x3]) (S1 := S) rfl ?_
      refine ip_Ev.call (i := 99) (a := [.int x0, .int x5]) (r := [.long x1, .long x3]) rfl (T_M_saysBy rfl) ?_
      show ip_Ev 139 20 [some (.int x0), some (.long x1), none, some (.long x3), none, some (.int x5)] [.int (f_M_saysBy x0 x5), .long x1, .long x3] S _ _
      refine ip_Ev.steps 5 (pc' := 25) (lv' := [some (.int x0), some (.long x1), none, some (.long x3), none, some (.int x5)]) (st' := [.int (lg_cmp ((ip_lshr x1 (f_M_saysBy x0 x5)) &&& 1) 1), .long x3]) (S1 := S) rfl ?_
      refine ip_Ev.iff1 rfl rfl ip_lNe (fun zhc2 => ?_) (fun zhc2 => ?_)
      · rw [if_neg zhc2] at h
        refine ip_Ev.steps 5 (pc' := 5) (lv' := [some (.int x0), some (.long x1), none, some (.long (x3 ||| 0)), none, some (.int (x5 + 1))]) (st' := []) (S1 := S) rfl ?_
        exact ih h
      · rw [if_pos (Decidable.of_not_not zhc2)] at h
        refine ip_Ev.steps 8 (pc' := 5) (lv' := [some (.int x0), some (.long x1), none, some (.long (x3 ||| (ip_lshl 1 x5))), none, some (.int (x5 + 1))]) (st' := []) (S1 := S) rfl ?_
        exact ih h
def f_M_freesRow (p0 : Int32) (p1 : Int64) : Option (Int64) := (f_M_freesRow_5 ip_FU p0 p1 0 0)
set_option maxRecDepth 10000 in
theorem T_M_freesRow {p0 : Int32} {p1 : Int64} {S : ip_St} {r : Int64} (h : f_M_freesRow p0 p1 = some r) : ip_Me 139 [.int p0, .long p1] S (some (.long r)) S := by
  unfold f_M_freesRow at h
  refine ⟨[some (.int p0), some (.long p1), none, none, none, none], rfl, ?_⟩
  refine ip_Ev.steps 4 (pc' := 5) (lv' := [some (.int p0), some (.long p1), none, some (.long 0), none, some (.int 0)]) (st' := []) (S1 := S) rfl ?_
  exact E_M_freesRow_5 ip_FU h
-- M_freesOf
def f_M_freesOf (p1 : Int32) (S : ip_St) : Option (Int64) := ((ip_aI S 42 (2 * p1)).bind fun zv1 => ((f_M_freesRow zv1 (S.2 30 17)).bind fun zv3 => some zv3))
set_option maxRecDepth 10000 in
theorem T_M_freesOf {p1 : Int32} {S : ip_St} {r : Int64} (h : f_M_freesOf p1 S = some r) : ip_Me 140 [.ref 30, .int p1] S (some (.long r)) S := by
  unfold f_M_freesOf at h
  refine ⟨[some (.ref 30), some (.int p1)], rfl, ?_⟩
  refine ip_Ev.steps 5 (pc' := 7) (lv' := [some (.ref 30), some (.int p1)]) (st' := [.int (2 * p1), .ref 42]) (S1 := S) rfl ?_
  obtain ⟨zv1, hzv1, h⟩ := ip_bind h
  refine ip_Ev.iald rfl hzv1 ?_
  refine ip_Ev.steps 2 (pc' := 12) (lv' := [some (.ref 30), some (.int p1)]) (st' := [.long (S.2 30 17), .int zv1]) (S1 := S) rfl ?_
  obtain ⟨zv3, hzq2, h⟩ := ip_bind h
  refine ip_Ev.call (i := 139) (a := [.int zv1, .long (S.2 30 17)]) (r := []) rfl (T_M_freesRow hzq2) ?_
  show ip_Ev 140 15 [some (.ref 30), some (.int p1)] [.long zv3] S _ _
  cases h
  exact ip_Ev.ret rfl
-- M_strikeOf
def f_M_strikeOf_77 (k24 : Int32 → Int64 → Int32 → Int32 → Int32 → ip_St → Option (Int32 × ip_St)) (x1 : Int32) (x2 : Int64) (x5 : Int32) (x6 : Int32) (x7 : Int32) (s0 : Int32) (S : ip_St) : Option (Int32 × ip_St) := (if x7 ≤ x5 then (k24 x1 x2 s0 x5 (x6 + 1) S) else (k24 x1 x2 s0 x7 (x6 + 1) S))
set_option maxRecDepth 10000 in
theorem E_M_strikeOf_77 {k24 : Int32 → Int64 → Int32 → Int32 → Int32 → ip_St → Option (Int32 × ip_St)} (hk24 : ∀ {x1 : Int32} {x2 : Int64} {x4 : Int32} {x5 : Int32} {x6 : Int32} {S : ip_St} {r : Int32} {S9 : ip_St} {d7 : Option Value}, k24 x1 x2 x4 x5 x6 S = some (r, S9) → ip_Ev 149 24 [some (.ref 30), some (.int x1), some (.long x2), none, some (.int x4), some (.int x5), some (.int x6), d7] [] S (some (.int r)) S9) {x1 : Int32} {x2 : Int64} {x5 : Int32} {x6 : Int32} {x7 : Int32} {s0 : Int32} {S : ip_St} {r : Int32} {S9 : ip_St} {d4 : Option Value} (h : f_M_strikeOf_77 k24 x1 x2 x5 x6 x7 s0 S = some (r, S9)) : ip_Ev 149 77 [some (.ref 30), some (.int x1), some (.long x2), none, d4, some (.int x5), some (.int x6), some (.int x7)] [.int s0] S (some (.int r)) S9 := by
  unfold f_M_strikeOf_77 at h
  refine ip_Ev.steps 3 (pc' := 83) (lv' := [some (.ref 30), some (.int x1), some (.long x2), none, some (.int s0), some (.int x5), some (.int x6), some (.int x7)]) (st' := [.int x5, .int x7]) (S1 := S) rfl ?_
  refine ip_Ev.iff2 rfl rfl ip_cLe (fun zhc1 => ?_) (fun zhc1 => ?_)
  · rw [if_pos zhc1] at h
    refine ip_Ev.steps 4 (pc' := 24) (lv' := [some (.ref 30), some (.int x1), some (.long x2), none, some (.int s0), some (.int x5), some (.int (x6 + 1)), some (.int x7)]) (st' := []) (S1 := S) rfl ?_
    exact hk24 h
  · rw [if_neg zhc1] at h
    refine ip_Ev.steps 5 (pc' := 24) (lv' := [some (.ref 30), some (.int x1), some (.long x2), none, some (.int s0), some (.int x7), some (.int (x6 + 1)), some (.int x7)]) (st' := []) (S1 := S) rfl ?_
    exact hk24 h
def f_M_strikeOf_24 : Nat → Int32 → Int64 → Int32 → Int32 → Int32 → ip_St → Option (Int32 × ip_St)
  | 0, _, _, _, _, _, _ => none
  | n + 1, x1, x2, x4, x5, x6, S => (if 6 ≤ x6 then some (x4, S) else ((ip_aI S 42 (2 * x1)).bind fun zv2 => ((f_M_lawRow (S.1 30 16) x6 S).bind fun zq3 => ((f_M_freesRow zv2 zq3.1).bind fun zv7 => ((f_M_ones (x2 &&& zv7)).bind fun zv9 => (if zv9 ≤ x5 then (f_M_strikeOf_77 (f_M_strikeOf_24 n) x1 x2 x5 x6 zv9 x4 zq3.2) else (f_M_strikeOf_77 (f_M_strikeOf_24 n) x1 x2 x5 x6 zv9 x6 zq3.2)))))))
set_option maxRecDepth 10000 in
theorem E_M_strikeOf_24 : ∀ (n : Nat) {x1 : Int32} {x2 : Int64} {x4 : Int32} {x5 : Int32} {x6 : Int32} {S : ip_St} {r : Int32} {S9 : ip_St} {d7 : Option Value}, f_M_strikeOf_24 n x1 x2 x4 x5 x6 S = some (r, S9) → ip_Ev 149 24 [some (.ref 30), some (.int x1), some (.long x2), none, some (.int x4), some (.int x5), some (.int x6), d7] [] S (some (.int r)) S9 := by
  intro n
  induction n with
  | zero =>
    intro x1 x2 x4 x5 x6 S r S9 d7 h
    cases h
  | succ n ih =>
    intro x1 x2 x4 x5 x6 S r S9 d7 h
    rw [f_M_strikeOf_24] at h
    refine ip_Ev.steps 2 (pc' := 28) (lv' := [some (.ref 30), some (.int x1), some (.long x2), none, some (.int x4), some (.int x5), some (.int x6), d7]) (st' := [.int 6, .int x6]) (S1 := S) rfl ?_
    refine ip_Ev.iff2 rfl rfl ip_cGe (fun zhc1 => ?_) (fun zhc1 => ?_)
    · rw [if_pos zhc1] at h
      refine ip_Ev.steps 1 (pc' := 103) (lv' := [some (.ref 30), some (.int x1), some (.long x2), none, some (.int x4), some (.int x5), some (.int x6), d7]) (st' := [.int x4]) (S1 := S) rfl ?_
      cases h
      exact ip_Ev.ret rfl
    · rw [if_neg zhc1] at h
      refine ip_Ev.steps 6 (pc' := 39) (lv' := [some (.ref 30), some (.int x1), some (.long x2), none, some (.int x4), some (.int x5), some (.int x6), d7]) (st' := [.int (2 * x1), .ref 42, .long x2]) (S1 := S) rfl ?_
      obtain ⟨zv2, hzv2, h⟩ := ip_bind h
      refine ip_Ev.iald rfl hzv2 ?_
      refine ip_Ev.steps 6 (pc' := 51) (lv' := [some (.ref 30), some (.int x1), some (.long x2), none, some (.int x4), some (.int x5), some (.int x6), d7]) (st' := [.int x6, .int (S.1 30 16), .ref 41, .ref 30, .int zv2, .long x2]) (S1 := S) rfl ?_
      obtain ⟨⟨zv4, zS5⟩, hzq3, h⟩ := ip_bind h
      dsimp only at h
      refine ip_Ev.call (i := 123) (a := [.ref 30, .ref 41, .int (S.1 30 16), .int x6]) (r := [.int zv2, .long x2]) rfl (T_M_lawRow hzq3) ?_
      show ip_Ev 149 54 [some (.ref 30), some (.int x1), some (.long x2), none, some (.int x4), some (.int x5), some (.int x6), d7] [.long zv4, .int zv2, .long x2] zS5 _ _
      obtain ⟨zv7, hzq6, h⟩ := ip_bind h
      refine ip_Ev.call (i := 139) (a := [.int zv2, .long zv4]) (r := [.long x2]) rfl (T_M_freesRow hzq6) ?_
      show ip_Ev 149 57 [some (.ref 30), some (.int x1), some (.long x2), none, some (.int x4), some (.int x5), some (.int x6), d7] [.long zv7, .long x2] zS5 _ _
      refine ip_Ev.steps 1 (pc' := 58) (lv' := [some (.ref 30), some (.int x1), some (.long x2), none, some (.int x4), some (.int x5), some (.int x6), d7]) (st' := [.long (x2 &&& zv7)]) (S1 := zS5) rfl ?_
      obtain ⟨zv9, hzq8, h⟩ := ip_bind h
      refine ip_Ev.call (i := 127) (a := [.long (x2 &&& zv7)]) (r := []) rfl (T_M_ones hzq8) ?_
      show ip_Ev 149 61 [some (.ref 30), some (.int x1), some (.long x2), none, some (.int x4), some (.int x5), some (.int x6), d7] [.int zv9] zS5 _ _
      refine ip_Ev.steps 3 (pc' := 67) (lv' := [some (.ref 30), some (.int x1), some (.long x2), none, some (.int x4), some (.int x5), some (.int x6), some (.int zv9)]) (st' := [.int x5, .int zv9]) (S1 := zS5) rfl ?_
      refine ip_Ev.iff2 rfl rfl ip_cLe (fun zhc10 => ?_) (fun zhc10 => ?_)
      · rw [if_pos zhc10] at h
        refine ip_Ev.steps 1 (pc' := 77) (lv' := [some (.ref 30), some (.int x1), some (.long x2), none, some (.int x4), some (.int x5), some (.int x6), some (.int zv9)]) (st' := [.int x4]) (S1 := zS5) rfl ?_
        exact E_M_strikeOf_77 ih h
      · rw [if_neg zhc10] at h
        refine ip_Ev.steps 2 (pc' := 77) (lv' := [some (.ref 30), some (.int x1), some (.long x2), none, some (.int x4), some (.int x5), some (.int x6), some (.int zv9)]) (st' := [.int x6]) (S1 := zS5) rfl ?_
        exact E_M_strikeOf_77 ih h
def f_M_strikeOf (p1 : Int32) (S : ip_St) : Option (Int32 × ip_St) := ((f_M_waysOf p1 S).bind fun zv2 => ((f_M_freesOf p1 S).bind fun zv4 => ((f_M_ones (zv2 &&& zv4)).bind fun zv6 => (f_M_strikeOf_24 ip_FU p1 zv2 (-1) zv6 0 S))))
set_option maxRecDepth 10000 in
theorem T_M_strikeOf {p1 : Int32} {S : ip_St} {r : Int32} {S9 : ip_St} (h : f_M_strikeOf p1 S = some (r, S9)) : ip_Me 149 [.ref 30, .int p1] S (some (.int r)) S9 := by
  unfold f_M_strikeOf at h
  refine ⟨[some (.ref 30), some (.int p1), none, none, none, none, none, none], rfl, ?_⟩
  refine ip_Ev.steps 2 (pc' := 2) (lv' := [some (.ref 30), some (.int p1), none, none, none, none, none, none]) (st' := [.int p1, .ref 30]) (S1 := S) rfl ?_
  obtain ⟨zv2, hzq1, h⟩ := ip_bind h
  refine ip_Ev.call (i := 138) (a := [.ref 30, .int p1]) (r := []) rfl (T_M_waysOf hzq1) ?_
  show ip_Ev 149 5 [some (.ref 30), some (.int p1), none, none, none, none, none, none] [.long zv2] S _ _
  refine ip_Ev.steps 6 (pc' := 12) (lv' := [some (.ref 30), some (.int p1), some (.long zv2), none, some (.int (-1)), none, none, none]) (st' := [.int p1, .ref 30, .long zv2]) (S1 := S) rfl ?_
  obtain ⟨zv4, hzq3, h⟩ := ip_bind h
  refine ip_Ev.call (i := 140) (a := [.ref 30, .int p1]) (r := [.long zv2]) rfl (T_M_freesOf hzq3) ?_
  show ip_Ev 149 15 [some (.ref 30), some (.int p1), some (.long zv2), none, some (.int (-1)), none, none, none] [.long zv4, .long zv2] S _ _
  refine ip_Ev.steps 1 (pc' := 16) (lv' := [some (.ref 30), some (.int p1), some (.long zv2), none, some (.int (-1)), none, none, none]) (st' := [.long (zv2 &&& zv4)]) (S1 := S) rfl ?_
  obtain ⟨zv6, hzq5, h⟩ := ip_bind h
  refine ip_Ev.call (i := 127) (a := [.long (zv2 &&& zv4)]) (r := []) rfl (T_M_ones hzq5) ?_
  show ip_Ev 149 19 [some (.ref 30), some (.int p1), some (.long zv2), none, some (.int (-1)), none, none, none] [.int zv6] S _ _
  refine ip_Ev.steps 3 (pc' := 24) (lv' := [some (.ref 30), some (.int p1), some (.long zv2), none, some (.int (-1)), some (.int zv6), some (.int 0), none]) (st' := []) (S1 := S) rfl ?_
  exact E_M_strikeOf_24 ip_FU h
-- M_heardMany
def f_M_heardMany_4 : Nat → Int32 → Int32 → Int32 → ip_St → Option (Int32)
  | 0, _, _, _, _ => none
  | n + 1, x1, x2, x3, S => (if 6 ≤ x3 then some x2 else ((ip_aI S 44 ((6 * x1) + x3)).bind fun zv2 => (if zv2 = (-1) then (f_M_heardMany_4 n x1 (x2 + 0) (x3 + 1) S) else (f_M_heardMany_4 n x1 (x2 + 1) (x3 + 1) S))))
set_option maxRecDepth 10000 in
theorem E_M_heardMany_4 : ∀ (n : Nat) {x1 : Int32} {x2 : Int32} {x3 : Int32} {S : ip_St} {r : Int32}, f_M_heardMany_4 n x1 x2 x3 S = some r → ip_Ev 148 4 [some (.ref 30), some (.int x1), some (.int x2), some (.int x3)] [] S (some (.int r)) S := by
  intro n
  induction n with
  | zero =>
    intro x1 x2 x3 S r h
    cases h
  | succ n ih =>
    intro x1 x2 x3 S r h
    rw [f_M_heardMany_4] at h
    refine ip_Ev.steps 2 (pc' := 7) (lv' := [some (.ref 30), some (.int x1), some (.int x2), some (.int x3)]) (st' := [.int 6, .int x3]) (S1 := S) rfl ?_
    refine ip_Ev.iff2 rfl rfl ip_cGe (fun zhc1 => ?_) (fun zhc1 => ?_)
    · rw [if_pos zhc1] at h
      refine ip_Ev.steps 1 (pc' := 40) (lv' := [some (.ref 30), some (.int x1), some (.int x2), some (.int x3)]) (st' := [.int x2]) (S1 := S) rfl ?_
      cases h
      exact ip_Ev.ret rfl
    · rw [if_neg zhc1] at h
      refine ip_Ev.steps 8 (pc' := 21) (lv' := [some (.ref 30), some (.int x1), some (.int x2), some (.int x3)]) (st' := [.int ((6 * x1) + x3), .ref 44, .int x2]) (S1 := S) rfl ?_
      obtain ⟨zv2, hzv2, h⟩ := ip_bind h
      refine ip_Ev.iald rfl hzv2 ?_
      refine ip_Ev.steps 1 (pc' := 23) (lv' := [some (.ref 30), some (.int x1), some (.int x2), some (.int x3)]) (st' := [.int (-1), .int zv2, .int x2]) (S1 := S) rfl ?_
      refine ip_Ev.iff2 rfl rfl ip_cNe (fun zhc3 => ?_) (fun zhc3 => ?_)
      · rw [if_neg zhc3] at h
        refine ip_Ev.steps 5 (pc' := 4) (lv' := [some (.ref 30), some (.int x1), some (.int (x2 + 1)), some (.int (x3 + 1))]) (st' := []) (S1 := S) rfl ?_
        exact ih h
      · rw [if_pos (Decidable.of_not_not zhc3)] at h
        refine ip_Ev.steps 6 (pc' := 4) (lv' := [some (.ref 30), some (.int x1), some (.int (x2 + 0)), some (.int (x3 + 1))]) (st' := []) (S1 := S) rfl ?_
        exact ih h
def f_M_heardMany (p1 : Int32) (S : ip_St) : Option (Int32) := (f_M_heardMany_4 ip_FU p1 0 0 S)
set_option maxRecDepth 10000 in
theorem T_M_heardMany {p1 : Int32} {S : ip_St} {r : Int32} (h : f_M_heardMany p1 S = some r) : ip_Me 148 [.ref 30, .int p1] S (some (.int r)) S := by
  unfold f_M_heardMany at h
  refine ⟨[some (.ref 30), some (.int p1), none, none], rfl, ?_⟩
  refine ip_Ev.steps 4 (pc' := 4) (lv' := [some (.ref 30), some (.int p1), some (.int 0), some (.int 0)]) (st' := []) (S1 := S) rfl ?_
  exact E_M_heardMany_4 ip_FU h
-- M_powerOf
def f_M_powerOf (p0 : Int32) : Int32 := (if p0 = 0 then 1 else (if p0 = 1 then 3 else (if p0 = 2 then 9 else (if p0 = 3 then 27 else (if p0 = 4 then 81 else 243)))))
set_option maxRecDepth 10000 in
theorem T_M_powerOf {p0 : Int32} {S : ip_St} {r : Int32} (h : f_M_powerOf p0 = r) : ip_Me 142 [.int p0] S (some (.int r)) S := by
  unfold f_M_powerOf at h
  refine ⟨[some (.int p0)], rfl, ?_⟩
  refine ip_Ev.steps 1 (pc' := 1) (lv' := [some (.int p0)]) (st' := [.int p0]) (S1 := S) rfl ?_
  refine ip_Ev.iff1 rfl rfl ip_cNe (fun zhc1 => ?_) (fun zhc1 => ?_)
  · rw [if_neg zhc1] at h
    refine ip_Ev.steps 2 (pc' := 10) (lv' := [some (.int p0)]) (st' := [.int 1, .int p0]) (S1 := S) rfl ?_
    refine ip_Ev.iff2 rfl rfl ip_cNe (fun zhc2 => ?_) (fun zhc2 => ?_)
    · rw [if_neg zhc2] at h
      refine ip_Ev.steps 2 (pc' := 19) (lv' := [some (.int p0)]) (st' := [.int 2, .int p0]) (S1 := S) rfl ?_
      refine ip_Ev.iff2 rfl rfl ip_cNe (fun zhc3 => ?_) (fun zhc3 => ?_)
      · rw [if_neg zhc3] at h
        refine ip_Ev.steps 2 (pc' := 29) (lv' := [some (.int p0)]) (st' := [.int 3, .int p0]) (S1 := S) rfl ?_
        refine ip_Ev.iff2 rfl rfl ip_cNe (fun zhc4 => ?_) (fun zhc4 => ?_)
        · rw [if_neg zhc4] at h
          refine ip_Ev.steps 2 (pc' := 39) (lv' := [some (.int p0)]) (st' := [.int 4, .int p0]) (S1 := S) rfl ?_
          refine ip_Ev.iff2 rfl rfl ip_cNe (fun zhc5 => ?_) (fun zhc5 => ?_)
          · rw [if_neg zhc5] at h
            refine ip_Ev.steps 1 (pc' := 50) (lv' := [some (.int p0)]) (st' := [.int 243]) (S1 := S) rfl ?_
            cases h
            exact ip_Ev.ret rfl
          · rw [if_pos (Decidable.of_not_not zhc5)] at h
            refine ip_Ev.steps 2 (pc' := 50) (lv' := [some (.int p0)]) (st' := [.int 81]) (S1 := S) rfl ?_
            cases h
            exact ip_Ev.ret rfl
        · rw [if_pos (Decidable.of_not_not zhc4)] at h
          refine ip_Ev.steps 2 (pc' := 50) (lv' := [some (.int p0)]) (st' := [.int 27]) (S1 := S) rfl ?_
          cases h
          exact ip_Ev.ret rfl
      · rw [if_pos (Decidable.of_not_not zhc3)] at h
        refine ip_Ev.steps 2 (pc' := 50) (lv' := [some (.int p0)]) (st' := [.int 9]) (S1 := S) rfl ?_
        cases h
        exact ip_Ev.ret rfl
    · rw [if_pos (Decidable.of_not_not zhc2)] at h
      refine ip_Ev.steps 2 (pc' := 50) (lv' := [some (.int p0)]) (st' := [.int 3]) (S1 := S) rfl ?_
      cases h
      exact ip_Ev.ret rfl
  · rw [if_pos (Decidable.of_not_not zhc1)] at h
    refine ip_Ev.steps 2 (pc' := 50) (lv' := [some (.int p0)]) (st' := [.int 1]) (S1 := S) rfl ?_
    cases h
    exact ip_Ev.ret rfl
-- M_digitOf
def f_M_digitOf (p0 : Int32) (p1 : Int32) : Option (Int32) := (if (f_M_powerOf p1) = 0 then none else some (ip_irem (p0 / (f_M_powerOf p1)) 3))
set_option maxRecDepth 10000 in
theorem T_M_digitOf {p0 : Int32} {p1 : Int32} {S : ip_St} {r : Int32} (h : f_M_digitOf p0 p1 = some r) : ip_Me 143 [.int p0, .int p1] S (some (.int r)) S := by
  unfold f_M_digitOf at h
  refine ⟨[some (.int p0), some (.int p1)], rfl, ?_⟩
  refine ip_Ev.steps 2 (pc' := 2) (lv' := [some (.int p0), some (.int p1)]) (st' := [.int p1, .int p0]) (S1 := S) rfl ?_
  refine ip_Ev.call (i := 142) (a := [.int p1]) (r := [.int p0]) rfl (T_M_powerOf rfl) ?_
  show ip_Ev 143 5 [some (.int p0), some (.int p1)] [.int (f_M_powerOf p1), .int p0] S _ _
  have zhz1 : ¬ (f_M_powerOf p1) = 0 := by
    intro hq
    rw [if_pos hq] at h
    cases h
  rw [if_neg zhz1] at h
  refine ip_Ev.idiv rfl zhz1 ?_
  refine ip_Ev.steps 1 (pc' := 7) (lv' := [some (.int p0), some (.int p1)]) (st' := [.int 3, .int (p0 / (f_M_powerOf p1))]) (S1 := S) rfl ?_
  refine ip_Ev.irem rfl (by decide) ?_
  show ip_Ev 143 8 [some (.int p0), some (.int p1)] [.int (ip_irem (p0 / (f_M_powerOf p1)) 3)] S _ _
  cases h
  exact ip_Ev.ret rfl
-- M_waysBy
def f_M_waysBy_6 : Nat → Int32 → Int64 → Int32 → ip_St → Option (Int64)
  | 0, _, _, _, _ => none
  | n + 1, x3, x4, x6, S => (if 6 ≤ x6 then some x4 else ((f_M_digitOf x3 x6).bind fun zv3 => (if zv3 = 0 then (f_M_waysBy_6 n x3 (x4 &&& (-1)) (x6 + 1) S) else ((ip_aL S 48 x6).bind fun zv5 => (f_M_waysBy_6 n x3 (x4 &&& (f_M_keptIf zv5 (zv3 - 1))) (x6 + 1) S)))))
set_option maxRecDepth 10000 in
theorem E_M_waysBy_6 : ∀ (n : Nat) {x3 : Int32} {x4 : Int64} {x6 : Int32} {S : ip_St} {r : Int64} {d1 : Option Value} {d2 : Option Value} {d7 : Option Value}, f_M_waysBy_6 n x3 x4 x6 S = some r → ip_Ev 144 6 [some (.ref 30), d1, d2, some (.int x3), some (.long x4), none, some (.int x6), d7] [] S (some (.long r)) S := by
  intro n
  induction n with
  | zero =>
    intro x3 x4 x6 S r d1 d2 d7 h
    cases h
  | succ n ih =>
    intro x3 x4 x6 S r d1 d2 d7 h
    rw [f_M_waysBy_6] at h
    refine ip_Ev.steps 2 (pc' := 10) (lv' := [some (.ref 30), d1, d2, some (.int x3), some (.long x4), none, some (.int x6), d7]) (st' := [.int 6, .int x6]) (S1 := S) rfl ?_
    refine ip_Ev.iff2 rfl rfl ip_cGe (fun zhc1 => ?_) (fun zhc1 => ?_)
    · rw [if_pos zhc1] at h
      refine ip_Ev.steps 1 (pc' := 59) (lv' := [some (.ref 30), d1, d2, some (.int x3), some (.long x4), none, some (.int x6), d7]) (st' := [.long x4]) (S1 := S) rfl ?_
      cases h
      exact ip_Ev.ret rfl
    · rw [if_neg zhc1] at h
      refine ip_Ev.steps 2 (pc' := 16) (lv' := [some (.ref 30), d1, d2, some (.int x3), some (.long x4), none, some (.int x6), d7]) (st' := [.int x6, .int x3]) (S1 := S) rfl ?_
      obtain ⟨zv3, hzq2, h⟩ := ip_bind h
      refine ip_Ev.call (i := 143) (a := [.int x3, .int x6]) (r := []) rfl (T_M_digitOf hzq2) ?_
      show ip_Ev 144 19 [some (.ref 30), d1, d2, some (.int x3), some (.long x4), none, some (.int x6), d7] [.int zv3] S _ _
      refine ip_Ev.steps 3 (pc' := 25) (lv' := [some (.ref 30), d1, d2, some (.int x3), some (.long x4), none, some (.int x6), some (.int zv3)]) (st' := [.int zv3, .long x4]) (S1 := S) rfl ?_
      refine ip_Ev.iff1 rfl rfl ip_cNe (fun zhc4 => ?_) (fun zhc4 => ?_)
      · rw [if_neg zhc4] at h
        refine ip_Ev.steps 3 (pc' := 40) (lv' := [some (.ref 30), d1, d2, some (.int x3), some (.long x4), none, some (.int x6), some (.int zv3)]) (st' := [.int x6, .ref 48, .long x4]) (S1 := S) rfl ?_
        obtain ⟨zv5, hzv5, h⟩ := ip_bind h
        refine ip_Ev.lald rfl hzv5 ?_
        refine ip_Ev.steps 3 (pc' := 45) (lv' := [some (.ref 30), d1, d2, some (.int x3), some (.long x4), none, some (.int x6), some (.int zv3)]) (st' := [.int (zv3 - 1), .long zv5, .long x4]) (S1 := S) rfl ?_
        refine ip_Ev.call (i := 136) (a := [.long zv5, .int (zv3 - 1)]) (r := [.long x4]) rfl (T_M_keptIf rfl) ?_
        show ip_Ev 144 48 [some (.ref 30), d1, d2, some (.int x3), some (.long x4), none, some (.int x6), some (.int zv3)] [.long (f_M_keptIf zv5 (zv3 - 1)), .long x4] S _ _
        refine ip_Ev.steps 4 (pc' := 6) (lv' := [some (.ref 30), d1, d2, some (.int x3), some (.long (x4 &&& (f_M_keptIf zv5 (zv3 - 1)))), none, some (.int (x6 + 1)), some (.int zv3)]) (st' := []) (S1 := S) rfl ?_
        exact ih h
      · rw [if_pos (Decidable.of_not_not zhc4)] at h
        refine ip_Ev.steps 6 (pc' := 6) (lv' := [some (.ref 30), d1, d2, some (.int x3), some (.long (x4 &&& (-1))), none, some (.int (x6 + 1)), some (.int zv3)]) (st' := []) (S1 := S) rfl ?_
        exact ih h
def f_M_waysBy (p1 : Int64) (p2 : Int32) (S : ip_St) : Option (Int64) := (f_M_waysBy_6 ip_FU p2 p1 0 S)
set_option maxRecDepth 10000 in
theorem T_M_waysBy {p1 : Int64} {p2 : Int32} {S : ip_St} {r : Int64} (h : f_M_waysBy p1 p2 S = some r) : ip_Me 144 [.ref 30, .long p1, .int p2] S (some (.long r)) S := by
  unfold f_M_waysBy at h
  refine ⟨[some (.ref 30), some (.long p1), none, some (.int p2), none, none, none, none], rfl, ?_⟩
  refine ip_Ev.steps 4 (pc' := 6) (lv' := [some (.ref 30), some (.long p1), none, some (.int p2), some (.long p1), none, some (.int 0), none]) (st' := []) (S1 := S) rfl ?_
  exact E_M_waysBy_6 ip_FU h
-- M_verdictBy
def f_M_verdictBy (p0 : Int64) (p1 : Int64) : Int32 := (if (p0 &&& (p1 ^^^ (-1))) = 0 then 1 else (if (p0 &&& p1) = 0 then 2 else 0))
set_option maxRecDepth 10000 in
theorem T_M_verdictBy {p0 : Int64} {p1 : Int64} {S : ip_St} {r : Int32} (h : f_M_verdictBy p0 p1 = r) : ip_Me 141 [.long p0, .long p1] S (some (.int r)) S := by
  unfold f_M_verdictBy at h
  refine ⟨[some (.long p0), none, some (.long p1), none], rfl, ?_⟩
  refine ip_Ev.steps 7 (pc' := 9) (lv' := [some (.long p0), none, some (.long p1), none]) (st' := [.int (lg_cmp (p0 &&& (p1 ^^^ (-1))) 0)]) (S1 := S) rfl ?_
  refine ip_Ev.iff1 rfl rfl ip_lNe (fun zhc1 => ?_) (fun zhc1 => ?_)
  · rw [if_neg zhc1] at h
    refine ip_Ev.steps 5 (pc' := 21) (lv' := [some (.long p0), none, some (.long p1), none]) (st' := [.int (lg_cmp (p0 &&& p1) 0)]) (S1 := S) rfl ?_
    refine ip_Ev.iff1 rfl rfl ip_lNe (fun zhc2 => ?_) (fun zhc2 => ?_)
    · rw [if_neg zhc2] at h
      refine ip_Ev.steps 1 (pc' := 29) (lv' := [some (.long p0), none, some (.long p1), none]) (st' := [.int 0]) (S1 := S) rfl ?_
      cases h
      exact ip_Ev.ret rfl
    · rw [if_pos (Decidable.of_not_not zhc2)] at h
      refine ip_Ev.steps 2 (pc' := 29) (lv' := [some (.long p0), none, some (.long p1), none]) (st' := [.int 2]) (S1 := S) rfl ?_
      cases h
      exact ip_Ev.ret rfl
  · rw [if_pos (Decidable.of_not_not zhc1)] at h
    refine ip_Ev.steps 2 (pc' := 29) (lv' := [some (.long p0), none, some (.long p1), none]) (st' := [.int 1]) (S1 := S) rfl ?_
    cases h
    exact ip_Ev.ret rfl
-- M_layCode
def f_M_layCode_203 (k53 : Int32 → Int64 → Int32 → Int32 → ip_St → Option (ip_St)) (k80 : Int32 → Int64 → Int32 → Int32 → Int32 → Int32 → ip_St → Option (ip_St)) (x1 : Int32) (x2 : Int64) (x6 : Int32) (x7 : Int32) (x8 : Int32) (x9 : Int32) (s1 : Int32) (s2 : Int32) (S : ip_St) : Option (ip_St) := ((ip_wI S 46 s1 s2).bind fun zS1 => (k80 x1 x2 x6 x7 x8 (x9 + 1) zS1))
set_option maxRecDepth 10000 in
theorem E_M_layCode_203 {k53 : Int32 → Int64 → Int32 → Int32 → ip_St → Option (ip_St)} {k80 : Int32 → Int64 → Int32 → Int32 → Int32 → Int32 → ip_St → Option (ip_St)} (hk53 : ∀ {x1 : Int32} {x2 : Int64} {x6 : Int32} {x7 : Int32} {S : ip_St} {S9 : ip_St} {d4 : Option Value} {d5 : Option Value} {d8 : Option Value} {d9 : Option Value} {d10 : Option Value} {d11 : Option Value}, k53 x1 x2 x6 x7 S = some S9 → ip_Ev 145 53 [some (.ref 30), some (.int x1), some (.long x2), none, d4, d5, some (.int x6), some (.int x7), d8, d9, d10, d11] [] S none S9) (hk80 : ∀ {x1 : Int32} {x2 : Int64} {x6 : Int32} {x7 : Int32} {x8 : Int32} {x9 : Int32} {S : ip_St} {S9 : ip_St} {d4 : Option Value} {d5 : Option Value} {d10 : Option Value} {d11 : Option Value}, k80 x1 x2 x6 x7 x8 x9 S = some S9 → ip_Ev 145 80 [some (.ref 30), some (.int x1), some (.long x2), none, d4, d5, some (.int x6), some (.int x7), some (.int x8), some (.int x9), d10, d11] [] S none S9) {x1 : Int32} {x2 : Int64} {x6 : Int32} {x7 : Int32} {x8 : Int32} {x9 : Int32} {s1 : Int32} {s2 : Int32} {S : ip_St} {S9 : ip_St} {d4 : Option Value} {d5 : Option Value} {d10 : Option Value} {d11 : Option Value} (h : f_M_layCode_203 k53 k80 x1 x2 x6 x7 x8 x9 s1 s2 S = some S9) : ip_Ev 145 203 [some (.ref 30), some (.int x1), some (.long x2), none, d4, d5, some (.int x6), some (.int x7), some (.int x8), some (.int x9), d10, d11] [.int s2, .int s1, .ref 46] S none S9 := by
  unfold f_M_layCode_203 at h
  obtain ⟨zS1, hzS1, h⟩ := ip_bind h
  refine ip_Ev.iast rfl hzS1 ?_
  refine ip_Ev.steps 2 (pc' := 80) (lv' := [some (.ref 30), some (.int x1), some (.long x2), none, d4, d5, some (.int x6), some (.int x7), some (.int x8), some (.int (x9 + 1)), d10, d11]) (st' := []) (S1 := zS1) rfl ?_
  exact hk80 h
def f_M_layCode_197 (k53 : Int32 → Int64 → Int32 → Int32 → ip_St → Option (ip_St)) (k80 : Int32 → Int64 → Int32 → Int32 → Int32 → Int32 → ip_St → Option (ip_St)) (x1 : Int32) (x2 : Int64) (x6 : Int32) (x7 : Int32) (x8 : Int32) (x9 : Int32) (s1 : Int32) (S : ip_St) : Option (ip_St) := ((ip_aI S 46 x1).bind fun zv1 => (f_M_layCode_203 k53 k80 x1 x2 x6 x7 x8 x9 s1 zv1 S))
set_option maxRecDepth 10000 in
theorem E_M_layCode_197 {k53 : Int32 → Int64 → Int32 → Int32 → ip_St → Option (ip_St)} {k80 : Int32 → Int64 → Int32 → Int32 → Int32 → Int32 → ip_St → Option (ip_St)} (hk53 : ∀ {x1 : Int32} {x2 : Int64} {x6 : Int32} {x7 : Int32} {S : ip_St} {S9 : ip_St} {d4 : Option Value} {d5 : Option Value} {d8 : Option Value} {d9 : Option Value} {d10 : Option Value} {d11 : Option Value}, k53 x1 x2 x6 x7 S = some S9 → ip_Ev 145 53 [some (.ref 30), some (.int x1), some (.long x2), none, d4, d5, some (.int x6), some (.int x7), d8, d9, d10, d11] [] S none S9) (hk80 : ∀ {x1 : Int32} {x2 : Int64} {x6 : Int32} {x7 : Int32} {x8 : Int32} {x9 : Int32} {S : ip_St} {S9 : ip_St} {d4 : Option Value} {d5 : Option Value} {d10 : Option Value} {d11 : Option Value}, k80 x1 x2 x6 x7 x8 x9 S = some S9 → ip_Ev 145 80 [some (.ref 30), some (.int x1), some (.long x2), none, d4, d5, some (.int x6), some (.int x7), some (.int x8), some (.int x9), d10, d11] [] S none S9) {x1 : Int32} {x2 : Int64} {x6 : Int32} {x7 : Int32} {x8 : Int32} {x9 : Int32} {s1 : Int32} {S : ip_St} {S9 : ip_St} {d4 : Option Value} {d5 : Option Value} {d10 : Option Value} {d11 : Option Value} (h : f_M_layCode_197 k53 k80 x1 x2 x6 x7 x8 x9 s1 S = some S9) : ip_Ev 145 197 [some (.ref 30), some (.int x1), some (.long x2), none, d4, d5, some (.int x6), some (.int x7), some (.int x8), some (.int x9), d10, d11] [.int s1, .ref 46] S none S9 := by
  unfold f_M_layCode_197 at h
  refine ip_Ev.steps 3 (pc' := 202) (lv' := [some (.ref 30), some (.int x1), some (.long x2), none, d4, d5, some (.int x6), some (.int x7), some (.int x8), some (.int x9), d10, d11]) (st' := [.int x1, .ref 46, .int s1, .ref 46]) (S1 := S) rfl ?_
  obtain ⟨zv1, hzv1, h⟩ := ip_bind h
  refine ip_Ev.iald rfl hzv1 ?_
  exact E_M_layCode_203 hk53 hk80 h
def f_M_layCode_155 (k53 : Int32 → Int64 → Int32 → Int32 → ip_St → Option (ip_St)) (k80 : Int32 → Int64 → Int32 → Int32 → Int32 → Int32 → ip_St → Option (ip_St)) (x1 : Int32) (x2 : Int64) (x6 : Int32) (x7 : Int32) (x9 : Int32) (x10 : Int32) (x11 : Int32) (s0 : Int32) (S : ip_St) : Option (ip_St) := (if x11 = 0 then (f_M_layCode_197 k53 k80 x1 x2 x6 x7 s0 x9 x1 S) else ((ip_aI S 46 x10).bind fun zv2 => ((ip_aI S 46 x1).bind fun zv3 => (if zv3 ≤ (zv2 + 1) then (f_M_layCode_197 k53 k80 x1 x2 x6 x7 s0 x9 x1 S) else ((ip_aI S 46 x10).bind fun zv5 => (f_M_layCode_203 k53 k80 x1 x2 x6 x7 s0 x9 x1 (zv5 + 1) S))))))
set_option maxRecDepth 10000 in
theorem E_M_layCode_155 {k53 : Int32 → Int64 → Int32 → Int32 → ip_St → Option (ip_St)} {k80 : Int32 → Int64 → Int32 → Int32 → Int32 → Int32 → ip_St → Option (ip_St)} (hk53 : ∀ {x1 : Int32} {x2 : Int64} {x6 : Int32} {x7 : Int32} {S : ip_St} {S9 : ip_St} {d4 : Option Value} {d5 : Option Value} {d8 : Option Value} {d9 : Option Value} {d10 : Option Value} {d11 : Option Value}, k53 x1 x2 x6 x7 S = some S9 → ip_Ev 145 53 [some (.ref 30), some (.int x1), some (.long x2), none, d4, d5, some (.int x6), some (.int x7), d8, d9, d10, d11] [] S none S9) (hk80 : ∀ {x1 : Int32} {x2 : Int64} {x6 : Int32} {x7 : Int32} {x8 : Int32} {x9 : Int32} {S : ip_St} {S9 : ip_St} {d4 : Option Value} {d5 : Option Value} {d10 : Option Value} {d11 : Option Value}, k80 x1 x2 x6 x7 x8 x9 S = some S9 → ip_Ev 145 80 [some (.ref 30), some (.int x1), some (.long x2), none, d4, d5, some (.int x6), some (.int x7), some (.int x8), some (.int x9), d10, d11] [] S none S9) {x1 : Int32} {x2 : Int64} {x6 : Int32} {x7 : Int32} {x9 : Int32} {x10 : Int32} {x11 : Int32} {s0 : Int32} {S : ip_St} {S9 : ip_St} {d4 : Option Value} {d5 : Option Value} {d8 : Option Value} (h : f_M_layCode_155 k53 k80 x1 x2 x6 x7 x9 x10 x11 s0 S = some S9) : ip_Ev 145 155 [some (.ref 30), some (.int x1), some (.long x2), none, d4, d5, some (.int x6), some (.int x7), d8, some (.int x9), some (.int x10), some (.int x11)] [.int s0] S none S9 := by
  unfold f_M_layCode_155 at h
  refine ip_Ev.steps 5 (pc' := 164) (lv' := [some (.ref 30), some (.int x1), some (.long x2), none, d4, d5, some (.int x6), some (.int x7), some (.int s0), some (.int x9), some (.int x10), some (.int x11)]) (st' := [.int x11, .int x1, .ref 46]) (S1 := S) rfl ?_
  refine ip_Ev.iff1 rfl rfl ip_cEq (fun zhc1 => ?_) (fun zhc1 => ?_)
  · rw [if_pos zhc1] at h
    exact E_M_layCode_197 hk53 hk80 h
  · rw [if_neg zhc1] at h
    refine ip_Ev.steps 3 (pc' := 173) (lv' := [some (.ref 30), some (.int x1), some (.long x2), none, d4, d5, some (.int x6), some (.int x7), some (.int s0), some (.int x9), some (.int x10), some (.int x11)]) (st' := [.int x10, .ref 46, .int x1, .ref 46]) (S1 := S) rfl ?_
    obtain ⟨zv2, hzv2, h⟩ := ip_bind h
    refine ip_Ev.iald rfl hzv2 ?_
    refine ip_Ev.steps 5 (pc' := 181) (lv' := [some (.ref 30), some (.int x1), some (.long x2), none, d4, d5, some (.int x6), some (.int x7), some (.int s0), some (.int x9), some (.int x10), some (.int x11)]) (st' := [.int x1, .ref 46, .int (zv2 + 1), .int x1, .ref 46]) (S1 := S) rfl ?_
    obtain ⟨zv3, hzv3, h⟩ := ip_bind h
    refine ip_Ev.iald rfl hzv3 ?_
    refine ip_Ev.iff2 rfl rfl ip_cGe (fun zhc4 => ?_) (fun zhc4 => ?_)
    · rw [if_pos zhc4] at h
      exact E_M_layCode_197 hk53 hk80 h
    · rw [if_neg zhc4] at h
      refine ip_Ev.steps 3 (pc' := 191) (lv' := [some (.ref 30), some (.int x1), some (.long x2), none, d4, d5, some (.int x6), some (.int x7), some (.int s0), some (.int x9), some (.int x10), some (.int x11)]) (st' := [.int x10, .ref 46, .int x1, .ref 46]) (S1 := S) rfl ?_
      obtain ⟨zv5, hzv5, h⟩ := ip_bind h
      refine ip_Ev.iald rfl hzv5 ?_
      refine ip_Ev.steps 3 (pc' := 203) (lv' := [some (.ref 30), some (.int x1), some (.long x2), none, d4, d5, some (.int x6), some (.int x7), some (.int s0), some (.int x9), some (.int x10), some (.int x11)]) (st' := [.int (zv5 + 1), .int x1, .ref 46]) (S1 := S) rfl ?_
      exact E_M_layCode_203 hk53 hk80 h
def f_M_layCode_153 (k53 : Int32 → Int64 → Int32 → Int32 → ip_St → Option (ip_St)) (k80 : Int32 → Int64 → Int32 → Int32 → Int32 → Int32 → ip_St → Option (ip_St)) (x1 : Int32) (x2 : Int64) (x6 : Int32) (x7 : Int32) (x8 : Int32) (x9 : Int32) (x10 : Int32) (x11 : Int32) (S : ip_St) : Option (ip_St) := (f_M_layCode_155 k53 k80 x1 x2 x6 x7 x9 x10 x11 x8 S)
set_option maxRecDepth 10000 in
theorem E_M_layCode_153 {k53 : Int32 → Int64 → Int32 → Int32 → ip_St → Option (ip_St)} {k80 : Int32 → Int64 → Int32 → Int32 → Int32 → Int32 → ip_St → Option (ip_St)} (hk53 : ∀ {x1 : Int32} {x2 : Int64} {x6 : Int32} {x7 : Int32} {S : ip_St} {S9 : ip_St} {d4 : Option Value} {d5 : Option Value} {d8 : Option Value} {d9 : Option Value} {d10 : Option Value} {d11 : Option Value}, k53 x1 x2 x6 x7 S = some S9 → ip_Ev 145 53 [some (.ref 30), some (.int x1), some (.long x2), none, d4, d5, some (.int x6), some (.int x7), d8, d9, d10, d11] [] S none S9) (hk80 : ∀ {x1 : Int32} {x2 : Int64} {x6 : Int32} {x7 : Int32} {x8 : Int32} {x9 : Int32} {S : ip_St} {S9 : ip_St} {d4 : Option Value} {d5 : Option Value} {d10 : Option Value} {d11 : Option Value}, k80 x1 x2 x6 x7 x8 x9 S = some S9 → ip_Ev 145 80 [some (.ref 30), some (.int x1), some (.long x2), none, d4, d5, some (.int x6), some (.int x7), some (.int x8), some (.int x9), d10, d11] [] S none S9) {x1 : Int32} {x2 : Int64} {x6 : Int32} {x7 : Int32} {x8 : Int32} {x9 : Int32} {x10 : Int32} {x11 : Int32} {S : ip_St} {S9 : ip_St} {d4 : Option Value} {d5 : Option Value} (h : f_M_layCode_153 k53 k80 x1 x2 x6 x7 x8 x9 x10 x11 S = some S9) : ip_Ev 145 153 [some (.ref 30), some (.int x1), some (.long x2), none, d4, d5, some (.int x6), some (.int x7), some (.int x8), some (.int x9), some (.int x10), some (.int x11)] [] S none S9 := by
  unfold f_M_layCode_153 at h
  refine ip_Ev.steps 1 (pc' := 155) (lv' := [some (.ref 30), some (.int x1), some (.long x2), none, d4, d5, some (.int x6), some (.int x7), some (.int x8), some (.int x9), some (.int x10), some (.int x11)]) (st' := [.int x8]) (S1 := S) rfl ?_
  exact E_M_layCode_155 hk53 hk80 h
def f_M_layCode_124 (k53 : Int32 → Int64 → Int32 → Int32 → ip_St → Option (ip_St)) (k80 : Int32 → Int64 → Int32 → Int32 → Int32 → Int32 → ip_St → Option (ip_St)) (x1 : Int32) (x2 : Int64) (x6 : Int32) (x7 : Int32) (x8 : Int32) (x9 : Int32) (x10 : Int32) (s0 : Int32) (S : ip_St) : Option (ip_St) := (if s0 = 0 then (f_M_layCode_153 k53 k80 x1 x2 x6 x7 x8 x9 x10 s0 S) else ((ip_aI S 45 x10).bind fun zv2 => (if zv2 ≤ x8 then (f_M_layCode_153 k53 k80 x1 x2 x6 x7 x8 x9 x10 s0 S) else ((ip_aI S 45 x10).bind fun zv4 => (f_M_layCode_155 k53 k80 x1 x2 x6 x7 x9 x10 s0 zv4 S)))))
set_option maxRecDepth 10000 in
theorem E_M_layCode_124 {k53 : Int32 → Int64 → Int32 → Int32 → ip_St → Option (ip_St)} {k80 : Int32 → Int64 → Int32 → Int32 → Int32 → Int32 → ip_St → Option (ip_St)} (hk53 : ∀ {x1 : Int32} {x2 : Int64} {x6 : Int32} {x7 : Int32} {S : ip_St} {S9 : ip_St} {d4 : Option Value} {d5 : Option Value} {d8 : Option Value} {d9 : Option Value} {d10 : Option Value} {d11 : Option Value}, k53 x1 x2 x6 x7 S = some S9 → ip_Ev 145 53 [some (.ref 30), some (.int x1), some (.long x2), none, d4, d5, some (.int x6), some (.int x7), d8, d9, d10, d11] [] S none S9) (hk80 : ∀ {x1 : Int32} {x2 : Int64} {x6 : Int32} {x7 : Int32} {x8 : Int32} {x9 : Int32} {S : ip_St} {S9 : ip_St} {d4 : Option Value} {d5 : Option Value} {d10 : Option Value} {d11 : Option Value}, k80 x1 x2 x6 x7 x8 x9 S = some S9 → ip_Ev 145 80 [some (.ref 30), some (.int x1), some (.long x2), none, d4, d5, some (.int x6), some (.int x7), some (.int x8), some (.int x9), d10, d11] [] S none S9) {x1 : Int32} {x2 : Int64} {x6 : Int32} {x7 : Int32} {x8 : Int32} {x9 : Int32} {x10 : Int32} {s0 : Int32} {S : ip_St} {S9 : ip_St} {d4 : Option Value} {d5 : Option Value} {d11 : Option Value} (h : f_M_layCode_124 k53 k80 x1 x2 x6 x7 x8 x9 x10 s0 S = some S9) : ip_Ev 145 124 [some (.ref 30), some (.int x1), some (.long x2), none, d4, d5, some (.int x6), some (.int x7), some (.int x8), some (.int x9), some (.int x10), d11] [.int s0] S none S9 := by
  unfold f_M_layCode_124 at h
  refine ip_Ev.steps 2 (pc' := 128) (lv' := [some (.ref 30), some (.int x1), some (.long x2), none, d4, d5, some (.int x6), some (.int x7), some (.int x8), some (.int x9), some (.int x10), some (.int s0)]) (st' := [.int s0]) (S1 := S) rfl ?_
  refine ip_Ev.iff1 rfl rfl ip_cEq (fun zhc1 => ?_) (fun zhc1 => ?_)
  · rw [if_pos zhc1] at h
    exact E_M_layCode_153 hk53 hk80 h
  · rw [if_neg zhc1] at h
    refine ip_Ev.steps 3 (pc' := 137) (lv' := [some (.ref 30), some (.int x1), some (.long x2), none, d4, d5, some (.int x6), some (.int x7), some (.int x8), some (.int x9), some (.int x10), some (.int s0)]) (st' := [.int x10, .ref 45]) (S1 := S) rfl ?_
    obtain ⟨zv2, hzv2, h⟩ := ip_bind h
    refine ip_Ev.iald rfl hzv2 ?_
    refine ip_Ev.steps 1 (pc' := 140) (lv' := [some (.ref 30), some (.int x1), some (.long x2), none, d4, d5, some (.int x6), some (.int x7), some (.int x8), some (.int x9), some (.int x10), some (.int s0)]) (st' := [.int x8, .int zv2]) (S1 := S) rfl ?_
    refine ip_Ev.iff2 rfl rfl ip_cLe (fun zhc3 => ?_) (fun zhc3 => ?_)
    · rw [if_pos zhc3] at h
      exact E_M_layCode_153 hk53 hk80 h
    · rw [if_neg zhc3] at h
      refine ip_Ev.steps 3 (pc' := 149) (lv' := [some (.ref 30), some (.int x1), some (.long x2), none, d4, d5, some (.int x6), some (.int x7), some (.int x8), some (.int x9), some (.int x10), some (.int s0)]) (st' := [.int x10, .ref 45]) (S1 := S) rfl ?_
      obtain ⟨zv4, hzv4, h⟩ := ip_bind h
      refine ip_Ev.iald rfl hzv4 ?_
      refine ip_Ev.steps 1 (pc' := 155) (lv' := [some (.ref 30), some (.int x1), some (.long x2), none, d4, d5, some (.int x6), some (.int x7), some (.int x8), some (.int x9), some (.int x10), some (.int s0)]) (st' := [.int zv4]) (S1 := S) rfl ?_
      exact E_M_layCode_155 hk53 hk80 h
def f_M_layCode_80 (k53 : Int32 → Int64 → Int32 → Int32 → ip_St → Option (ip_St)) : Nat → Int32 → Int64 → Int32 → Int32 → Int32 → Int32 → ip_St → Option (ip_St)
  | 0, _, _, _, _, _, _, _ => none
  | n + 1, x1, x2, x6, x7, x8, x9, S => (if 2 ≤ x9 then ((ip_aI S 45 x1).bind fun zv2 => (if zv2 ≤ (x8 + 1) then (k53 x1 x2 x6 (x7 + 1) S) else ((ip_wI S 45 x1 (x8 + 1)).bind fun zS4 => ((ip_wI zS4 47 x1 x7).bind fun zS5 => (k53 x1 x2 x6 (x7 + 1) zS5))))) else ((ip_aL S 48 x7).bind fun zv6 => (if (x2 &&& (f_M_keptIf zv6 x9)) = 0 then (f_M_layCode_124 k53 (f_M_layCode_80 k53 n) x1 x2 x6 x7 x8 x9 (x1 + ((x9 + 1) * (f_M_powerOf x7))) 0 S) else (f_M_layCode_124 k53 (f_M_layCode_80 k53 n) x1 x2 x6 x7 x8 x9 (x1 + ((x9 + 1) * (f_M_powerOf x7))) 1 S))))
set_option maxRecDepth 10000 in
theorem E_M_layCode_80 {k53 : Int32 → Int64 → Int32 → Int32 → ip_St → Option (ip_St)} (hk53 : ∀ {x1 : Int32} {x2 : Int64} {x6 : Int32} {x7 : Int32} {S : ip_St} {S9 : ip_St} {d4 : Option Value} {d5 : Option Value} {d8 : Option Value} {d9 : Option Value} {d10 : Option Value} {d11 : Option Value}, k53 x1 x2 x6 x7 S = some S9 → ip_Ev 145 53 [some (.ref 30), some (.int x1), some (.long x2), none, d4, d5, some (.int x6), some (.int x7), d8, d9, d10, d11] [] S none S9) : ∀ (n : Nat) {x1 : Int32} {x2 : Int64} {x6 : Int32} {x7 : Int32} {x8 : Int32} {x9 : Int32} {S : ip_St} {S9 : ip_St} {d4 : Option Value} {d5 : Option Value} {d10 : Option Value} {d11 : Option Value}, f_M_layCode_80 k53 n x1 x2 x6 x7 x8 x9 S = some S9 → ip_Ev 145 80 [some (.ref 30), some (.int x1), some (.long x2), none, d4, d5, some (.int x6), some (.int x7), some (.int x8), some (.int x9), d10, d11] [] S none S9 := by
  intro n
  induction n with
  | zero =>
    intro x1 x2 x6 x7 x8 x9 S S9 d4 d5 d10 d11 h
    cases h
  | succ n ih =>
    intro x1 x2 x6 x7 x8 x9 S S9 d4 d5 d10 d11 h
    rw [f_M_layCode_80] at h
    refine ip_Ev.steps 2 (pc' := 83) (lv' := [some (.ref 30), some (.int x1), some (.long x2), none, d4, d5, some (.int x6), some (.int x7), some (.int x8), some (.int x9), d10, d11]) (st' := [.int 2, .int x9]) (S1 := S) rfl ?_
    refine ip_Ev.iff2 rfl rfl ip_cGe (fun zhc1 => ?_) (fun zhc1 => ?_)
    · rw [if_pos zhc1] at h
      refine ip_Ev.steps 6 (pc' := 219) (lv' := [some (.ref 30), some (.int x1), some (.long x2), none, d4, d5, some (.int x6), some (.int x7), some (.int x8), some (.int x9), d10, d11]) (st' := [.int x1, .ref 45, .int (x8 + 1)]) (S1 := S) rfl ?_
      obtain ⟨zv2, hzv2, h⟩ := ip_bind h
      refine ip_Ev.iald rfl hzv2 ?_
      refine ip_Ev.iff2 rfl rfl ip_cGe (fun zhc3 => ?_) (fun zhc3 => ?_)
      · rw [if_pos zhc3] at h
        refine ip_Ev.steps 2 (pc' := 53) (lv' := [some (.ref 30), some (.int x1), some (.long x2), none, d4, d5, some (.int x6), some (.int (x7 + 1)), some (.int x8), some (.int x9), d10, d11]) (st' := []) (S1 := S) rfl ?_
        exact hk53 h
      · rw [if_neg zhc3] at h
        refine ip_Ev.steps 6 (pc' := 232) (lv' := [some (.ref 30), some (.int x1), some (.long x2), none, d4, d5, some (.int x6), some (.int x7), some (.int x8), some (.int x9), d10, d11]) (st' := [.int (x8 + 1), .int x1, .ref 45]) (S1 := S) rfl ?_
        obtain ⟨zS4, hzS4, h⟩ := ip_bind h
        refine ip_Ev.iast rfl hzS4 ?_
        refine ip_Ev.steps 4 (pc' := 240) (lv' := [some (.ref 30), some (.int x1), some (.long x2), none, d4, d5, some (.int x6), some (.int x7), some (.int x8), some (.int x9), d10, d11]) (st' := [.int x7, .int x1, .ref 47]) (S1 := zS4) rfl ?_
        obtain ⟨zS5, hzS5, h⟩ := ip_bind h
        refine ip_Ev.iast rfl hzS5 ?_
        refine ip_Ev.steps 2 (pc' := 53) (lv' := [some (.ref 30), some (.int x1), some (.long x2), none, d4, d5, some (.int x6), some (.int (x7 + 1)), some (.int x8), some (.int x9), d10, d11]) (st' := []) (S1 := zS5) rfl ?_
        exact hk53 h
    · rw [if_neg zhc1] at h
      refine ip_Ev.steps 5 (pc' := 93) (lv' := [some (.ref 30), some (.int x1), some (.long x2), none, d4, d5, some (.int x6), some (.int x7), some (.int x8), some (.int x9), d10, d11]) (st' := [.int x7, .int (x9 + 1), .int x1]) (S1 := S) rfl ?_
      refine ip_Ev.call (i := 142) (a := [.int x7]) (r := [.int (x9 + 1), .int x1]) rfl (T_M_powerOf rfl) ?_
      show ip_Ev 145 96 [some (.ref 30), some (.int x1), some (.long x2), none, d4, d5, some (.int x6), some (.int x7), some (.int x8), some (.int x9), d10, d11] [.int (f_M_powerOf x7), .int (x9 + 1), .int x1] S _ _
      refine ip_Ev.steps 7 (pc' := 107) (lv' := [some (.ref 30), some (.int x1), some (.long x2), none, d4, d5, some (.int x6), some (.int x7), some (.int x8), some (.int x9), some (.int (x1 + ((x9 + 1) * (f_M_powerOf x7)))), d11]) (st' := [.int x7, .ref 48, .long x2]) (S1 := S) rfl ?_
      obtain ⟨zv6, hzv6, h⟩ := ip_bind h
      refine ip_Ev.lald rfl hzv6 ?_
      refine ip_Ev.steps 1 (pc' := 110) (lv' := [some (.ref 30), some (.int x1), some (.long x2), none, d4, d5, some (.int x6), some (.int x7), some (.int x8), some (.int x9), some (.int (x1 + ((x9 + 1) * (f_M_powerOf x7)))), d11]) (st' := [.int x9, .long zv6, .long x2]) (S1 := S) rfl ?_
      refine ip_Ev.call (i := 136) (a := [.long zv6, .int x9]) (r := [.long x2]) rfl (T_M_keptIf rfl) ?_
      show ip_Ev 145 113 [some (.ref 30), some (.int x1), some (.long x2), none, d4, d5, some (.int x6), some (.int x7), some (.int x8), some (.int x9), some (.int (x1 + ((x9 + 1) * (f_M_powerOf x7)))), d11] [.long (f_M_keptIf zv6 x9), .long x2] S _ _
      refine ip_Ev.steps 3 (pc' := 116) (lv' := [some (.ref 30), some (.int x1), some (.long x2), none, d4, d5, some (.int x6), some (.int x7), some (.int x8), some (.int x9), some (.int (x1 + ((x9 + 1) * (f_M_powerOf x7)))), d11]) (st' := [.int (lg_cmp (x2 &&& (f_M_keptIf zv6 x9)) 0)]) (S1 := S) rfl ?_
      refine ip_Ev.iff1 rfl rfl ip_lEq (fun zhc7 => ?_) (fun zhc7 => ?_)
      · rw [if_pos zhc7] at h
        refine ip_Ev.steps 1 (pc' := 124) (lv' := [some (.ref 30), some (.int x1), some (.long x2), none, d4, d5, some (.int x6), some (.int x7), some (.int x8), some (.int x9), some (.int (x1 + ((x9 + 1) * (f_M_powerOf x7)))), d11]) (st' := [.int 0]) (S1 := S) rfl ?_
        exact E_M_layCode_124 hk53 ih h
      · rw [if_neg zhc7] at h
        refine ip_Ev.steps 2 (pc' := 124) (lv' := [some (.ref 30), some (.int x1), some (.long x2), none, d4, d5, some (.int x6), some (.int x7), some (.int x8), some (.int x9), some (.int (x1 + ((x9 + 1) * (f_M_powerOf x7)))), d11]) (st' := [.int 1]) (S1 := S) rfl ?_
        exact E_M_layCode_124 hk53 ih h
def f_M_layCode_53 : Nat → Int32 → Int64 → Int32 → Int32 → ip_St → Option (ip_St)
  | 0, _, _, _, _, _ => none
  | n + 1, x1, x2, x6, x7, S => (if 6 ≤ x7 then some S else (if x6 = 0 then ((f_M_digitOf x1 x7).bind fun zv4 => (if zv4 = 0 then (f_M_layCode_80 (f_M_layCode_53 n) ip_FU x1 x2 x6 x7 0 0 S) else (f_M_layCode_53 n x1 x2 x6 (x7 + 1) S))) else some S))
set_option maxRecDepth 10000 in
theorem E_M_layCode_53 : ∀ (n : Nat) {x1 : Int32} {x2 : Int64} {x6 : Int32} {x7 : Int32} {S : ip_St} {S9 : ip_St} {d4 : Option Value} {d5 : Option Value} {d8 : Option Value} {d9 : Option Value} {d10 : Option Value} {d11 : Option Value}, f_M_layCode_53 n x1 x2 x6 x7 S = some S9 → ip_Ev 145 53 [some (.ref 30), some (.int x1), some (.long x2), none, d4, d5, some (.int x6), some (.int x7), d8, d9, d10, d11] [] S none S9 := by
  intro n
  induction n with
  | zero =>
    intro x1 x2 x6 x7 S S9 d4 d5 d8 d9 d10 d11 h
    cases h
  | succ n ih =>
    intro x1 x2 x6 x7 S S9 d4 d5 d8 d9 d10 d11 h
    rw [f_M_layCode_53] at h
    refine ip_Ev.steps 2 (pc' := 57) (lv' := [some (.ref 30), some (.int x1), some (.long x2), none, d4, d5, some (.int x6), some (.int x7), d8, d9, d10, d11]) (st' := [.int 6, .int x7]) (S1 := S) rfl ?_
    refine ip_Ev.iff2 rfl rfl ip_cGe (fun zhc1 => ?_) (fun zhc1 => ?_)
    · rw [if_pos zhc1] at h
      cases h
      exact ip_Ev.ret rfl
    · rw [if_neg zhc1] at h
      refine ip_Ev.steps 1 (pc' := 62) (lv' := [some (.ref 30), some (.int x1), some (.long x2), none, d4, d5, some (.int x6), some (.int x7), d8, d9, d10, d11]) (st' := [.int x6]) (S1 := S) rfl ?_
      refine ip_Ev.iff1 rfl rfl ip_cNe (fun zhc2 => ?_) (fun zhc2 => ?_)
      · rw [if_neg zhc2] at h
        cases h
        exact ip_Ev.ret rfl
      · rw [if_pos (Decidable.of_not_not zhc2)] at h
        refine ip_Ev.steps 2 (pc' := 68) (lv' := [some (.ref 30), some (.int x1), some (.long x2), none, d4, d5, some (.int x6), some (.int x7), d8, d9, d10, d11]) (st' := [.int x7, .int x1]) (S1 := S) rfl ?_
        obtain ⟨zv4, hzq3, h⟩ := ip_bind h
        refine ip_Ev.call (i := 143) (a := [.int x1, .int x7]) (r := []) rfl (T_M_digitOf hzq3) ?_
        show ip_Ev 145 71 [some (.ref 30), some (.int x1), some (.long x2), none, d4, d5, some (.int x6), some (.int x7), d8, d9, d10, d11] [.int zv4] S _ _
        refine ip_Ev.iff1 rfl rfl ip_cNe (fun zhc5 => ?_) (fun zhc5 => ?_)
        · rw [if_neg zhc5] at h
          refine ip_Ev.steps 2 (pc' := 53) (lv' := [some (.ref 30), some (.int x1), some (.long x2), none, d4, d5, some (.int x6), some (.int (x7 + 1)), d8, d9, d10, d11]) (st' := []) (S1 := S) rfl ?_
          exact ih h
        · rw [if_pos (Decidable.of_not_not zhc5)] at h
          refine ip_Ev.steps 4 (pc' := 80) (lv' := [some (.ref 30), some (.int x1), some (.long x2), none, d4, d5, some (.int x6), some (.int x7), some (.int 0), some (.int 0), d10, d11]) (st' := []) (S1 := S) rfl ?_
          exact E_M_layCode_80 ih ip_FU h
def f_M_layCode_49 (x1 : Int32) (x2 : Int64) (x6 : Int32) (s1 : Int32) (s2 : Int32) (S : ip_St) : Option (ip_St) := ((ip_wI S 46 s1 s2).bind fun zS1 => (f_M_layCode_53 ip_FU x1 x2 x6 0 zS1))
set_option maxRecDepth 10000 in
theorem E_M_layCode_49 {x1 : Int32} {x2 : Int64} {x6 : Int32} {s1 : Int32} {s2 : Int32} {S : ip_St} {S9 : ip_St} {d4 : Option Value} {d5 : Option Value} {d7 : Option Value} {d8 : Option Value} {d9 : Option Value} {d10 : Option Value} {d11 : Option Value} (h : f_M_layCode_49 x1 x2 x6 s1 s2 S = some S9) : ip_Ev 145 49 [some (.ref 30), some (.int x1), some (.long x2), none, d4, d5, some (.int x6), d7, d8, d9, d10, d11] [.int s2, .int s1, .ref 46] S none S9 := by
  unfold f_M_layCode_49 at h
  obtain ⟨zS1, hzS1, h⟩ := ip_bind h
  refine ip_Ev.iast rfl hzS1 ?_
  refine ip_Ev.steps 2 (pc' := 53) (lv' := [some (.ref 30), some (.int x1), some (.long x2), none, d4, d5, some (.int x6), some (.int 0), d8, d9, d10, d11]) (st' := []) (S1 := zS1) rfl ?_
  exact E_M_layCode_53 ip_FU h
def f_M_layCode_24 (x1 : Int32) (x2 : Int64) (x6 : Int32) (s1 : Int32) (s2 : Int32) (S : ip_St) : Option (ip_St) := ((ip_wI S 45 s1 s2).bind fun zS1 => ((ip_wI zS1 47 x1 (-1)).bind fun zS2 => (if x6 = 1 then (f_M_layCode_49 x1 x2 x6 x1 0 zS2) else (f_M_layCode_49 x1 x2 x6 x1 99 zS2))))
set_option maxRecDepth 10000 in
theorem E_M_layCode_24 {x1 : Int32} {x2 : Int64} {x6 : Int32} {s1 : Int32} {s2 : Int32} {S : ip_St} {S9 : ip_St} {d4 : Option Value} {d5 : Option Value} {d7 : Option Value} {d8 : Option Value} {d9 : Option Value} {d10 : Option Value} {d11 : Option Value} (h : f_M_layCode_24 x1 x2 x6 s1 s2 S = some S9) : ip_Ev 145 24 [some (.ref 30), some (.int x1), some (.long x2), none, d4, d5, some (.int x6), d7, d8, d9, d10, d11] [.int s2, .int s1, .ref 45] S none S9 := by
  unfold f_M_layCode_24 at h
  obtain ⟨zS1, hzS1, h⟩ := ip_bind h
  refine ip_Ev.iast rfl hzS1 ?_
  refine ip_Ev.steps 4 (pc' := 31) (lv' := [some (.ref 30), some (.int x1), some (.long x2), none, d4, d5, some (.int x6), d7, d8, d9, d10, d11]) (st' := [.int (-1), .int x1, .ref 47]) (S1 := zS1) rfl ?_
  obtain ⟨zS2, hzS2, h⟩ := ip_bind h
  refine ip_Ev.iast rfl hzS2 ?_
  refine ip_Ev.steps 5 (pc' := 40) (lv' := [some (.ref 30), some (.int x1), some (.long x2), none, d4, d5, some (.int x6), d7, d8, d9, d10, d11]) (st' := [.int 1, .int x6, .int x1, .ref 46]) (S1 := zS2) rfl ?_
  refine ip_Ev.iff2 rfl rfl ip_cNe (fun zhc3 => ?_) (fun zhc3 => ?_)
  · rw [if_neg zhc3] at h
    refine ip_Ev.steps 1 (pc' := 49) (lv' := [some (.ref 30), some (.int x1), some (.long x2), none, d4, d5, some (.int x6), d7, d8, d9, d10, d11]) (st' := [.int 99, .int x1, .ref 46]) (S1 := zS2) rfl ?_
    exact E_M_layCode_49 h
  · rw [if_pos (Decidable.of_not_not zhc3)] at h
    refine ip_Ev.steps 2 (pc' := 49) (lv' := [some (.ref 30), some (.int x1), some (.long x2), none, d4, d5, some (.int x6), d7, d8, d9, d10, d11]) (st' := [.int 0, .int x1, .ref 46]) (S1 := zS2) rfl ?_
    exact E_M_layCode_49 h
def f_M_layCode (p1 : Int32) (p2 : Int64) (p3 : Int64) (S : ip_St) : Option (ip_St) := (if (f_M_verdictBy p2 p3) = 0 then (f_M_layCode_24 p1 p2 (f_M_verdictBy p2 p3) p1 99 S) else (f_M_layCode_24 p1 p2 (f_M_verdictBy p2 p3) p1 0 S))
set_option maxRecDepth 10000 in
theorem T_M_layCode {p1 : Int32} {p2 : Int64} {p3 : Int64} {S : ip_St} {S9 : ip_St} (h : f_M_layCode p1 p2 p3 S = some S9) : ip_Me 145 [.ref 30, .int p1, .long p2, .long p3] S none S9 := by
  unfold f_M_layCode at h
  refine ⟨[some (.ref 30), some (.int p1), some (.long p2), none, some (.long p3), none, none, none, none, none, none, none], rfl, ?_⟩
  refine ip_Ev.steps 2 (pc' := 3) (lv' := [some (.ref 30), some (.int p1), some (.long p2), none, some (.long p3), none, none, none, none, none, none, none]) (st' := [.long p3, .long p2]) (S1 := S) rfl ?_
  refine ip_Ev.call (i := 141) (a := [.long p2, .long p3]) (r := []) rfl (T_M_verdictBy rfl) ?_
  show ip_Ev 145 6 [some (.ref 30), some (.int p1), some (.long p2), none, some (.long p3), none, none, none, none, none, none, none] [.int (f_M_verdictBy p2 p3)] S _ _
  refine ip_Ev.steps 5 (pc' := 15) (lv' := [some (.ref 30), some (.int p1), some (.long p2), none, some (.long p3), none, some (.int (f_M_verdictBy p2 p3)), none, none, none, none, none]) (st' := [.int (f_M_verdictBy p2 p3), .int p1, .ref 45]) (S1 := S) rfl ?_
  refine ip_Ev.iff1 rfl rfl ip_cNe (fun zhc1 => ?_) (fun zhc1 => ?_)
  · rw [if_neg zhc1] at h
    refine ip_Ev.steps 1 (pc' := 24) (lv' := [some (.ref 30), some (.int p1), some (.long p2), none, some (.long p3), none, some (.int (f_M_verdictBy p2 p3)), none, none, none, none, none]) (st' := [.int 0, .int p1, .ref 45]) (S1 := S) rfl ?_
    exact E_M_layCode_24 h
  · rw [if_pos (Decidable.of_not_not zhc1)] at h
    refine ip_Ev.steps 2 (pc' := 24) (lv' := [some (.ref 30), some (.int p1), some (.long p2), none, some (.long p3), none, some (.int (f_M_verdictBy p2 p3)), none, none, none, none, none]) (st' := [.int 99, .int p1, .ref 45]) (S1 := S) rfl ?_
    exact E_M_layCode_24 h
-- M_layCodes
def f_M_layCodes_127 : Nat → Int64 → Int64 → Int32 → Int32 → ip_St → Option (Int32 × ip_St)
  | 0, _, _, _, _, _ => none
  | n + 1, x2, x4, x6, x7, S => (if x7 < 0 then some (x6, S) else ((f_M_waysBy x2 x7 S).bind fun zv3 => ((f_M_layCode x7 zv3 x4 S).bind fun zS5 => (f_M_layCodes_127 n x2 x4 x6 (x7 + (-1)) zS5))))
set_option maxRecDepth 10000 in
theorem E_M_layCodes_127 : ∀ (n : Nat) {x2 : Int64} {x4 : Int64} {x6 : Int32} {x7 : Int32} {S : ip_St} {r : Int32} {S9 : ip_St} {d1 : Option Value}, f_M_layCodes_127 n x2 x4 x6 x7 S = some (r, S9) → ip_Ev 146 127 [some (.ref 30), d1, some (.long x2), none, some (.long x4), none, some (.int x6), some (.int x7)] [] S (some (.int r)) S9 := by
  intro n
  induction n with
  | zero =>
    intro x2 x4 x6 x7 S r S9 d1 h
    cases h
  | succ n ih =>
    intro x2 x4 x6 x7 S r S9 d1 h
    rw [f_M_layCodes_127] at h
    refine ip_Ev.steps 1 (pc' := 129) (lv' := [some (.ref 30), d1, some (.long x2), none, some (.long x4), none, some (.int x6), some (.int x7)]) (st' := [.int x7]) (S1 := S) rfl ?_
    refine ip_Ev.iff1 rfl rfl ip_cLt (fun zhc1 => ?_) (fun zhc1 => ?_)
    · rw [if_pos zhc1] at h
      refine ip_Ev.steps 1 (pc' := 155) (lv' := [some (.ref 30), d1, some (.long x2), none, some (.long x4), none, some (.int x6), some (.int x7)]) (st' := [.int x6]) (S1 := S) rfl ?_
      cases h
      exact ip_Ev.ret rfl
    · rw [if_neg zhc1] at h
      refine ip_Ev.steps 5 (pc' := 139) (lv' := [some (.ref 30), d1, some (.long x2), none, some (.long x4), none, some (.int x6), some (.int x7)]) (st' := [.int x7, .long x2, .ref 30, .int x7, .ref 30]) (S1 := S) rfl ?_
      obtain ⟨zv3, hzq2, h⟩ := ip_bind h
      refine ip_Ev.call (i := 144) (a := [.ref 30, .long x2, .int x7]) (r := [.int x7, .ref 30]) rfl (T_M_waysBy hzq2) ?_
      show ip_Ev 146 142 [some (.ref 30), d1, some (.long x2), none, some (.long x4), none, some (.int x6), some (.int x7)] [.long zv3, .int x7, .ref 30] S _ _
      refine ip_Ev.steps 1 (pc' := 144) (lv' := [some (.ref 30), d1, some (.long x2), none, some (.long x4), none, some (.int x6), some (.int x7)]) (st' := [.long x4, .long zv3, .int x7, .ref 30]) (S1 := S) rfl ?_
      obtain ⟨zS5, hzq4, h⟩ := ip_bind h
      refine ip_Ev.call (i := 145) (a := [.ref 30, .int x7, .long zv3, .long x4]) (r := []) rfl (T_M_layCode hzq4) ?_
      show ip_Ev 146 147 [some (.ref 30), d1, some (.long x2), none, some (.long x4), none, some (.int x6), some (.int x7)] [] zS5 _ _
      refine ip_Ev.steps 2 (pc' := 127) (lv' := [some (.ref 30), d1, some (.long x2), none, some (.long x4), none, some (.int x6), some (.int (x7 + (-1)))]) (st' := []) (S1 := zS5) rfl ?_
      exact ih h
def f_M_layCodes_89 (k17 : Int32 → Int64 → Int64 → Int32 → Int32 → ip_St → Option (Int32 × ip_St)) (x1 : Int32) (x4 : Int64) (x6 : Int32) (x7 : Int32) (s0 : Int64) (s1 : Int64) (S : ip_St) : Option (Int32 × ip_St) := ((ip_aI S 44 ((6 * x1) + x7)).bind fun zv1 => (k17 x1 (s0 &&& s1) x4 (x6 + ((zv1 + 1) * (f_M_powerOf x7))) (x7 + 1) S))
set_option maxRecDepth 10000 in
theorem E_M_layCodes_89 {k17 : Int32 → Int64 → Int64 → Int32 → Int32 → ip_St → Option (Int32 × ip_St)} (hk17 : ∀ {x1 : Int32} {x2 : Int64} {x4 : Int64} {x6 : Int32} {x7 : Int32} {S : ip_St} {r : Int32} {S9 : ip_St}, k17 x1 x2 x4 x6 x7 S = some (r, S9) → ip_Ev 146 17 [some (.ref 30), some (.int x1), some (.long x2), none, some (.long x4), none, some (.int x6), some (.int x7)] [] S (some (.int r)) S9) {x1 : Int32} {x4 : Int64} {x6 : Int32} {x7 : Int32} {s0 : Int64} {s1 : Int64} {S : ip_St} {r : Int32} {S9 : ip_St} {d2 : Option Value} {d3 : Option Value} (h : f_M_layCodes_89 k17 x1 x4 x6 x7 s0 s1 S = some (r, S9)) : ip_Ev 146 89 [some (.ref 30), some (.int x1), d2, d3, some (.long x4), none, some (.int x6), some (.int x7)] [.long s1, .long s0] S (some (.int r)) S9 := by
  unfold f_M_layCodes_89 at h
  refine ip_Ev.steps 10 (pc' := 104) (lv' := [some (.ref 30), some (.int x1), some (.long (s0 &&& s1)), none, some (.long x4), none, some (.int x6), some (.int x7)]) (st' := [.int ((6 * x1) + x7), .ref 44, .int x6]) (S1 := S) rfl ?_
  obtain ⟨zv1, hzv1, h⟩ := ip_bind h
  refine ip_Ev.iald rfl hzv1 ?_
  refine ip_Ev.steps 3 (pc' := 109) (lv' := [some (.ref 30), some (.int x1), some (.long (s0 &&& s1)), none, some (.long x4), none, some (.int x6), some (.int x7)]) (st' := [.int x7, .int (zv1 + 1), .int x6]) (S1 := S) rfl ?_
  refine ip_Ev.call (i := 142) (a := [.int x7]) (r := [.int (zv1 + 1), .int x6]) rfl (T_M_powerOf rfl) ?_
  show ip_Ev 146 112 [some (.ref 30), some (.int x1), some (.long (s0 &&& s1)), none, some (.long x4), none, some (.int x6), some (.int x7)] [.int (f_M_powerOf x7), .int (zv1 + 1), .int x6] S _ _
  refine ip_Ev.steps 5 (pc' := 17) (lv' := [some (.ref 30), some (.int x1), some (.long (s0 &&& s1)), none, some (.long x4), none, some (.int (x6 + ((zv1 + 1) * (f_M_powerOf x7)))), some (.int (x7 + 1))]) (st' := []) (S1 := S) rfl ?_
  exact hk17 h
def f_M_layCodes_17 : Nat → Int32 → Int64 → Int64 → Int32 → Int32 → ip_St → Option (Int32 × ip_St)
  | 0, _, _, _, _, _, _ => none
  | n + 1, x1, x2, x4, x6, x7, S => (if 6 ≤ x7 then (f_M_layCodes_127 ip_FU x2 x4 x6 728 S) else ((ip_aI S 42 (2 * x1)).bind fun zv2 => ((f_M_saysRow zv2 x7 S).bind fun zv4 => ((ip_wL S 48 x7 zv4).bind fun zS5 => ((ip_aI zS5 43 ((6 * x1) + x7)).bind fun zv6 => (if zv6 = (-1) then (f_M_layCodes_89 (f_M_layCodes_17 n) x1 x4 x6 x7 x2 (-1) zS5) else ((f_M_rowOf x7 zS5).bind fun zv9 => ((ip_aI zS5 43 ((6 * x1) + x7)).bind fun zv10 => (f_M_layCodes_89 (f_M_layCodes_17 n) x1 x4 x6 x7 x2 (f_M_keptIf zv9 zv10) zS5)))))))))
set_option maxRecDepth 10000 in
theorem E_M_layCodes_17 : ∀ (n : Nat) {x1 : Int32} {x2 : Int64} {x4 : Int64} {x6 : Int32} {x7 : Int32} {S : ip_St} {r : Int32} {S9 : ip_St}, f_M_layCodes_17 n x1 x2 x4 x6 x7 S = some (r, S9) → ip_Ev 146 17 [some (.ref 30), some (.int x1), some (.long x2), none, some (.long x4), none, some (.int x6), some (.int x7)] [] S (some (.int r)) S9 := by
  intro n
  induction n with
  | zero =>
    intro x1 x2 x4 x6 x7 S r S9 h
    cases h
  | succ n ih =>
    intro x1 x2 x4 x6 x7 S r S9 h
    rw [f_M_layCodes_17] at h
    refine ip_Ev.steps 2 (pc' := 21) (lv' := [some (.ref 30), some (.int x1), some (.long x2), none, some (.long x4), none, some (.int x6), some (.int x7)]) (st' := [.int 6, .int x7]) (S1 := S) rfl ?_
    refine ip_Ev.iff2 rfl rfl ip_cGe (fun zhc1 => ?_) (fun zhc1 => ?_)
    · rw [if_pos zhc1] at h
      refine ip_Ev.steps 2 (pc' := 127) (lv' := [some (.ref 30), some (.int x1), some (.long x2), none, some (.long x4), none, some (.int x6), some (.int 728)]) (st' := []) (S1 := S) rfl ?_
      exact E_M_layCodes_127 ip_FU h
    · rw [if_neg zhc1] at h
      refine ip_Ev.steps 9 (pc' := 38) (lv' := [some (.ref 30), some (.int x1), some (.long x2), none, some (.long x4), none, some (.int x6), some (.int x7)]) (st' := [.int (2 * x1), .ref 42, .ref 30, .int x7, .ref 48]) (S1 := S) rfl ?_
      obtain ⟨zv2, hzv2, h⟩ := ip_bind h
      refine ip_Ev.iald rfl hzv2 ?_
      refine ip_Ev.steps 1 (pc' := 41) (lv' := [some (.ref 30), some (.int x1), some (.long x2), none, some (.long x4), none, some (.int x6), some (.int x7)]) (st' := [.int x7, .int zv2, .ref 30, .int x7, .ref 48]) (S1 := S) rfl ?_
      obtain ⟨zv4, hzq3, h⟩ := ip_bind h
      refine ip_Ev.call (i := 137) (a := [.ref 30, .int zv2, .int x7]) (r := [.int x7, .ref 48]) rfl (T_M_saysRow hzq3) ?_
      show ip_Ev 146 44 [some (.ref 30), some (.int x1), some (.long x2), none, some (.long x4), none, some (.int x6), some (.int x7)] [.long zv4, .int x7, .ref 48] S _ _
      obtain ⟨zS5, hzS5, h⟩ := ip_bind h
      refine ip_Ev.last rfl hzS5 ?_
      refine ip_Ev.steps 8 (pc' := 57) (lv' := [some (.ref 30), some (.int x1), some (.long x2), none, some (.long x4), none, some (.int x6), some (.int x7)]) (st' := [.int ((6 * x1) + x7), .ref 43, .long x2]) (S1 := zS5) rfl ?_
      obtain ⟨zv6, hzv6, h⟩ := ip_bind h
      refine ip_Ev.iald rfl hzv6 ?_
      refine ip_Ev.steps 1 (pc' := 59) (lv' := [some (.ref 30), some (.int x1), some (.long x2), none, some (.long x4), none, some (.int x6), some (.int x7)]) (st' := [.int (-1), .int zv6, .long x2]) (S1 := zS5) rfl ?_
      refine ip_Ev.iff2 rfl rfl ip_cNe (fun zhc7 => ?_) (fun zhc7 => ?_)
      · rw [if_neg zhc7] at h
        refine ip_Ev.steps 2 (pc' := 71) (lv' := [some (.ref 30), some (.int x1), some (.long x2), none, some (.long x4), none, some (.int x6), some (.int x7)]) (st' := [.int x7, .ref 30, .long x2]) (S1 := zS5) rfl ?_
        obtain ⟨zv9, hzq8, h⟩ := ip_bind h
        refine ip_Ev.call (i := 118) (a := [.ref 30, .int x7]) (r := [.long x2]) rfl (T_M_rowOf hzq8) ?_
        show ip_Ev 146 74 [some (.ref 30), some (.int x1), some (.long x2), none, some (.long x4), none, some (.int x6), some (.int x7)] [.long zv9, .long x2] zS5 _ _
        refine ip_Ev.steps 7 (pc' := 85) (lv' := [some (.ref 30), some (.int x1), some (.long x2), none, some (.long x4), none, some (.int x6), some (.int x7)]) (st' := [.int ((6 * x1) + x7), .ref 43, .long zv9, .long x2]) (S1 := zS5) rfl ?_
        obtain ⟨zv10, hzv10, h⟩ := ip_bind h
        refine ip_Ev.iald rfl hzv10 ?_
        refine ip_Ev.call (i := 136) (a := [.long zv9, .int zv10]) (r := [.long x2]) rfl (T_M_keptIf rfl) ?_
        show ip_Ev 146 89 [some (.ref 30), some (.int x1), some (.long x2), none, some (.long x4), none, some (.int x6), some (.int x7)] [.long (f_M_keptIf zv9 zv10), .long x2] zS5 _ _
        exact E_M_layCodes_89 ih h
      · rw [if_pos (Decidable.of_not_not zhc7)] at h
        refine ip_Ev.steps 2 (pc' := 89) (lv' := [some (.ref 30), some (.int x1), some (.long x2), none, some (.long x4), none, some (.int x6), some (.int x7)]) (st' := [.long (-1), .long x2]) (S1 := zS5) rfl ?_
        exact E_M_layCodes_89 ih h
def f_M_layCodes (p1 : Int32) (S : ip_St) : Option (Int32 × ip_St) := ((f_M_freesOf p1 S).bind fun zv2 => (f_M_layCodes_17 ip_FU p1 (-1) zv2 0 0 S))
set_option maxRecDepth 10000 in
theorem T_M_layCodes {p1 : Int32} {S : ip_St} {r : Int32} {S9 : ip_St} (h : f_M_layCodes p1 S = some (r, S9)) : ip_Me 146 [.ref 30, .int p1] S (some (.int r)) S9 := by
  unfold f_M_layCodes at h
  refine ⟨[some (.ref 30), some (.int p1), none, none, none, none, none, none], rfl, ?_⟩
  refine ip_Ev.steps 4 (pc' := 6) (lv' := [some (.ref 30), some (.int p1), some (.long (-1)), none, none, none, none, none]) (st' := [.int p1, .ref 30]) (S1 := S) rfl ?_
  obtain ⟨zv2, hzq1, h⟩ := ip_bind h
  refine ip_Ev.call (i := 140) (a := [.ref 30, .int p1]) (r := []) rfl (T_M_freesOf hzq1) ?_
  show ip_Ev 146 9 [some (.ref 30), some (.int p1), some (.long (-1)), none, none, none, none, none] [.long zv2] S _ _
  refine ip_Ev.steps 5 (pc' := 17) (lv' := [some (.ref 30), some (.int p1), some (.long (-1)), none, some (.long zv2), none, some (.int 0), some (.int 0)]) (st' := []) (S1 := S) rfl ?_
  exact E_M_layCodes_17 ip_FU h
-- M_leftOf
def f_M_leftOf (p1 : Int32) (p2 : Int32) (S : ip_St) : Option (Int32 × ip_St) := ((f_M_layCodes p1 S).bind fun zq1 => (if p2 = 4 then ((ip_aI zq1.2 45 zq1.1).bind fun zv10 => some (zv10, zq1.2)) else (if p2 = 5 then ((ip_aI zq1.2 47 zq1.1).bind fun zv9 => some (zv9, zq1.2)) else ((ip_aI zq1.2 46 zq1.1).bind fun zv6 => (if zv6 ≤ 9 then ((ip_aI zq1.2 46 zq1.1).bind fun zv8 => some (zv8, zq1.2)) else some ((-1), zq1.2))))))
set_option maxRecDepth 10000 in
theorem T_M_leftOf {p1 : Int32} {p2 : Int32} {S : ip_St} {r : Int32} {S9 : ip_St} (h : f_M_leftOf p1 p2 S = some (r, S9)) : ip_Me 147 [.ref 30, .int p1, .int p2] S (some (.int r)) S9 := by
  unfold f_M_leftOf at h
  refine ⟨[some (.ref 30), some (.int p1), some (.int p2), none], rfl, ?_⟩
  refine ip_Ev.steps 2 (pc' := 2) (lv' := [some (.ref 30), some (.int p1), some (.int p2), none]) (st' := [.int p1, .ref 30]) (S1 := S) rfl ?_
  obtain ⟨⟨zv2, zS3⟩, hzq1, h⟩ := ip_bind h
  dsimp only at h
  refine ip_Ev.call (i := 146) (a := [.ref 30, .int p1]) (r := []) rfl (T_M_layCodes hzq1) ?_
  show ip_Ev 147 5 [some (.ref 30), some (.int p1), some (.int p2), none] [.int zv2] zS3 _ _
  refine ip_Ev.steps 3 (pc' := 8) (lv' := [some (.ref 30), some (.int p1), some (.int p2), some (.int zv2)]) (st' := [.int 4, .int p2]) (S1 := zS3) rfl ?_
  refine ip_Ev.iff2 rfl rfl ip_cNe (fun zhc4 => ?_) (fun zhc4 => ?_)
  · rw [if_neg zhc4] at h
    refine ip_Ev.steps 2 (pc' := 22) (lv' := [some (.ref 30), some (.int p1), some (.int p2), some (.int zv2)]) (st' := [.int 5, .int p2]) (S1 := zS3) rfl ?_
    refine ip_Ev.iff2 rfl rfl ip_cNe (fun zhc5 => ?_) (fun zhc5 => ?_)
    · rw [if_neg zhc5] at h
      refine ip_Ev.steps 3 (pc' := 39) (lv' := [some (.ref 30), some (.int p1), some (.int p2), some (.int zv2)]) (st' := [.int zv2, .ref 46]) (S1 := zS3) rfl ?_
      obtain ⟨zv6, hzv6, h⟩ := ip_bind h
      refine ip_Ev.iald rfl hzv6 ?_
      refine ip_Ev.steps 1 (pc' := 42) (lv' := [some (.ref 30), some (.int p1), some (.int p2), some (.int zv2)]) (st' := [.int 9, .int zv6]) (S1 := zS3) rfl ?_
      refine ip_Ev.iff2 rfl rfl ip_cLe (fun zhc7 => ?_) (fun zhc7 => ?_)
      · rw [if_pos zhc7] at h
        refine ip_Ev.steps 3 (pc' := 54) (lv' := [some (.ref 30), some (.int p1), some (.int p2), some (.int zv2)]) (st' := [.int zv2, .ref 46]) (S1 := zS3) rfl ?_
        obtain ⟨zv8, hzv8, h⟩ := ip_bind h
        refine ip_Ev.iald rfl hzv8 ?_
        cases h
        exact ip_Ev.ret rfl
      · rw [if_neg zhc7] at h
        refine ip_Ev.steps 2 (pc' := 55) (lv' := [some (.ref 30), some (.int p1), some (.int p2), some (.int zv2)]) (st' := [.int (-1)]) (S1 := zS3) rfl ?_
        cases h
        exact ip_Ev.ret rfl
    · rw [if_pos (Decidable.of_not_not zhc5)] at h
      refine ip_Ev.steps 3 (pc' := 30) (lv' := [some (.ref 30), some (.int p1), some (.int p2), some (.int zv2)]) (st' := [.int zv2, .ref 47]) (S1 := zS3) rfl ?_
      obtain ⟨zv9, hzv9, h⟩ := ip_bind h
      refine ip_Ev.iald rfl hzv9 ?_
      refine ip_Ev.steps 1 (pc' := 55) (lv' := [some (.ref 30), some (.int p1), some (.int p2), some (.int zv2)]) (st' := [.int zv9]) (S1 := zS3) rfl ?_
      cases h
      exact ip_Ev.ret rfl
  · rw [if_pos (Decidable.of_not_not zhc4)] at h
    refine ip_Ev.steps 3 (pc' := 16) (lv' := [some (.ref 30), some (.int p1), some (.int p2), some (.int zv2)]) (st' := [.int zv2, .ref 45]) (S1 := zS3) rfl ?_
    obtain ⟨zv10, hzv10, h⟩ := ip_bind h
    refine ip_Ev.iald rfl hzv10 ?_
    refine ip_Ev.steps 1 (pc' := 55) (lv' := [some (.ref 30), some (.int p1), some (.int p2), some (.int zv2)]) (st' := [.int zv10]) (S1 := zS3) rfl ?_
    cases h
    exact ip_Ev.ret rfl
-- M_tellJudge
def f_M_tellJudge (p1 : Int32) (p2 : Int32) (S : ip_St) : Option (Int32 × ip_St) := (if (f_M_in (Int32.toInt64 p2) 20 25) = false then (if (f_M_in (Int32.toInt64 p2) 30 35) = false then (if p2 = 0 then ((ip_aI S 42 (2 * p1)).bind fun zv4 => some (zv4, S)) else (if p2 = 1 then ((f_M_waysOf p1 S).bind fun zv6 => ((f_M_ones zv6).bind fun zv8 => some (zv8, S))) else (if p2 = 2 then ((f_M_waysOf p1 S).bind fun zv10 => ((f_M_freesOf p1 S).bind fun zv12 => ((f_M_ones (zv10 &&& zv12)).bind fun zv14 => some (zv14, S)))) else (if p2 = 3 then ((f_M_waysOf p1 S).bind fun zv16 => ((f_M_freesOf p1 S).bind fun zv18 => some ((f_M_verdictBy zv16 zv18), S))) else (if p2 = 4 then ((f_M_leftOf p1 p2 S).bind fun zq19 => some (zq19.1, zq19.2)) else (if p2 = 5 then ((f_M_leftOf p1 p2 S).bind fun zq22 => some (zq22.1, zq22.2)) else (if p2 = 6 then ((f_M_leftOf p1 p2 S).bind fun zq25 => some (zq25.1, zq25.2)) else (if p2 = 7 then ((f_M_heardMany p1 S).bind fun zv29 => some (zv29, S)) else (if p2 = 8 then ((f_M_strikeOf p1 S).bind fun zq30 => some (zq30.1, zq30.2)) else (if p2 = 9 then ((f_M_kindsOf p1 S).bind fun zv34 => some (zv34, S)) else (if p2 = 10 then ((f_M_testOf p1 S).bind fun zv36 => some (zv36, S)) else some ((-102), S)))))))))))) else ((ip_aI S 44 (((6 * p1) + p2) - 30)).bind fun zv37 => some (zv37, S))) else ((ip_aI S 43 (((6 * p1) + p2) - 20)).bind fun zv38 => some (zv38, S)))
set_option maxRecDepth 10000 in
theorem T_M_tellJudge {p1 : Int32} {p2 : Int32} {S : ip_St} {r : Int32} {S9 : ip_St} (h : f_M_tellJudge p1 p2 S = some (r, S9)) : ip_Me 153 [.ref 30, .int p1, .int p2] S (some (.int r)) S9 := by
  unfold f_M_tellJudge at h
  refine ⟨[some (.ref 30), some (.int p1), some (.int p2)], rfl, ?_⟩
  refine ip_Ev.steps 4 (pc' := 8) (lv' := [some (.ref 30), some (.int p1), some (.int p2)]) (st' := [.long 25, .long 20, .long (Int32.toInt64 p2)]) (S1 := S) rfl ?_
  refine ip_Ev.call (i := 101) (a := [.long (Int32.toInt64 p2), .long 20, .long 25]) (r := []) rfl (T_M_in rfl) ?_
  show ip_Ev 153 11 [some (.ref 30), some (.int p1), some (.int p2)] [.int (ip_b2i (f_M_in (Int32.toInt64 p2) 20 25))] S _ _
  refine ip_Ev.iff1 rfl rfl ip_bEq (fun zhc1 => ?_) (fun zhc1 => ?_)
  · rw [if_pos zhc1] at h
    refine ip_Ev.steps 4 (pc' := 37) (lv' := [some (.ref 30), some (.int p1), some (.int p2)]) (st' := [.long 35, .long 30, .long (Int32.toInt64 p2)]) (S1 := S) rfl ?_
    refine ip_Ev.call (i := 101) (a := [.long (Int32.toInt64 p2), .long 30, .long 35]) (r := []) rfl (T_M_in rfl) ?_
    show ip_Ev 153 40 [some (.ref 30), some (.int p1), some (.int p2)] [.int (ip_b2i (f_M_in (Int32.toInt64 p2) 30 35))] S _ _
    refine ip_Ev.iff1 rfl rfl ip_bEq (fun zhc2 => ?_) (fun zhc2 => ?_)
    · rw [if_pos zhc2] at h
      refine ip_Ev.steps 1 (pc' := 59) (lv' := [some (.ref 30), some (.int p1), some (.int p2)]) (st' := [.int p2]) (S1 := S) rfl ?_
      by_cases zhs3_0 : p2 = 0
      · rw [if_pos zhs3_0] at h
        refine ip_Ev.ts (off := 57) rfl (by rw [zhs3_0]; rfl) rfl ?_
        refine ip_Ev.steps 5 (pc' := 123) (lv' := [some (.ref 30), some (.int p1), some (.int p2)]) (st' := [.int (2 * p1), .ref 42]) (S1 := S) rfl ?_
        obtain ⟨zv4, hzv4, h⟩ := ip_bind h
        refine ip_Ev.iald rfl hzv4 ?_
        cases h
        exact ip_Ev.ret rfl
      rw [if_neg zhs3_0] at h
      by_cases zhs3_1 : p2 = 1
      · rw [if_pos zhs3_1] at h
        refine ip_Ev.ts (off := 66) rfl (by rw [zhs3_1]; rfl) rfl ?_
        refine ip_Ev.steps 2 (pc' := 127) (lv' := [some (.ref 30), some (.int p1), some (.int p2)]) (st' := [.int p1, .ref 30]) (S1 := S) rfl ?_
        obtain ⟨zv6, hzq5, h⟩ := ip_bind h
        refine ip_Ev.call (i := 138) (a := [.ref 30, .int p1]) (r := []) rfl (T_M_waysOf hzq5) ?_
        show ip_Ev 153 130 [some (.ref 30), some (.int p1), some (.int p2)] [.long zv6] S _ _
        obtain ⟨zv8, hzq7, h⟩ := ip_bind h
        refine ip_Ev.call (i := 127) (a := [.long zv6]) (r := []) rfl (T_M_ones hzq7) ?_
        show ip_Ev 153 133 [some (.ref 30), some (.int p1), some (.int p2)] [.int zv8] S _ _
        cases h
        exact ip_Ev.ret rfl
      rw [if_neg zhs3_1] at h
      by_cases zhs3_2 : p2 = 2
      · rw [if_pos zhs3_2] at h
        refine ip_Ev.ts (off := 75) rfl (by rw [zhs3_2]; rfl) rfl ?_
        refine ip_Ev.steps 2 (pc' := 136) (lv' := [some (.ref 30), some (.int p1), some (.int p2)]) (st' := [.int p1, .ref 30]) (S1 := S) rfl ?_
        obtain ⟨zv10, hzq9, h⟩ := ip_bind h
        refine ip_Ev.call (i := 138) (a := [.ref 30, .int p1]) (r := []) rfl (T_M_waysOf hzq9) ?_
        show ip_Ev 153 139 [some (.ref 30), some (.int p1), some (.int p2)] [.long zv10] S _ _
        refine ip_Ev.steps 2 (pc' := 141) (lv' := [some (.ref 30), some (.int p1), some (.int p2)]) (st' := [.int p1, .ref 30, .long zv10]) (S1 := S) rfl ?_
        obtain ⟨zv12, hzq11, h⟩ := ip_bind h
        refine ip_Ev.call (i := 140) (a := [.ref 30, .int p1]) (r := [.long zv10]) rfl (T_M_freesOf hzq11) ?_
        show ip_Ev 153 144 [some (.ref 30), some (.int p1), some (.int p2)] [.long zv12, .long zv10] S _ _
        refine ip_Ev.steps 1 (pc' := 145) (lv' := [some (.ref 30), some (.int p1), some (.int p2)]) (st' := [.long (zv10 &&& zv12)]) (S1 := S) rfl ?_
        obtain ⟨zv14, hzq13, h⟩ := ip_bind h
        refine ip_Ev.call (i := 127) (a := [.long (zv10 &&& zv12)]) (r := []) rfl (T_M_ones hzq13) ?_
        show ip_Ev 153 148 [some (.ref 30), some (.int p1), some (.int p2)] [.int zv14] S _ _
        cases h
        exact ip_Ev.ret rfl
      rw [if_neg zhs3_2] at h
      by_cases zhs3_3 : p2 = 3
      · rw [if_pos zhs3_3] at h
        refine ip_Ev.ts (off := 90) rfl (by rw [zhs3_3]; rfl) rfl ?_
        refine ip_Ev.steps 2 (pc' := 151) (lv' := [some (.ref 30), some (.int p1), some (.int p2)]) (st' := [.int p1, .ref 30]) (S1 := S) rfl ?_
        obtain ⟨zv16, hzq15, h⟩ := ip_bind h
        refine ip_Ev.call (i := 138) (a := [.ref 30, .int p1]) (r := []) rfl (T_M_waysOf hzq15) ?_
        show ip_Ev 153 154 [some (.ref 30), some (.int p1), some (.int p2)] [.long zv16] S _ _
        refine ip_Ev.steps 2 (pc' := 156) (lv' := [some (.ref 30), some (.int p1), some (.int p2)]) (st' := [.int p1, .ref 30, .long zv16]) (S1 := S) rfl ?_
        obtain ⟨zv18, hzq17, h⟩ := ip_bind h
        refine ip_Ev.call (i := 140) (a := [.ref 30, .int p1]) (r := [.long zv16]) rfl (T_M_freesOf hzq17) ?_
        show ip_Ev 153 159 [some (.ref 30), some (.int p1), some (.int p2)] [.long zv18, .long zv16] S _ _
        refine ip_Ev.call (i := 141) (a := [.long zv16, .long zv18]) (r := []) rfl (T_M_verdictBy rfl) ?_
        show ip_Ev 153 162 [some (.ref 30), some (.int p1), some (.int p2)] [.int (f_M_verdictBy zv16 zv18)] S _ _
        cases h
        exact ip_Ev.ret rfl
      rw [if_neg zhs3_3] at h
      by_cases zhs3_4 : p2 = 4
      · rw [if_pos zhs3_4] at h
        refine ip_Ev.ts (off := 104) rfl (by rw [zhs3_4]; rfl) rfl ?_
        refine ip_Ev.steps 3 (pc' := 166) (lv' := [some (.ref 30), some (.int p1), some (.int p2)]) (st' := [.int p2, .int p1, .ref 30]) (S1 := S) rfl ?_
        obtain ⟨⟨zv20, zS21⟩, hzq19, h⟩ := ip_bind h
        dsimp only at h
        refine ip_Ev.call (i := 147) (a := [.ref 30, .int p1, .int p2]) (r := []) rfl (T_M_leftOf hzq19) ?_
        show ip_Ev 153 169 [some (.ref 30), some (.int p1), some (.int p2)] [.int zv20] zS21 _ _
        cases h
        exact ip_Ev.ret rfl
      rw [if_neg zhs3_4] at h
      by_cases zhs3_5 : p2 = 5
      · rw [if_pos zhs3_5] at h
        refine ip_Ev.ts (off := 104) rfl (by rw [zhs3_5]; rfl) rfl ?_
        refine ip_Ev.steps 3 (pc' := 166) (lv' := [some (.ref 30), some (.int p1), some (.int p2)]) (st' := [.int p2, .int p1, .ref 30]) (S1 := S) rfl ?_
        obtain ⟨⟨zv23, zS24⟩, hzq22, h⟩ := ip_bind h
        dsimp only at h
        refine ip_Ev.call (i := 147) (a := [.ref 30, .int p1, .int p2]) (r := []) rfl (T_M_leftOf hzq22) ?_
        show ip_Ev 153 169 [some (.ref 30), some (.int p1), some (.int p2)] [.int zv23] zS24 _ _
        cases h
        exact ip_Ev.ret rfl
      rw [if_neg zhs3_5] at h
      by_cases zhs3_6 : p2 = 6
      · rw [if_pos zhs3_6] at h
        refine ip_Ev.ts (off := 104) rfl (by rw [zhs3_6]; rfl) rfl ?_
        refine ip_Ev.steps 3 (pc' := 166) (lv' := [some (.ref 30), some (.int p1), some (.int p2)]) (st' := [.int p2, .int p1, .ref 30]) (S1 := S) rfl ?_
        obtain ⟨⟨zv26, zS27⟩, hzq25, h⟩ := ip_bind h
        dsimp only at h
        refine ip_Ev.call (i := 147) (a := [.ref 30, .int p1, .int p2]) (r := []) rfl (T_M_leftOf hzq25) ?_
        show ip_Ev 153 169 [some (.ref 30), some (.int p1), some (.int p2)] [.int zv26] zS27 _ _
        cases h
        exact ip_Ev.ret rfl
      rw [if_neg zhs3_6] at h
      by_cases zhs3_7 : p2 = 7
      · rw [if_pos zhs3_7] at h
        refine ip_Ev.ts (off := 111) rfl (by rw [zhs3_7]; rfl) rfl ?_
        refine ip_Ev.steps 2 (pc' := 172) (lv' := [some (.ref 30), some (.int p1), some (.int p2)]) (st' := [.int p1, .ref 30]) (S1 := S) rfl ?_
        obtain ⟨zv29, hzq28, h⟩ := ip_bind h
        refine ip_Ev.call (i := 148) (a := [.ref 30, .int p1]) (r := []) rfl (T_M_heardMany hzq28) ?_
        show ip_Ev 153 175 [some (.ref 30), some (.int p1), some (.int p2)] [.int zv29] S _ _
        cases h
        exact ip_Ev.ret rfl
      rw [if_neg zhs3_7] at h
      by_cases zhs3_8 : p2 = 8
      · rw [if_pos zhs3_8] at h
        refine ip_Ev.ts (off := 117) rfl (by rw [zhs3_8]; rfl) rfl ?_
        refine ip_Ev.steps 2 (pc' := 178) (lv' := [some (.ref 30), some (.int p1), some (.int p2)]) (st' := [.int p1, .ref 30]) (S1 := S) rfl ?_
        obtain ⟨⟨zv31, zS32⟩, hzq30, h⟩ := ip_bind h
        dsimp only at h
        refine ip_Ev.call (i := 149) (a := [.ref 30, .int p1]) (r := []) rfl (T_M_strikeOf hzq30) ?_
        show ip_Ev 153 181 [some (.ref 30), some (.int p1), some (.int p2)] [.int zv31] zS32 _ _
        cases h
        exact ip_Ev.ret rfl
      rw [if_neg zhs3_8] at h
      by_cases zhs3_9 : p2 = 9
      · rw [if_pos zhs3_9] at h
        refine ip_Ev.ts (off := 123) rfl (by rw [zhs3_9]; rfl) rfl ?_
        refine ip_Ev.steps 2 (pc' := 184) (lv' := [some (.ref 30), some (.int p1), some (.int p2)]) (st' := [.int p1, .ref 30]) (S1 := S) rfl ?_
        obtain ⟨zv34, hzq33, h⟩ := ip_bind h
        refine ip_Ev.call (i := 151) (a := [.ref 30, .int p1]) (r := []) rfl (T_M_kindsOf hzq33) ?_
        show ip_Ev 153 187 [some (.ref 30), some (.int p1), some (.int p2)] [.int zv34] S _ _
        cases h
        exact ip_Ev.ret rfl
      rw [if_neg zhs3_9] at h
      by_cases zhs3_10 : p2 = 10
      · rw [if_pos zhs3_10] at h
        refine ip_Ev.ts (off := 129) rfl (by rw [zhs3_10]; rfl) rfl ?_
        refine ip_Ev.steps 2 (pc' := 190) (lv' := [some (.ref 30), some (.int p1), some (.int p2)]) (st' := [.int p1, .ref 30]) (S1 := S) rfl ?_
        obtain ⟨zv36, hzq35, h⟩ := ip_bind h
        refine ip_Ev.call (i := 152) (a := [.ref 30, .int p1]) (r := []) rfl (T_M_testOf hzq35) ?_
        show ip_Ev 153 193 [some (.ref 30), some (.int p1), some (.int p2)] [.int zv36] S _ _
        cases h
        exact ip_Ev.ret rfl
      rw [if_neg zhs3_10] at h
      have zhs3_0n : ¬ Int32.toInt p2 = 0 := fun q => zhs3_0 (Int32.toInt_inj.mp q)
      have zhs3_1n : ¬ Int32.toInt p2 = 1 := fun q => zhs3_1 (Int32.toInt_inj.mp q)
      have zhs3_2n : ¬ Int32.toInt p2 = 2 := fun q => zhs3_2 (Int32.toInt_inj.mp q)
      have zhs3_3n : ¬ Int32.toInt p2 = 3 := fun q => zhs3_3 (Int32.toInt_inj.mp q)
      have zhs3_4n : ¬ Int32.toInt p2 = 4 := fun q => zhs3_4 (Int32.toInt_inj.mp q)
      have zhs3_5n : ¬ Int32.toInt p2 = 5 := fun q => zhs3_5 (Int32.toInt_inj.mp q)
      have zhs3_6n : ¬ Int32.toInt p2 = 6 := fun q => zhs3_6 (Int32.toInt_inj.mp q)
      have zhs3_7n : ¬ Int32.toInt p2 = 7 := fun q => zhs3_7 (Int32.toInt_inj.mp q)
      have zhs3_8n : ¬ Int32.toInt p2 = 8 := fun q => zhs3_8 (Int32.toInt_inj.mp q)
      have zhs3_9n : ¬ Int32.toInt p2 = 9 := fun q => zhs3_9 (Int32.toInt_inj.mp q)
      have zhs3_10n : ¬ Int32.toInt p2 = 10 := fun q => zhs3_10 (Int32.toInt_inj.mp q)
      refine ip_Ev.ts (off := 135) rfl (ip_tsO_out (by omega)) rfl ?_
      refine ip_Ev.steps 1 (pc' := 196) (lv' := [some (.ref 30), some (.int p1), some (.int p2)]) (st' := [.int (-102)]) (S1 := S) rfl ?_
      cases h
      exact ip_Ev.ret rfl
    · rw [if_neg zhc2] at h
      refine ip_Ev.steps 9 (pc' := 56) (lv' := [some (.ref 30), some (.int p1), some (.int p2)]) (st' := [.int (((6 * p1) + p2) - 30), .ref 44]) (S1 := S) rfl ?_
      obtain ⟨zv37, hzv37, h⟩ := ip_bind h
      refine ip_Ev.iald rfl hzv37 ?_
      cases h
      exact ip_Ev.ret rfl
  · rw [if_neg zhc1] at h
    refine ip_Ev.steps 9 (pc' := 27) (lv' := [some (.ref 30), some (.int p1), some (.int p2)]) (st' := [.int (((6 * p1) + p2) - 20), .ref 43]) (S1 := S) rfl ?_
    obtain ⟨zv38, hzv38, h⟩ := ip_bind h
    refine ip_Ev.iald rfl hzv38 ?_
    cases h
    exact ip_Ev.ret rfl
