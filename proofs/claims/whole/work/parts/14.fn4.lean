-- M_judge
def f_M_judge (p1 : Int32) (p2 : Int32) (S : ip_St) : Option (Int32 × ip_St) := (if (f_M_isJudge p1 S) = false then some ((-101), S) else ((f_M_tellJudge p1 p2 S).bind fun zq2 => some (zq2.1, zq2.2)))
set_option maxRecDepth 10000 in
theorem T_M_judge {p1 : Int32} {p2 : Int32} {S : ip_St} {r : Int32} {S9 : ip_St} (h : f_M_judge p1 p2 S = some (r, S9)) : ip_Me 154 [.ref 30, .int p1, .int p2] S (some (.int r)) S9 := by
  unfold f_M_judge at h
  refine ⟨[some (.ref 30), some (.int p1), some (.int p2)], rfl, ?_⟩
  refine ip_Ev.steps 2 (pc' := 2) (lv' := [some (.ref 30), some (.int p1), some (.int p2)]) (st' := [.int p1, .ref 30]) (S1 := S) rfl ?_
  refine ip_Ev.call (i := 135) (a := [.ref 30, .int p1]) (r := []) rfl (T_M_isJudge rfl) ?_
  show ip_Ev 154 5 [some (.ref 30), some (.int p1), some (.int p2)] [.int (ip_b2i (f_M_isJudge p1 S))] S _ _
  refine ip_Ev.iff1 rfl rfl ip_bEq (fun zhc1 => ?_) (fun zhc1 => ?_)
  · rw [if_pos zhc1] at h
    refine ip_Ev.steps 1 (pc' := 19) (lv' := [some (.ref 30), some (.int p1), some (.int p2)]) (st' := [.int (-101)]) (S1 := S) rfl ?_
    cases h
    exact ip_Ev.ret rfl
  · rw [if_neg zhc1] at h
    refine ip_Ev.steps 3 (pc' := 11) (lv' := [some (.ref 30), some (.int p1), some (.int p2)]) (st' := [.int p2, .int p1, .ref 30]) (S1 := S) rfl ?_
    obtain ⟨⟨zv3, zS4⟩, hzq2, h⟩ := ip_bind h
    dsimp only at h
    refine ip_Ev.call (i := 153) (a := [.ref 30, .int p1, .int p2]) (r := []) rfl (T_M_tellJudge hzq2) ?_
    show ip_Ev 154 14 [some (.ref 30), some (.int p1), some (.int p2)] [.int zv3] zS4 _ _
    refine ip_Ev.steps 1 (pc' := 19) (lv' := [some (.ref 30), some (.int p1), some (.int p2)]) (st' := [.int zv3]) (S1 := zS4) rfl ?_
    cases h
    exact ip_Ev.ret rfl
-- A_isOfKind
def f_A_isOfKind (p0 : Int32) (p1 : Int32) : Bool := (if p1 = 0 then true else (if p1 = p0 then true else (if p1 = 3 then (if p0 = 4 then true else false) else false)))
set_option maxRecDepth 10000 in
theorem T_A_isOfKind {p0 : Int32} {p1 : Int32} {S : ip_St} {r : Bool} (h : f_A_isOfKind p0 p1 = r) : ip_Me 68 [.int p0, .int p1] S (some (.int (ip_b2i r))) S := by
  unfold f_A_isOfKind at h
  refine ⟨[some (.int p0), some (.int p1)], rfl, ?_⟩
  refine ip_Ev.steps 1 (pc' := 1) (lv' := [some (.int p0), some (.int p1)]) (st' := [.int p1]) (S1 := S) rfl ?_
  refine ip_Ev.iff1 rfl rfl ip_cEq (fun zhc1 => ?_) (fun zhc1 => ?_)
  · rw [if_pos zhc1] at h
    refine ip_Ev.steps 2 (pc' := 24) (lv' := [some (.int p0), some (.int p1)]) (st' := [.int 1]) (S1 := S) rfl ?_
    cases h
    exact ip_Ev.retB (b := true) rfl rfl
  · rw [if_neg zhc1] at h
    refine ip_Ev.steps 2 (pc' := 6) (lv' := [some (.int p0), some (.int p1)]) (st' := [.int p0, .int p1]) (S1 := S) rfl ?_
    refine ip_Ev.iff2 rfl rfl ip_cEq (fun zhc2 => ?_) (fun zhc2 => ?_)
    · rw [if_pos zhc2] at h
      refine ip_Ev.steps 2 (pc' := 24) (lv' := [some (.int p0), some (.int p1)]) (st' := [.int 1]) (S1 := S) rfl ?_
      cases h
      exact ip_Ev.retB (b := true) rfl rfl
    · rw [if_neg zhc2] at h
      refine ip_Ev.steps 2 (pc' := 11) (lv' := [some (.int p0), some (.int p1)]) (st' := [.int 3, .int p1]) (S1 := S) rfl ?_
      refine ip_Ev.iff2 rfl rfl ip_cNe (fun zhc3 => ?_) (fun zhc3 => ?_)
      · rw [if_neg zhc3] at h
        refine ip_Ev.steps 1 (pc' := 24) (lv' := [some (.int p0), some (.int p1)]) (st' := [.int 0]) (S1 := S) rfl ?_
        cases h
        exact ip_Ev.retB (b := false) rfl rfl
      · rw [if_pos (Decidable.of_not_not zhc3)] at h
        refine ip_Ev.steps 2 (pc' := 16) (lv' := [some (.int p0), some (.int p1)]) (st' := [.int 4, .int p0]) (S1 := S) rfl ?_
        refine ip_Ev.iff2 rfl rfl ip_cNe (fun zhc4 => ?_) (fun zhc4 => ?_)
        · rw [if_neg zhc4] at h
          refine ip_Ev.steps 1 (pc' := 24) (lv' := [some (.int p0), some (.int p1)]) (st' := [.int 0]) (S1 := S) rfl ?_
          cases h
          exact ip_Ev.retB (b := false) rfl rfl
        · rw [if_pos (Decidable.of_not_not zhc4)] at h
          refine ip_Ev.steps 2 (pc' := 24) (lv' := [some (.int p0), some (.int p1)]) (st' := [.int 1]) (S1 := S) rfl ?_
          cases h
          exact ip_Ev.retB (b := true) rfl rfl
-- A_as
def f_A_as (p1 : Int32) (p2 : Int32) (S : ip_St) : Option (Int32) := (if (f_A_isJudge p1 S) = true then (if p2 < 0 then some (-102) else (if p2 < 5 then ((ip_aA 13 p1).bind fun zv4 => (if (f_A_isOfKind (S.1 zv4 0) p2) = false then some (-1) else some p1)) else some (-102))) else some (-101))
set_option maxRecDepth 10000 in
theorem T_A_as {p1 : Int32} {p2 : Int32} {S : ip_St} {r : Int32} (h : f_A_as p1 p2 S = some r) : ip_Me 69 [.ref 0, .int p1, .int p2] S (some (.int r)) S := by
  unfold f_A_as at h
  refine ⟨[some (.ref 0), some (.int p1), some (.int p2)], rfl, ?_⟩
  refine ip_Ev.steps 2 (pc' := 2) (lv' := [some (.ref 0), some (.int p1), some (.int p2)]) (st' := [.int p1, .ref 0]) (S1 := S) rfl ?_
  refine ip_Ev.call (i := 40) (a := [.ref 0, .int p1]) (r := []) rfl (T_A_isJudge rfl) ?_
  show ip_Ev 69 5 [some (.ref 0), some (.int p1), some (.int p2)] [.int (ip_b2i (f_A_isJudge p1 S))] S _ _
  refine ip_Ev.iff1 rfl rfl ip_bNe (fun zhc1 => ?_) (fun zhc1 => ?_)
  · rw [if_pos zhc1] at h
    refine ip_Ev.steps 1 (pc' := 12) (lv' := [some (.ref 0), some (.int p1), some (.int p2)]) (st' := [.int p2]) (S1 := S) rfl ?_
    refine ip_Ev.iff1 rfl rfl ip_cLt (fun zhc2 => ?_) (fun zhc2 => ?_)
    · rw [if_pos zhc2] at h
      refine ip_Ev.steps 1 (pc' := 22) (lv' := [some (.ref 0), some (.int p1), some (.int p2)]) (st' := [.int (-102)]) (S1 := S) rfl ?_
      cases h
      exact ip_Ev.ret rfl
    · rw [if_neg zhc2] at h
      refine ip_Ev.steps 2 (pc' := 17) (lv' := [some (.ref 0), some (.int p1), some (.int p2)]) (st' := [.int 5, .int p2]) (S1 := S) rfl ?_
      refine ip_Ev.iff2 rfl rfl ip_cLt (fun zhc3 => ?_) (fun zhc3 => ?_)
      · rw [if_pos zhc3] at h
        refine ip_Ev.steps 4 (pc' := 31) (lv' := [some (.ref 0), some (.int p1), some (.int p2)]) (st' := [.int p1, .ref 13]) (S1 := S) rfl ?_
        obtain ⟨zv4, hzv4, h⟩ := ip_bind h
        refine ip_Ev.aald rfl hzv4 ?_
        have hozv4 := ip_aA_ob hzv4
        refine ip_Ev.gfI rfl rfl hozv4 (by decide) ?_
        refine ip_Ev.steps 1 (pc' := 36) (lv' := [some (.ref 0), some (.int p1), some (.int p2)]) (st' := [.int p2, .int (S.1 zv4 0)]) (S1 := S) rfl ?_
        refine ip_Ev.call (i := 68) (a := [.int (S.1 zv4 0), .int p2]) (r := []) rfl (T_A_isOfKind rfl) ?_
        show ip_Ev 69 39 [some (.ref 0), some (.int p1), some (.int p2)] [.int (ip_b2i (f_A_isOfKind (S.1 zv4 0) p2))] S _ _
        refine ip_Ev.iff1 rfl rfl ip_bEq (fun zhc5 => ?_) (fun zhc5 => ?_)
        · rw [if_pos zhc5] at h
          refine ip_Ev.steps 1 (pc' := 47) (lv' := [some (.ref 0), some (.int p1), some (.int p2)]) (st' := [.int (-1)]) (S1 := S) rfl ?_
          cases h
          exact ip_Ev.ret rfl
        · rw [if_neg zhc5] at h
          refine ip_Ev.steps 2 (pc' := 47) (lv' := [some (.ref 0), some (.int p1), some (.int p2)]) (st' := [.int p1]) (S1 := S) rfl ?_
          cases h
          exact ip_Ev.ret rfl
      · rw [if_neg zhc3] at h
        refine ip_Ev.steps 1 (pc' := 22) (lv' := [some (.ref 0), some (.int p1), some (.int p2)]) (st' := [.int (-102)]) (S1 := S) rfl ?_
        cases h
        exact ip_Ev.ret rfl
  · rw [if_neg zhc1] at h
    refine ip_Ev.steps 1 (pc' := 10) (lv' := [some (.ref 0), some (.int p1), some (.int p2)]) (st' := [.int (-101)]) (S1 := S) rfl ?_
    cases h
    exact ip_Ev.ret rfl
-- M_as
def f_M_as_59 (x1 : Int32) (s0 : Int32) (S : ip_St) : Option (Int32) := (if s0 = 0 then some (-1) else some x1)
set_option maxRecDepth 10000 in
theorem E_M_as_59 {x1 : Int32} {s0 : Int32} {S : ip_St} {r : Int32} {d0 : Option Value} {d2 : Option Value} {d3 : Option Value} {d4 : Option Value} (h : f_M_as_59 x1 s0 S = some r) : ip_Ev 155 59 [d0, some (.int x1), d2, d3, d4] [.int s0] S (some (.int r)) S := by
  unfold f_M_as_59 at h
  refine ip_Ev.steps 2 (pc' := 63) (lv' := [d0, some (.int x1), d2, (ip_kd d3), some (.int s0)]) (st' := [.int s0]) (S1 := S) rfl ?_
  refine ip_Ev.iff1 rfl rfl ip_cEq (fun zhc1 => ?_) (fun zhc1 => ?_)
  · rw [if_pos zhc1] at h
    refine ip_Ev.steps 1 (pc' := 71) (lv' := [d0, some (.int x1), d2, (ip_kd d3), some (.int s0)]) (st' := [.int (-1)]) (S1 := S) rfl ?_
    cases h
    exact ip_Ev.ret rfl
  · rw [if_neg zhc1] at h
    refine ip_Ev.steps 2 (pc' := 71) (lv' := [d0, some (.int x1), d2, (ip_kd d3), some (.int s0)]) (st' := [.int x1]) (S1 := S) rfl ?_
    cases h
    exact ip_Ev.ret rfl
def f_M_as_58 (x1 : Int32) (S : ip_St) : Option (Int32) := (f_M_as_59 x1 0 S)
set_option maxRecDepth 10000 in
theorem E_M_as_58 {x1 : Int32} {S : ip_St} {r : Int32} {d0 : Option Value} {d2 : Option Value} {d3 : Option Value} {d4 : Option Value} (h : f_M_as_58 x1 S = some r) : ip_Ev 155 58 [d0, some (.int x1), d2, d3, d4] [] S (some (.int r)) S := by
  unfold f_M_as_58 at h
  refine ip_Ev.steps 1 (pc' := 59) (lv' := [d0, some (.int x1), d2, d3, d4]) (st' := [.int 0]) (S1 := S) rfl ?_
  exact E_M_as_59 h
def f_M_as_54 (x1 : Int32) (S : ip_St) : Option (Int32) := (f_M_as_59 x1 1 S)
set_option maxRecDepth 10000 in
theorem E_M_as_54 {x1 : Int32} {S : ip_St} {r : Int32} {d0 : Option Value} {d2 : Option Value} {d3 : Option Value} {d4 : Option Value} (h : f_M_as_54 x1 S = some r) : ip_Ev 155 54 [d0, some (.int x1), d2, d3, d4] [] S (some (.int r)) S := by
  unfold f_M_as_54 at h
  refine ip_Ev.steps 2 (pc' := 59) (lv' := [d0, some (.int x1), d2, d3, d4]) (st' := [.int 1]) (S1 := S) rfl ?_
  exact E_M_as_59 h
def f_M_as (p1 : Int32) (p2 : Int32) (S : ip_St) : Option (Int32) := (if (f_M_isJudge p1 S) = true then (if (f_M_in (Int32.toInt64 p2) 0 4) = true then ((ip_aI S 42 (2 * p1)).bind fun zv3 => (if p2 = 0 then (f_M_as_54 p1 S) else (if p2 = zv3 then (f_M_as_54 p1 S) else (if p2 = 3 then (if zv3 = 4 then (f_M_as_54 p1 S) else (f_M_as_58 p1 S)) else (f_M_as_58 p1 S))))) else some (-102)) else some (-101))
set_option maxRecDepth 10000 in
theorem T_M_as {p1 : Int32} {p2 : Int32} {S : ip_St} {r : Int32} (h : f_M_as p1 p2 S = some r) : ip_Me 155 [.ref 30, .int p1, .int p2] S (some (.int r)) S := by
  unfold f_M_as at h
  refine ⟨[some (.ref 30), some (.int p1), some (.int p2), none, none], rfl, ?_⟩
  refine ip_Ev.steps 2 (pc' := 2) (lv' := [some (.ref 30), some (.int p1), some (.int p2), none, none]) (st' := [.int p1, .ref 30]) (S1 := S) rfl ?_
  refine ip_Ev.call (i := 135) (a := [.ref 30, .int p1]) (r := []) rfl (T_M_isJudge rfl) ?_
  show ip_Ev 155 5 [some (.ref 30), some (.int p1), some (.int p2), none, none] [.int (ip_b2i (f_M_isJudge p1 S))] S _ _
  refine ip_Ev.iff1 rfl rfl ip_bNe (fun zhc1 => ?_) (fun zhc1 => ?_)
  · rw [if_pos zhc1] at h
    refine ip_Ev.steps 4 (pc' := 17) (lv' := [some (.ref 30), some (.int p1), some (.int p2), none, none]) (st' := [.long 4, .long 0, .long (Int32.toInt64 p2)]) (S1 := S) rfl ?_
    refine ip_Ev.call (i := 101) (a := [.long (Int32.toInt64 p2), .long 0, .long 4]) (r := []) rfl (T_M_in rfl) ?_
    show ip_Ev 155 20 [some (.ref 30), some (.int p1), some (.int p2), none, none] [.int (ip_b2i (f_M_in (Int32.toInt64 p2) 0 4))] S _ _
    refine ip_Ev.iff1 rfl rfl ip_bNe (fun zhc2 => ?_) (fun zhc2 => ?_)
    · rw [if_pos zhc2] at h
      refine ip_Ev.steps 5 (pc' := 33) (lv' := [some (.ref 30), some (.int p1), some (.int p2), none, none]) (st' := [.int (2 * p1), .ref 42]) (S1 := S) rfl ?_
      obtain ⟨zv3, hzv3, h⟩ := ip_bind h
      refine ip_Ev.iald rfl hzv3 ?_
      refine ip_Ev.steps 2 (pc' := 36) (lv' := [some (.ref 30), some (.int p1), some (.int p2), some (.int zv3), none]) (st' := [.int p2]) (S1 := S) rfl ?_
      refine ip_Ev.iff1 rfl rfl ip_cEq (fun zhc4 => ?_) (fun zhc4 => ?_)
      · rw [if_pos zhc4] at h
        exact E_M_as_54 h
      · rw [if_neg zhc4] at h
        refine ip_Ev.steps 2 (pc' := 41) (lv' := [some (.ref 30), some (.int p1), some (.int p2), some (.int zv3), none]) (st' := [.int zv3, .int p2]) (S1 := S) rfl ?_
        refine ip_Ev.iff2 rfl rfl ip_cEq (fun zhc5 => ?_) (fun zhc5 => ?_)
        · rw [if_pos zhc5] at h
          exact E_M_as_54 h
        · rw [if_neg zhc5] at h
          refine ip_Ev.steps 2 (pc' := 46) (lv' := [some (.ref 30), some (.int p1), some (.int p2), some (.int zv3), none]) (st' := [.int 3, .int p2]) (S1 := S) rfl ?_
          refine ip_Ev.iff2 rfl rfl ip_cNe (fun zhc6 => ?_) (fun zhc6 => ?_)
          · rw [if_neg zhc6] at h
            exact E_M_as_58 h
          · rw [if_pos (Decidable.of_not_not zhc6)] at h
            refine ip_Ev.steps 2 (pc' := 51) (lv' := [some (.ref 30), some (.int p1), some (.int p2), some (.int zv3), none]) (st' := [.int 4, .int zv3]) (S1 := S) rfl ?_
            refine ip_Ev.iff2 rfl rfl ip_cNe (fun zhc7 => ?_) (fun zhc7 => ?_)
            · rw [if_neg zhc7] at h
              exact E_M_as_58 h
            · rw [if_pos (Decidable.of_not_not zhc7)] at h
              exact E_M_as_54 h
    · rw [if_neg zhc2] at h
      refine ip_Ev.steps 1 (pc' := 25) (lv' := [some (.ref 30), some (.int p1), some (.int p2), none, none]) (st' := [.int (-102)]) (S1 := S) rfl ?_
      cases h
      exact ip_Ev.ret rfl
  · rw [if_neg zhc1] at h
    refine ip_Ev.steps 1 (pc' := 10) (lv' := [some (.ref 30), some (.int p1), some (.int p2), none, none]) (st' := [.int (-101)]) (S1 := S) rfl ?_
    cases h
    exact ip_Ev.ret rfl
-- A_ways
def f_A_ways (p1 : Int32) (S : ip_St) : Option (Int64) := (if (f_A_isJudge p1 S) = false then some (-101) else ((ip_aA 13 p1).bind fun zv2 => ((f_J_worlds zv2 S).bind fun zv4 => some zv4)))
set_option maxRecDepth 10000 in
theorem T_A_ways {p1 : Int32} {S : ip_St} {r : Int64} (h : f_A_ways p1 S = some r) : ip_Me 70 [.ref 0, .int p1] S (some (.long r)) S := by
  unfold f_A_ways at h
  refine ⟨[some (.ref 0), some (.int p1)], rfl, ?_⟩
  refine ip_Ev.steps 2 (pc' := 2) (lv' := [some (.ref 0), some (.int p1)]) (st' := [.int p1, .ref 0]) (S1 := S) rfl ?_
  refine ip_Ev.call (i := 40) (a := [.ref 0, .int p1]) (r := []) rfl (T_A_isJudge rfl) ?_
  show ip_Ev 70 5 [some (.ref 0), some (.int p1)] [.int (ip_b2i (f_A_isJudge p1 S))] S _ _
  refine ip_Ev.iff1 rfl rfl ip_bEq (fun zhc1 => ?_) (fun zhc1 => ?_)
  · rw [if_pos zhc1] at h
    refine ip_Ev.steps 1 (pc' := 26) (lv' := [some (.ref 0), some (.int p1)]) (st' := [.long (-101)]) (S1 := S) rfl ?_
    cases h
    exact ip_Ev.ret rfl
  · rw [if_neg zhc1] at h
    refine ip_Ev.steps 4 (pc' := 16) (lv' := [some (.ref 0), some (.int p1)]) (st' := [.int p1, .ref 13]) (S1 := S) rfl ?_
    obtain ⟨zv2, hzv2, h⟩ := ip_bind h
    refine ip_Ev.aald rfl hzv2 ?_
    have hozv2 := ip_aA_ob hzv2
    obtain ⟨zv4, hzq3, h⟩ := ip_bind h
    refine ip_Ev.callJ (i := 45) (b := zv2) (a := []) (r := []) rfl rfl rfl rfl hozv2 rfl rfl (T_J_worlds hozv2 hzq3) ?_
    show ip_Ev 70 20 [some (.ref 0), some (.int p1)] [.long zv4] S _ _
    refine ip_Ev.steps 1 (pc' := 26) (lv' := [some (.ref 0), some (.int p1)]) (st' := [.long zv4]) (S1 := S) rfl ?_
    cases h
    exact ip_Ev.ret rfl
-- M_ways
def f_M_ways (p1 : Int32) (S : ip_St) : Option (Int64) := (if (f_M_isJudge p1 S) = false then some (-101) else ((f_M_waysOf p1 S).bind fun zv3 => some zv3))
set_option maxRecDepth 10000 in
theorem T_M_ways {p1 : Int32} {S : ip_St} {r : Int64} (h : f_M_ways p1 S = some r) : ip_Me 156 [.ref 30, .int p1] S (some (.long r)) S := by
  unfold f_M_ways at h
  refine ⟨[some (.ref 30), some (.int p1)], rfl, ?_⟩
  refine ip_Ev.steps 2 (pc' := 2) (lv' := [some (.ref 30), some (.int p1)]) (st' := [.int p1, .ref 30]) (S1 := S) rfl ?_
  refine ip_Ev.call (i := 135) (a := [.ref 30, .int p1]) (r := []) rfl (T_M_isJudge rfl) ?_
  show ip_Ev 156 5 [some (.ref 30), some (.int p1)] [.int (ip_b2i (f_M_isJudge p1 S))] S _ _
  refine ip_Ev.iff1 rfl rfl ip_bEq (fun zhc1 => ?_) (fun zhc1 => ?_)
  · rw [if_pos zhc1] at h
    refine ip_Ev.steps 1 (pc' := 19) (lv' := [some (.ref 30), some (.int p1)]) (st' := [.long (-101)]) (S1 := S) rfl ?_
    cases h
    exact ip_Ev.ret rfl
  · rw [if_neg zhc1] at h
    refine ip_Ev.steps 2 (pc' := 10) (lv' := [some (.ref 30), some (.int p1)]) (st' := [.int p1, .ref 30]) (S1 := S) rfl ?_
    obtain ⟨zv3, hzq2, h⟩ := ip_bind h
    refine ip_Ev.call (i := 138) (a := [.ref 30, .int p1]) (r := []) rfl (T_M_waysOf hzq2) ?_
    show ip_Ev 156 13 [some (.ref 30), some (.int p1)] [.long zv3] S _ _
    refine ip_Ev.steps 1 (pc' := 19) (lv' := [some (.ref 30), some (.int p1)]) (st' := [.long zv3]) (S1 := S) rfl ?_
    cases h
    exact ip_Ev.ret rfl
-- A_says
def f_A_says (p1 : Int32) (p2 : Int32) (S : ip_St) : Option (Int32) := (if (f_A_isJudge p1 S) = true then (if (f_A_isWorld p2) = true then ((ip_aA 13 p1).bind fun zv3 => ((ip_cI 56 (S.1 zv3 0)).bind fun zv4 => ((ip_cI 57 (S.1 zv3 0)).bind fun zv5 => some ((p2 &&& (zv4 ^^^ (-1))) ||| zv5)))) else some (-102)) else some (-101))
set_option maxRecDepth 10000 in
theorem T_A_says {p1 : Int32} {p2 : Int32} {S : ip_St} {r : Int32} (h : f_A_says p1 p2 S = some r) : ip_Me 71 [.ref 0, .int p1, .int p2] S (some (.int r)) S := by
  unfold f_A_says at h
  refine ⟨[some (.ref 0), some (.int p1), some (.int p2), none], rfl, ?_⟩
  refine ip_Ev.steps 2 (pc' := 2) (lv' := [some (.ref 0), some (.int p1), some (.int p2), none]) (st' := [.int p1, .ref 0]) (S1 := S) rfl ?_
  refine ip_Ev.call (i := 40) (a := [.ref 0, .int p1]) (r := []) rfl (T_A_isJudge rfl) ?_
  show ip_Ev 71 5 [some (.ref 0), some (.int p1), some (.int p2), none] [.int (ip_b2i (f_A_isJudge p1 S))] S _ _
  refine ip_Ev.iff1 rfl rfl ip_bNe (fun zhc1 => ?_) (fun zhc1 => ?_)
  · rw [if_pos zhc1] at h
    refine ip_Ev.steps 1 (pc' := 12) (lv' := [some (.ref 0), some (.int p1), some (.int p2), none]) (st' := [.int p2]) (S1 := S) rfl ?_
    refine ip_Ev.call (i := 37) (a := [.int p2]) (r := []) rfl (T_A_isWorld rfl) ?_
    show ip_Ev 71 15 [some (.ref 0), some (.int p1), some (.int p2), none] [.int (ip_b2i (f_A_isWorld p2))] S _ _
    refine ip_Ev.iff1 rfl rfl ip_bNe (fun zhc2 => ?_) (fun zhc2 => ?_)
    · rw [if_pos zhc2] at h
      refine ip_Ev.steps 4 (pc' := 29) (lv' := [some (.ref 0), some (.int p1), some (.int p2), none]) (st' := [.int p1, .ref 13]) (S1 := S) rfl ?_
      obtain ⟨zv3, hzv3, h⟩ := ip_bind h
      refine ip_Ev.aald rfl hzv3 ?_
      have hozv3 := ip_aA_ob hzv3
      refine ip_Ev.gfI rfl rfl hozv3 (by decide) ?_
      refine ip_Ev.steps 4 (pc' := 39) (lv' := [some (.ref 0), some (.int p1), some (.int p2), some (.int (S.1 zv3 0))]) (st' := [.int (S.1 zv3 0), .ref 56, .int p2]) (S1 := S) rfl ?_
      obtain ⟨zv4, hzv4, h⟩ := ip_bind h
      refine ip_Ev.iald rfl hzv4 ?_
      refine ip_Ev.steps 5 (pc' := 47) (lv' := [some (.ref 0), some (.int p1), some (.int p2), some (.int (S.1 zv3 0))]) (st' := [.int (S.1 zv3 0), .ref 57, .int (p2 &&& (zv4 ^^^ (-1)))]) (S1 := S) rfl ?_
      obtain ⟨zv5, hzv5, h⟩ := ip_bind h
      refine ip_Ev.iald rfl hzv5 ?_
      refine ip_Ev.steps 1 (pc' := 49) (lv' := [some (.ref 0), some (.int p1), some (.int p2), some (.int (S.1 zv3 0))]) (st' := [.int ((p2 &&& (zv4 ^^^ (-1))) ||| zv5)]) (S1 := S) rfl ?_
      cases h
      exact ip_Ev.ret rfl
    · rw [if_neg zhc2] at h
      refine ip_Ev.steps 1 (pc' := 20) (lv' := [some (.ref 0), some (.int p1), some (.int p2), none]) (st' := [.int (-102)]) (S1 := S) rfl ?_
      cases h
      exact ip_Ev.ret rfl
  · rw [if_neg zhc1] at h
    refine ip_Ev.steps 1 (pc' := 10) (lv' := [some (.ref 0), some (.int p1), some (.int p2), none]) (st' := [.int (-101)]) (S1 := S) rfl ?_
    cases h
    exact ip_Ev.ret rfl
-- M_says
def f_M_says (p1 : Int32) (p2 : Int32) (S : ip_St) : Option (Int32) := (if (f_M_isJudge p1 S) = true then (if (f_M_in (Int32.toInt64 p2) 0 63) = false then some (-102) else ((ip_aI S 42 (2 * p1)).bind fun zv3 => some (f_M_saysBy zv3 p2))) else some (-101))
set_option maxRecDepth 10000 in
theorem T_M_says {p1 : Int32} {p2 : Int32} {S : ip_St} {r : Int32} (h : f_M_says p1 p2 S = some r) : ip_Me 157 [.ref 30, .int p1, .int p2] S (some (.int r)) S := by
  unfold f_M_says at h
  refine ⟨[some (.ref 30), some (.int p1), some (.int p2)], rfl, ?_⟩
  refine ip_Ev.steps 2 (pc' := 2) (lv' := [some (.ref 30), some (.int p1), some (.int p2)]) (st' := [.int p1, .ref 30]) (S1 := S) rfl ?_
  refine ip_Ev.call (i := 135) (a := [.ref 30, .int p1]) (r := []) rfl (T_M_isJudge rfl) ?_
  show ip_Ev 157 5 [some (.ref 30), some (.int p1), some (.int p2)] [.int (ip_b2i (f_M_isJudge p1 S))] S _ _
  refine ip_Ev.iff1 rfl rfl ip_bNe (fun zhc1 => ?_) (fun zhc1 => ?_)
  · rw [if_pos zhc1] at h
    refine ip_Ev.steps 4 (pc' := 17) (lv' := [some (.ref 30), some (.int p1), some (.int p2)]) (st' := [.long 63, .long 0, .long (Int32.toInt64 p2)]) (S1 := S) rfl ?_
    refine ip_Ev.call (i := 101) (a := [.long (Int32.toInt64 p2), .long 0, .long 63]) (r := []) rfl (T_M_in rfl) ?_
    show ip_Ev 157 20 [some (.ref 30), some (.int p1), some (.int p2)] [.int (ip_b2i (f_M_in (Int32.toInt64 p2) 0 63))] S _ _
    refine ip_Ev.iff1 rfl rfl ip_bEq (fun zhc2 => ?_) (fun zhc2 => ?_)
    · rw [if_pos zhc2] at h
      refine ip_Ev.steps 1 (pc' := 40) (lv' := [some (.ref 30), some (.int p1), some (.int p2)]) (st' := [.int (-102)]) (S1 := S) rfl ?_
      cases h
      exact ip_Ev.ret rfl
    · rw [if_neg zhc2] at h
      refine ip_Ev.steps 5 (pc' := 30) (lv' := [some (.ref 30), some (.int p1), some (.int p2)]) (st' := [.int (2 * p1), .ref 42]) (S1 := S) rfl ?_
      obtain ⟨zv3, hzv3, h⟩ := ip_bind h
      refine ip_Ev.iald rfl hzv3 ?_
      refine ip_Ev.steps 1 (pc' := 32) (lv' := [some (.ref 30), some (.int p1), some (.int p2)]) (st' := [.int p2, .int zv3]) (S1 := S) rfl ?_
      refine ip_Ev.call (i := 99) (a := [.int zv3, .int p2]) (r := []) rfl (T_M_saysBy rfl) ?_
      show ip_Ev 157 35 [some (.ref 30), some (.int p1), some (.int p2)] [.int (f_M_saysBy zv3 p2)] S _ _
      refine ip_Ev.steps 1 (pc' := 40) (lv' := [some (.ref 30), some (.int p1), some (.int p2)]) (st' := [.int (f_M_saysBy zv3 p2)]) (S1 := S) rfl ?_
      cases h
      exact ip_Ev.ret rfl
  · rw [if_neg zhc1] at h
    refine ip_Ev.steps 1 (pc' := 10) (lv' := [some (.ref 30), some (.int p1), some (.int p2)]) (st' := [.int (-101)]) (S1 := S) rfl ?_
    cases h
    exact ip_Ev.ret rfl
-- A_commonPart
def f_A_commonPart_2 : Nat → Int32 → Int32 → Int32 → Option (Int32)
  | 0, _, _, _ => none
  | n + 1, x0, x1, x2 => (if x2 ≤ 1 then some 1 else (if x2 = 0 then none else (if (ip_irem x0 x2) = 0 then (if x2 = 0 then none else (if (ip_irem x1 x2) = 0 then some x2 else (f_A_commonPart_2 n x0 x1 (x2 + (-1))))) else (f_A_commonPart_2 n x0 x1 (x2 + (-1))))))
set_option maxRecDepth 10000 in
theorem E_A_commonPart_2 : ∀ (n : Nat) {x0 : Int32} {x1 : Int32} {x2 : Int32} {S : ip_St} {r : Int32}, f_A_commonPart_2 n x0 x1 x2 = some r → ip_Ev 72 2 [some (.int x0), some (.int x1), some (.int x2)] [] S (some (.int r)) S := by
  intro n
  induction n with
  | zero =>
    intro x0 x1 x2 S r h
    cases h
  | succ n ih =>
    intro x0 x1 x2 S r h
    rw [f_A_commonPart_2] at h
    refine ip_Ev.steps 2 (pc' := 4) (lv' := [some (.int x0), some (.int x1), some (.int x2)]) (st' := [.int 1, .int x2]) (S1 := S) rfl ?_
    refine ip_Ev.iff2 rfl rfl ip_cLe (fun zhc1 => ?_) (fun zhc1 => ?_)
    · rw [if_pos zhc1] at h
      refine ip_Ev.steps 1 (pc' := 28) (lv' := [some (.int x0), some (.int x1), some (.int x2)]) (st' := [.int 1]) (S1 := S) rfl ?_
      cases h
      exact ip_Ev.ret rfl
    · rw [if_neg zhc1] at h
      refine ip_Ev.steps 2 (pc' := 9) (lv' := [some (.int x0), some (.int x1), some (.int x2)]) (st' := [.int x2, .int x0]) (S1 := S) rfl ?_
      have zhz2 : ¬ x2 = 0 := by
        intro hq
        rw [if_pos hq] at h
        cases h
      rw [if_neg zhz2] at h
      refine ip_Ev.irem rfl zhz2 ?_
      show ip_Ev 72 10 [some (.int x0), some (.int x1), some (.int x2)] [.int (ip_irem x0 x2)] S _ _
      refine ip_Ev.iff1 rfl rfl ip_cNe (fun zhc3 => ?_) (fun zhc3 => ?_)
      · rw [if_neg zhc3] at h
        refine ip_Ev.steps 2 (pc' := 2) (lv' := [some (.int x0), some (.int x1), some (.int (x2 + (-1)))]) (st' := []) (S1 := S) rfl ?_
        exact ih h
      · rw [if_pos (Decidable.of_not_not zhc3)] at h
        refine ip_Ev.steps 2 (pc' := 15) (lv' := [some (.int x0), some (.int x1), some (.int x2)]) (st' := [.int x2, .int x1]) (S1 := S) rfl ?_
        have zhz4 : ¬ x2 = 0 := by
          intro hq
          rw [if_pos hq] at h
          cases h
        rw [if_neg zhz4] at h
        refine ip_Ev.irem rfl zhz4 ?_
        show ip_Ev 72 16 [some (.int x0), some (.int x1), some (.int x2)] [.int (ip_irem x1 x2)] S _ _
        refine ip_Ev.iff1 rfl rfl ip_cNe (fun zhc5 => ?_) (fun zhc5 => ?_)
        · rw [if_neg zhc5] at h
          refine ip_Ev.steps 2 (pc' := 2) (lv' := [some (.int x0), some (.int x1), some (.int (x2 + (-1)))]) (st' := []) (S1 := S) rfl ?_
          exact ih h
        · rw [if_pos (Decidable.of_not_not zhc5)] at h
          refine ip_Ev.steps 1 (pc' := 20) (lv' := [some (.int x0), some (.int x1), some (.int x2)]) (st' := [.int x2]) (S1 := S) rfl ?_
          cases h
          exact ip_Ev.ret rfl
def f_A_commonPart (p0 : Int32) (p1 : Int32) : Option (Int32) := (f_A_commonPart_2 ip_FU p0 p1 p1)
set_option maxRecDepth 10000 in
theorem T_A_commonPart {p0 : Int32} {p1 : Int32} {S : ip_St} {r : Int32} (h : f_A_commonPart p0 p1 = some r) : ip_Me 72 [.int p0, .int p1] S (some (.int r)) S := by
  unfold f_A_commonPart at h
  refine ⟨[some (.int p0), some (.int p1), none], rfl, ?_⟩
  refine ip_Ev.steps 2 (pc' := 2) (lv' := [some (.int p0), some (.int p1), some (.int p1)]) (st' := []) (S1 := S) rfl ?_
  exact E_A_commonPart_2 ip_FU h
-- A_odds
def f_A_odds (p1 : Int32) (p2 : Int32) (S : ip_St) : Option (Int32) := (if (f_A_isJudge p1 S) = true then (if p2 < 0 then some (-102) else (if p2 ≤ 1 then ((ip_aA 13 p1).bind fun zv4 => ((f_A_freeWays zv4 S).bind fun zv6 => ((f_J_worlds zv4 S).bind fun zv8 => ((f_A_commonPart (f_G_bitCount zv6) (f_G_bitCount zv8)).bind fun zv10 => (if p2 = 0 then (if zv10 = 0 then none else some ((f_G_bitCount zv6) / zv10)) else (if zv10 = 0 then none else some ((f_G_bitCount zv8) / zv10))))))) else some (-102))) else some (-101))
set_option maxRecDepth 10000 in
theorem T_A_odds {p1 : Int32} {p2 : Int32} {S : ip_St} {r : Int32} (h : f_A_odds p1 p2 S = some r) : ip_Me 73 [.ref 0, .int p1, .int p2] S (some (.int r)) S := by
  unfold f_A_odds at h
  refine ⟨[some (.ref 0), some (.int p1), some (.int p2), none, none, none, none], rfl, ?_⟩
  refine ip_Ev.steps 2 (pc' := 2) (lv' := [some (.ref 0), some (.int p1), some (.int p2), none, none, none, none]) (st' := [.int p1, .ref 0]) (S1 := S) rfl ?_
  refine ip_Ev.call (i := 40) (a := [.ref 0, .int p1]) (r := []) rfl (T_A_isJudge rfl) ?_
  show ip_Ev 73 5 [some (.ref 0), some (.int p1), some (.int p2), none, none, none, none] [.int (ip_b2i (f_A_isJudge p1 S))] S _ _
  refine ip_Ev.iff1 rfl rfl ip_bNe (fun zhc1 => ?_) (fun zhc1 => ?_)
  · rw [if_pos zhc1] at h
    refine ip_Ev.steps 1 (pc' := 12) (lv' := [some (.ref 0), some (.int p1), some (.int p2), none, none, none, none]) (st' := [.int p2]) (S1 := S) rfl ?_
    refine ip_Ev.iff1 rfl rfl ip_cLt (fun zhc2 => ?_) (fun zhc2 => ?_)
    · rw [if_pos zhc2] at h
      refine ip_Ev.steps 1 (pc' := 22) (lv' := [some (.ref 0), some (.int p1), some (.int p2), none, none, none, none]) (st' := [.int (-102)]) (S1 := S) rfl ?_
      cases h
      exact ip_Ev.ret rfl
    · rw [if_neg zhc2] at h
      refine ip_Ev.steps 2 (pc' := 17) (lv' := [some (.ref 0), some (.int p1), some (.int p2), none, none, none, none]) (st' := [.int 1, .int p2]) (S1 := S) rfl ?_
      refine ip_Ev.iff2 rfl rfl ip_cLe (fun zhc3 => ?_) (fun zhc3 => ?_)
      · rw [if_pos zhc3] at h
        refine ip_Ev.steps 4 (pc' := 31) (lv' := [some (.ref 0), some (.int p1), some (.int p2), none, none, none, none]) (st' := [.int p1, .ref 13]) (S1 := S) rfl ?_
        obtain ⟨zv4, hzv4, h⟩ := ip_bind h
        refine ip_Ev.aald rfl hzv4 ?_
        have hozv4 := ip_aA_ob hzv4
        refine ip_Ev.steps 3 (pc' := 35) (lv' := [some (.ref 0), some (.int p1), some (.int p2), some (.ref zv4), none, none, none]) (st' := [.ref zv4, .ref 0]) (S1 := S) rfl ?_
        obtain ⟨zv6, hzq5, h⟩ := ip_bind h
        refine ip_Ev.call (i := 48) (a := [.ref 0, .ref zv4]) (r := []) rfl (T_A_freeWays hozv4 hzq5) ?_
        show ip_Ev 73 38 [some (.ref 0), some (.int p1), some (.int p2), some (.ref zv4), none, none, none] [.long zv6] S _ _
        refine ip_Ev.call (i := 31) (a := [.long zv6]) (r := []) rfl (T_G_bitCount rfl) ?_
        show ip_Ev 73 41 [some (.ref 0), some (.int p1), some (.int p2), some (.ref zv4), none, none, none] [.int (f_G_bitCount zv6)] S _ _
        refine ip_Ev.steps 2 (pc' := 44) (lv' := [some (.ref 0), some (.int p1), some (.int p2), some (.ref zv4), some (.int (f_G_bitCount zv6)), none, none]) (st' := [.ref zv4]) (S1 := S) rfl ?_
        obtain ⟨zv8, hzq7, h⟩ := ip_bind h
        refine ip_Ev.callJ (i := 45) (b := zv4) (a := []) (r := []) rfl rfl rfl rfl hozv4 rfl rfl (T_J_worlds hozv4 hzq7) ?_
        show ip_Ev 73 47 [some (.ref 0), some (.int p1), some (.int p2), some (.ref zv4), some (.int (f_G_bitCount zv6)), none, none] [.long zv8] S _ _
        refine ip_Ev.call (i := 31) (a := [.long zv8]) (r := []) rfl (T_G_bitCount rfl) ?_
        show ip_Ev 73 50 [some (.ref 0), some (.int p1), some (.int p2), some (.ref zv4), some (.int (f_G_bitCount zv6)), none, none] [.int (f_G_bitCount zv8)] S _ _
        refine ip_Ev.steps 3 (pc' := 56) (lv' := [some (.ref 0), some (.int p1), some (.int p2), some (.ref zv4), some (.int (f_G_bitCount zv6)), some (.int (f_G_bitCount zv8)), none]) (st' := [.int (f_G_bitCount zv8), .int (f_G_bitCount zv6)]) (S1 := S) rfl ?_
        obtain ⟨zv10, hzq9, h⟩ := ip_bind h
        refine ip_Ev.call (i := 72) (a := [.int (f_G_bitCount zv6), .int (f_G_bitCount zv8)]) (r := []) rfl (T_A_commonPart hzq9) ?_
        show ip_Ev 73 59 [some (.ref 0), some (.int p1), some (.int p2), some (.ref zv4), some (.int (f_G_bitCount zv6)), some (.int (f_G_bitCount zv8)), none] [.int zv10] S _ _
        refine ip_Ev.steps 2 (pc' := 62) (lv' := [some (.ref 0), some (.int p1), some (.int p2), some (.ref zv4), some (.int (f_G_bitCount zv6)), some (.int (f_G_bitCount zv8)), some (.int zv10)]) (st' := [.int p2]) (S1 := S) rfl ?_
        refine ip_Ev.iff1 rfl rfl ip_cNe (fun zhc11 => ?_) (fun zhc11 => ?_)
        · rw [if_neg zhc11] at h
          refine ip_Ev.steps 2 (pc' := 74) (lv' := [some (.ref 0), some (.int p1), some (.int p2), some (.ref zv4), some (.int (f_G_bitCount zv6)), some (.int (f_G_bitCount zv8)), some (.int zv10)]) (st' := [.int zv10, .int (f_G_bitCount zv8)]) (S1 := S) rfl ?_
          have zhz12 : ¬ zv10 = 0 := by
            intro hq
            rw [if_pos hq] at h
            cases h
          rw [if_neg zhz12] at h
          refine ip_Ev.idiv rfl zhz12 ?_
          cases h
          exact ip_Ev.ret rfl
        · rw [if_pos (Decidable.of_not_not zhc11)] at h
          refine ip_Ev.steps 3 (pc' := 74) (lv' := [some (.ref 0), some (.int p1), some (.int p2), some (.ref zv4), some (.int (f_G_bitCount zv6)), some (.int (f_G_bitCount zv8)), some (.int zv10)]) (st' := [.int zv10, .int (f_G_bitCount zv6)]) (S1 := S) rfl ?_
          have zhz13 : ¬ zv10 = 0 := by
            intro hq
            rw [if_pos hq] at h
            cases h
          rw [if_neg zhz13] at h
          refine ip_Ev.idiv rfl zhz13 ?_
          cases h
          exact ip_Ev.ret rfl
      · rw [if_neg zhc3] at h
        refine ip_Ev.steps 1 (pc' := 22) (lv' := [some (.ref 0), some (.int p1), some (.int p2), none, none, none, none]) (st' := [.int (-102)]) (S1 := S) rfl ?_
        cases h
        exact ip_Ev.ret rfl
  · rw [if_neg zhc1] at h
    refine ip_Ev.steps 1 (pc' := 10) (lv' := [some (.ref 0), some (.int p1), some (.int p2), none, none, none, none]) (st' := [.int (-101)]) (S1 := S) rfl ?_
    cases h
    exact ip_Ev.ret rfl
-- M_common
def f_M_common_4 : Nat → Int32 → Int32 → Option (Int32)
  | 0, _, _ => none
  | n + 1, x2, x3 => (if x3 ≤ 0 then some x2 else (if x3 = 0 then none else (f_M_common_4 n x3 (ip_irem x2 x3))))
set_option maxRecDepth 10000 in
theorem E_M_common_4 : ∀ (n : Nat) {x2 : Int32} {x3 : Int32} {S : ip_St} {r : Int32} {d0 : Option Value} {d1 : Option Value} {d4 : Option Value}, f_M_common_4 n x2 x3 = some r → ip_Ev 158 4 [d0, d1, some (.int x2), some (.int x3), d4] [] S (some (.int r)) S := by
  intro n
  induction n with
  | zero =>
    intro x2 x3 S r d0 d1 d4 h
    cases h
  | succ n ih =>
    intro x2 x3 S r d0 d1 d4 h
    rw [f_M_common_4] at h
    refine ip_Ev.steps 1 (pc' := 5) (lv' := [d0, d1, some (.int x2), some (.int x3), d4]) (st' := [.int x3]) (S1 := S) rfl ?_
    refine ip_Ev.iff1 rfl rfl ip_cLe (fun zhc1 => ?_) (fun zhc1 => ?_)
    · rw [if_pos zhc1] at h
      refine ip_Ev.steps 1 (pc' := 22) (lv' := [d0, d1, some (.int x2), some (.int x3), d4]) (st' := [.int x2]) (S1 := S) rfl ?_
      cases h
      exact ip_Ev.ret rfl
    · rw [if_neg zhc1] at h
      refine ip_Ev.steps 2 (pc' := 10) (lv' := [d0, d1, some (.int x2), some (.int x3), d4]) (st' := [.int x3, .int x2]) (S1 := S) rfl ?_
      have zhz2 : ¬ x3 = 0 := by
        intro hq
        rw [if_pos hq] at h
        cases h
      rw [if_neg zhz2] at h
      refine ip_Ev.irem rfl zhz2 ?_
      show ip_Ev 158 11 [d0, d1, some (.int x2), some (.int x3), d4] [.int (ip_irem x2 x3)] S _ _
      refine ip_Ev.steps 6 (pc' := 4) (lv' := [d0, (ip_kd d1), some (.int x3), some (.int (ip_irem x2 x3)), some (.int (ip_irem x2 x3))]) (st' := []) (S1 := S) rfl ?_
      exact ih h
def f_M_common (p0 : Int32) (p1 : Int32) : Option (Int32) := (f_M_common_4 ip_FU p0 p1)
set_option maxRecDepth 10000 in
theorem T_M_common {p0 : Int32} {p1 : Int32} {S : ip_St} {r : Int32} (h : f_M_common p0 p1 = some r) : ip_Me 158 [.int p0, .int p1] S (some (.int r)) S := by
  unfold f_M_common at h
  refine ⟨[some (.int p0), some (.int p1), none, none, none], rfl, ?_⟩
  refine ip_Ev.steps 4 (pc' := 4) (lv' := [some (.int p0), some (.int p1), some (.int p0), some (.int p1), none]) (st' := []) (S1 := S) rfl ?_
  exact E_M_common_4 ip_FU h
-- M_oddsOf
def f_M_oddsOf (p1 : Int32) (p2 : Int32) (S : ip_St) : Option (Int32) := ((f_M_waysOf p1 S).bind fun zv2 => ((f_M_ones zv2).bind fun zv4 => ((f_M_waysOf p1 S).bind fun zv6 => ((f_M_freesOf p1 S).bind fun zv8 => ((f_M_ones (zv6 &&& zv8)).bind fun zv10 => ((f_M_common zv4 zv10).bind fun zv12 => (if p2 = 0 then (if zv12 = 0 then none else some (zv10 / zv12)) else (if zv12 = 0 then none else some (zv4 / zv12)))))))))
set_option maxRecDepth 10000 in
theorem T_M_oddsOf {p1 : Int32} {p2 : Int32} {S : ip_St} {r : Int32} (h : f_M_oddsOf p1 p2 S = some r) : ip_Me 159 [.ref 30, .int p1, .int p2] S (some (.int r)) S := by
  unfold f_M_oddsOf at h
  refine ⟨[some (.ref 30), some (.int p1), some (.int p2), none, none, none], rfl, ?_⟩
  refine ip_Ev.steps 2 (pc' := 2) (lv' := [some (.ref 30), some (.int p1), some (.int p2), none, none, none]) (st' := [.int p1, .ref 30]) (S1 := S) rfl ?_
  obtain ⟨zv2, hzq1, h⟩ := ip_bind h
  refine ip_Ev.call (i := 138) (a := [.ref 30, .int p1]) (r := []) rfl (T_M_waysOf hzq1) ?_
  show ip_Ev 159 5 [some (.ref 30), some (.int p1), some (.int p2), none, none, none] [.long zv2] S _ _
  obtain ⟨zv4, hzq3, h⟩ := ip_bind h
  refine ip_Ev.call (i := 127) (a := [.long zv2]) (r := []) rfl (T_M_ones hzq3) ?_
  show ip_Ev 159 8 [some (.ref 30), some (.int p1), some (.int p2), none, none, none] [.int zv4] S _ _
  refine ip_Ev.steps 3 (pc' := 11) (lv' := [some (.ref 30), some (.int p1), some (.int p2), some (.int zv4), none, none]) (st' := [.int p1, .ref 30]) (S1 := S) rfl ?_
  obtain ⟨zv6, hzq5, h⟩ := ip_bind h
  refine ip_Ev.call (i := 138) (a := [.ref 30, .int p1]) (r := []) rfl (T_M_waysOf hzq5) ?_
  show ip_Ev 159 14 [some (.ref 30), some (.int p1), some (.int p2), some (.int zv4), none, none] [.long zv6] S _ _
  refine ip_Ev.steps 2 (pc' := 16) (lv' := [some (.ref 30), some (.int p1), some (.int p2), some (.int zv4), none, none]) (st' := [.int p1, .ref 30, .long zv6]) (S1 := S) rfl ?_
  obtain ⟨zv8, hzq7, h⟩ := ip_bind h
  refine ip_Ev.call (i := 140) (a := [.ref 30, .int p1]) (r := [.long zv6]) rfl (T_M_freesOf hzq7) ?_
  show ip_Ev 159 19 [some (.ref 30), some (.int p1), some (.int p2), some (.int zv4), none, none] [.long zv8, .long zv6] S _ _
  refine ip_Ev.steps 1 (pc' := 20) (lv' := [some (.ref 30), some (.int p1), some (.int p2), some (.int zv4), none, none]) (st' := [.long (zv6 &&& zv8)]) (S1 := S) rfl ?_
  obtain ⟨zv10, hzq9, h⟩ := ip_bind h
  refine ip_Ev.call (i := 127) (a := [.long (zv6 &&& zv8)]) (r := []) rfl (T_M_ones hzq9) ?_
  show ip_Ev 159 23 [some (.ref 30), some (.int p1), some (.int p2), some (.int zv4), none, none] [.int zv10] S _ _
  refine ip_Ev.steps 3 (pc' := 28) (lv' := [some (.ref 30), some (.int p1), some (.int p2), some (.int zv4), some (.int zv10), none]) (st' := [.int zv10, .int zv4]) (S1 := S) rfl ?_
  obtain ⟨zv12, hzq11, h⟩ := ip_bind h
  refine ip_Ev.call (i := 158) (a := [.int zv4, .int zv10]) (r := []) rfl (T_M_common hzq11) ?_
  show ip_Ev 159 31 [some (.ref 30), some (.int p1), some (.int p2), some (.int zv4), some (.int zv10), none] [.int zv12] S _ _
  refine ip_Ev.steps 2 (pc' := 34) (lv' := [some (.ref 30), some (.int p1), some (.int p2), some (.int zv4), some (.int zv10), some (.int zv12)]) (st' := [.int p2]) (S1 := S) rfl ?_
  refine ip_Ev.iff1 rfl rfl ip_cNe (fun zhc13 => ?_) (fun zhc13 => ?_)
  · rw [if_neg zhc13] at h
    refine ip_Ev.steps 2 (pc' := 48) (lv' := [some (.ref 30), some (.int p1), some (.int p2), some (.int zv4), some (.int zv10), some (.int zv12)]) (st' := [.int zv12, .int zv4]) (S1 := S) rfl ?_
    have zhz14 : ¬ zv12 = 0 := by
      intro hq
      rw [if_pos hq] at h
      cases h
    rw [if_neg zhz14] at h
    refine ip_Ev.idiv rfl zhz14 ?_
    cases h
    exact ip_Ev.ret rfl
  · rw [if_pos (Decidable.of_not_not zhc13)] at h
    refine ip_Ev.steps 2 (pc' := 41) (lv' := [some (.ref 30), some (.int p1), some (.int p2), some (.int zv4), some (.int zv10), some (.int zv12)]) (st' := [.int zv12, .int zv10]) (S1 := S) rfl ?_
    have zhz15 : ¬ zv12 = 0 := by
      intro hq
      rw [if_pos hq] at h
      cases h
    rw [if_neg zhz15] at h
    refine ip_Ev.idiv rfl zhz15 ?_
    refine ip_Ev.steps 1 (pc' := 49) (lv' := [some (.ref 30), some (.int p1), some (.int p2), some (.int zv4), some (.int zv10), some (.int zv12)]) (st' := [.int (zv10 / zv12)]) (S1 := S) rfl ?_
    cases h
    exact ip_Ev.ret rfl
-- M_odds
def f_M_odds (p1 : Int32) (p2 : Int32) (S : ip_St) : Option (Int32) := (if (f_M_isJudge p1 S) = true then (if (f_M_in (Int32.toInt64 p2) 0 1) = false then some (-102) else ((f_M_oddsOf p1 p2 S).bind fun zv4 => some zv4)) else some (-101))
set_option maxRecDepth 10000 in
theorem T_M_odds {p1 : Int32} {p2 : Int32} {S : ip_St} {r : Int32} (h : f_M_odds p1 p2 S = some r) : ip_Me 160 [.ref 30, .int p1, .int p2] S (some (.int r)) S := by
  unfold f_M_odds at h
  refine ⟨[some (.ref 30), some (.int p1), some (.int p2)], rfl, ?_⟩
  refine ip_Ev.steps 2 (pc' := 2) (lv' := [some (.ref 30), some (.int p1), some (.int p2)]) (st' := [.int p1, .ref 30]) (S1 := S) rfl ?_
  refine ip_Ev.call (i := 135) (a := [.ref 30, .int p1]) (r := []) rfl (T_M_isJudge rfl) ?_
  show ip_Ev 160 5 [some (.ref 30), some (.int p1), some (.int p2)] [.int (ip_b2i (f_M_isJudge p1 S))] S _ _
  refine ip_Ev.iff1 rfl rfl ip_bNe (fun zhc1 => ?_) (fun zhc1 => ?_)
  · rw [if_pos zhc1] at h
    refine ip_Ev.steps 4 (pc' := 15) (lv' := [some (.ref 30), some (.int p1), some (.int p2)]) (st' := [.long 1, .long 0, .long (Int32.toInt64 p2)]) (S1 := S) rfl ?_
    refine ip_Ev.call (i := 101) (a := [.long (Int32.toInt64 p2), .long 0, .long 1]) (r := []) rfl (T_M_in rfl) ?_
    show ip_Ev 160 18 [some (.ref 30), some (.int p1), some (.int p2)] [.int (ip_b2i (f_M_in (Int32.toInt64 p2) 0 1))] S _ _
    refine ip_Ev.iff1 rfl rfl ip_bEq (fun zhc2 => ?_) (fun zhc2 => ?_)
    · rw [if_pos zhc2] at h
      refine ip_Ev.steps 1 (pc' := 32) (lv' := [some (.ref 30), some (.int p1), some (.int p2)]) (st' := [.int (-102)]) (S1 := S) rfl ?_
      cases h
      exact ip_Ev.ret rfl
    · rw [if_neg zhc2] at h
      refine ip_Ev.steps 3 (pc' := 24) (lv' := [some (.ref 30), some (.int p1), some (.int p2)]) (st' := [.int p2, .int p1, .ref 30]) (S1 := S) rfl ?_
      obtain ⟨zv4, hzq3, h⟩ := ip_bind h
      refine ip_Ev.call (i := 159) (a := [.ref 30, .int p1, .int p2]) (r := []) rfl (T_M_oddsOf hzq3) ?_
      show ip_Ev 160 27 [some (.ref 30), some (.int p1), some (.int p2)] [.int zv4] S _ _
      refine ip_Ev.steps 1 (pc' := 32) (lv' := [some (.ref 30), some (.int p1), some (.int p2)]) (st' := [.int zv4]) (S1 := S) rfl ?_
      cases h
      exact ip_Ev.ret rfl
  · rw [if_neg zhc1] at h
    refine ip_Ev.steps 1 (pc' := 10) (lv' := [some (.ref 30), some (.int p1), some (.int p2)]) (st' := [.int (-101)]) (S1 := S) rfl ?_
    cases h
    exact ip_Ev.ret rfl
-- A_isFact
def f_A_isFact (p0 : Int32) : Bool := (if p0 < 0 then false else (if 6 ≤ p0 then false else true))
set_option maxRecDepth 10000 in
theorem T_A_isFact {p0 : Int32} {S : ip_St} {r : Bool} (h : f_A_isFact p0 = r) : ip_Me 74 [.int p0] S (some (.int (ip_b2i r))) S := by
  unfold f_A_isFact at h
  refine ⟨[some (.int p0)], rfl, ?_⟩
  refine ip_Ev.steps 1 (pc' := 1) (lv' := [some (.int p0)]) (st' := [.int p0]) (S1 := S) rfl ?_
  refine ip_Ev.iff1 rfl rfl ip_cLt (fun zhc1 => ?_) (fun zhc1 => ?_)
  · rw [if_pos zhc1] at h
    refine ip_Ev.steps 1 (pc' := 15) (lv' := [some (.int p0)]) (st' := [.int 0]) (S1 := S) rfl ?_
    cases h
    exact ip_Ev.retB (b := false) rfl rfl
  · rw [if_neg zhc1] at h
    refine ip_Ev.steps 2 (pc' := 7) (lv' := [some (.int p0)]) (st' := [.int 6, .int p0]) (S1 := S) rfl ?_
    refine ip_Ev.iff2 rfl rfl ip_cGe (fun zhc2 => ?_) (fun zhc2 => ?_)
    · rw [if_pos zhc2] at h
      refine ip_Ev.steps 1 (pc' := 15) (lv' := [some (.int p0)]) (st' := [.int 0]) (S1 := S) rfl ?_
      cases h
      exact ip_Ev.retB (b := false) rfl rfl
    · rw [if_neg zhc2] at h
      refine ip_Ev.steps 2 (pc' := 15) (lv' := [some (.int p0)]) (st' := [.int 1]) (S1 := S) rfl ?_
      cases h
      exact ip_Ev.retB (b := true) rfl rfl
-- A_isAnswer
def f_A_isAnswer (p0 : Int32) : Bool := (if p0 = 0 then true else (if p0 = 1 then true else false))
set_option maxRecDepth 10000 in
theorem T_A_isAnswer {p0 : Int32} {S : ip_St} {r : Bool} (h : f_A_isAnswer p0 = r) : ip_Me 75 [.int p0] S (some (.int (ip_b2i r))) S := by
  unfold f_A_isAnswer at h
  refine ⟨[some (.int p0)], rfl, ?_⟩
  refine ip_Ev.steps 1 (pc' := 1) (lv' := [some (.int p0)]) (st' := [.int p0]) (S1 := S) rfl ?_
  refine ip_Ev.iff1 rfl rfl ip_cEq (fun zhc1 => ?_) (fun zhc1 => ?_)
  · rw [if_pos zhc1] at h
    refine ip_Ev.steps 2 (pc' := 14) (lv' := [some (.int p0)]) (st' := [.int 1]) (S1 := S) rfl ?_
    cases h
    exact ip_Ev.retB (b := true) rfl rfl
  · rw [if_neg zhc1] at h
    refine ip_Ev.steps 2 (pc' := 6) (lv' := [some (.int p0)]) (st' := [.int 1, .int p0]) (S1 := S) rfl ?_
    refine ip_Ev.iff2 rfl rfl ip_cNe (fun zhc2 => ?_) (fun zhc2 => ?_)
    · rw [if_neg zhc2] at h
      refine ip_Ev.steps 1 (pc' := 14) (lv' := [some (.int p0)]) (st' := [.int 0]) (S1 := S) rfl ?_
      cases h
      exact ip_Ev.retB (b := false) rfl rfl
    · rw [if_pos (Decidable.of_not_not zhc2)] at h
      refine ip_Ev.steps 2 (pc' := 14) (lv' := [some (.int p0)]) (st' := [.int 1]) (S1 := S) rfl ?_
      cases h
      exact ip_Ev.retB (b := true) rfl rfl
-- A_ask
def f_A_ask_115 (x2 : Int32) (x3 : Int32) (c4 : Nat) (S : ip_St) : Option (Int32 × ip_St) := ((f_J_worlds c4 (ip_upI (ip_upI S c4 3 ((S.1 c4 3) ||| (ip_ishl 1 x2))) c4 4 (((ip_upI S c4 3 ((S.1 c4 3) ||| (ip_ishl 1 x2))).1 c4 4) ||| (ip_ishl x3 x2)))).bind fun zv2 => some ((f_G_bitCount zv2), (ip_upI (ip_upI S c4 3 ((S.1 c4 3) ||| (ip_ishl 1 x2))) c4 4 (((ip_upI S c4 3 ((S.1 c4 3) ||| (ip_ishl 1 x2))).1 c4 4) ||| (ip_ishl x3 x2)))))
set_option maxRecDepth 10000 in
theorem E_A_ask_115 {x2 : Int32} {x3 : Int32} {c4 : Nat} {S : ip_St} {r : Int32} {S9 : ip_St} {d0 : Option Value} {d1 : Option Value} (hc4 : ip_ob c4 = some 1) (h : f_A_ask_115 x2 x3 c4 S = some (r, S9)) : ip_Ev 76 115 [d0, d1, some (.int x2), some (.int x3), some (.ref c4)] [] S (some (.int r)) S9 := by
  unfold f_A_ask_115 at h
  refine ip_Ev.steps 2 (pc' := 118) (lv' := [d0, d1, some (.int x2), some (.int x3), some (.ref c4)]) (st' := [.ref c4, .ref c4]) (S1 := S) rfl ?_
  refine ip_Ev.gfI rfl rfl hc4 (by decide) ?_
  refine ip_Ev.steps 4 (pc' := 125) (lv' := [d0, d1, some (.int x2), some (.int x3), some (.ref c4)]) (st' := [.int ((S.1 c4 3) ||| (ip_ishl 1 x2)), .ref c4]) (S1 := S) rfl ?_
  refine ip_Ev.pfI rfl rfl hc4 rfl ?_
  refine ip_Ev.steps 2 (pc' := 131) (lv' := [d0, d1, some (.int x2), some (.int x3), some (.ref c4)]) (st' := [.ref c4, .ref c4]) (S1 := (ip_upI S c4 3 ((S.1 c4 3) ||| (ip_ishl 1 x2)))) rfl ?_
  refine ip_Ev.gfI rfl rfl hc4 (by decide) ?_
  refine ip_Ev.steps 4 (pc' := 138) (lv' := [d0, d1, some (.int x2), some (.int x3), some (.ref c4)]) (st' := [.int (((ip_upI S c4 3 ((S.1 c4 3) ||| (ip_ishl 1 x2))).1 c4 4) ||| (ip_ishl x3 x2)), .ref c4]) (S1 := (ip_upI S c4 3 ((S.1 c4 3) ||| (ip_ishl 1 x2)))) rfl ?_
  refine ip_Ev.pfI rfl rfl hc4 rfl ?_
  refine ip_Ev.steps 1 (pc' := 143) (lv' := [d0, d1, some (.int x2), some (.int x3), some (.ref c4)]) (st' := [.ref c4]) (S1 := (ip_upI (ip_upI S c4 3 ((S.1 c4 3) ||| (ip_ishl 1 x2))) c4 4 (((ip_upI S c4 3 ((S.1 c4 3) ||| (ip_ishl 1 x2))).1 c4 4) ||| (ip_ishl x3 x2)))) rfl ?_
  obtain ⟨zv2, hzq1, h⟩ := ip_bind h
  refine ip_Ev.callJ (i := 45) (b := c4) (a := []) (r := []) rfl rfl rfl rfl hc4 rfl rfl (T_J_worlds hc4 hzq1) ?_
  show ip_Ev 76 146 [d0, d1, some (.int x2), some (.int x3), some (.ref c4)] [.long zv2] (ip_upI (ip_upI S c4 3 ((S.1 c4 3) ||| (ip_ishl 1 x2))) c4 4 (((ip_upI S c4 3 ((S.1 c4 3) ||| (ip_ishl 1 x2))).1 c4 4) ||| (ip_ishl x3 x2))) _ _
  refine ip_Ev.call (i := 31) (a := [.long zv2]) (r := []) rfl (T_G_bitCount rfl) ?_
  show ip_Ev 76 149 [d0, d1, some (.int x2), some (.int x3), some (.ref c4)] [.int (f_G_bitCount zv2)] (ip_upI (ip_upI S c4 3 ((S.1 c4 3) ||| (ip_ishl 1 x2))) c4 4 (((ip_upI S c4 3 ((S.1 c4 3) ||| (ip_ishl 1 x2))).1 c4 4) ||| (ip_ishl x3 x2))) _ _
  cases h
  exact ip_Ev.ret rfl
def f_A_ask (p1 : Int32) (p2 : Int32) (p3 : Int32) (S : ip_St) : Option (Int32 × ip_St) := (if (f_A_isJudge p1 S) = false then some ((-101), S) else (if (f_A_isFact p2) = true then (if (f_A_isAnswer p3) = true then ((ip_aA 13 p1).bind fun zv4 => (if (f_A_bit (S.1 zv4 3) p2) = 1 then some ((-103), S) else ((f_J_worlds zv4 S).bind fun zv7 => ((f_A_whereSaid (S.1 zv4 0) p2 p3).bind fun zv9 => (if (zv7 &&& zv9) = 0 then some ((-103), S) else (if ((ip_upI S 12 4 ((S.1 12 4) + 1)).1 zv4 0) = 2 then (if ((ip_upI S 12 4 ((S.1 12 4) + 1)).1 zv4 5) = 0 then some ((-2), (ip_upI (ip_upI S 12 4 ((S.1 12 4) + 1)) zv4 5 1)) else (f_A_ask_115 p2 p3 zv4 (ip_upI S 12 4 ((S.1 12 4) + 1)))) else (f_A_ask_115 p2 p3 zv4 (ip_upI S 12 4 ((S.1 12 4) + 1))))))))) else some ((-102), S)) else some ((-101), S)))
set_option maxRecDepth 10000 in
theorem T_A_ask {p1 : Int32} {p2 : Int32} {p3 : Int32} {S : ip_St} {r : Int32} {S9 : ip_St} (h : f_A_ask p1 p2 p3 S = some (r, S9)) : ip_Me 76 [.ref 0, .int p1, .int p2, .int p3] S (some (.int r)) S9 := by
  unfold f_A_ask at h
  refine ⟨[some (.ref 0), some (.int p1), some (.int p2), some (.int p3), none], rfl, ?_⟩
  refine ip_Ev.steps 2 (pc' := 2) (lv' := [some (.ref 0), some (.int p1), some (.int p2), some (.int p3), none]) (st' := [.int p1, .ref 0]) (S1 := S) rfl ?_
  refine ip_Ev.call (i := 40) (a := [.ref 0, .int p1]) (r := []) rfl (T_A_isJudge rfl) ?_
  show ip_Ev 76 5 [some (.ref 0), some (.int p1), some (.int p2), some (.int p3), none] [.int (ip_b2i (f_A_isJudge p1 S))] S _ _
  refine ip_Ev.iff1 rfl rfl ip_bEq (fun zhc1 => ?_) (fun zhc1 => ?_)
  · rw [if_pos zhc1] at h
    refine ip_Ev.steps 1 (pc' := 17) (lv' := [some (.ref 0), some (.int p1), some (.int p2), some (.int p3), none]) (st' := [.int (-101)]) (S1 := S) rfl ?_
    cases h
    exact ip_Ev.ret rfl
  · rw [if_neg zhc1] at h
    refine ip_Ev.steps 1 (pc' := 9) (lv' := [some (.ref 0), some (.int p1), some (.int p2), some (.int p3), none]) (st' := [.int p2]) (S1 := S) rfl ?_
    refine ip_Ev.call (i := 74) (a := [.int p2]) (r := []) rfl (T_A_isFact rfl) ?_
    show ip_Ev 76 12 [some (.ref 0), some (.int p1), some (.int p2), some (.int p3), none] [.int (ip_b2i (f_A_isFact p2))] S _ _
    refine ip_Ev.iff1 rfl rfl ip_bNe (fun zhc2 => ?_) (fun zhc2 => ?_)
    · rw [if_pos zhc2] at h
      refine ip_Ev.steps 1 (pc' := 19) (lv' := [some (.ref 0), some (.int p1), some (.int p2), some (.int p3), none]) (st' := [.int p3]) (S1 := S) rfl ?_
      refine ip_Ev.call (i := 75) (a := [.int p3]) (r := []) rfl (T_A_isAnswer rfl) ?_
      show ip_Ev 76 22 [some (.ref 0), some (.int p1), some (.int p2), some (.int p3), none] [.int (ip_b2i (f_A_isAnswer p3))] S _ _
      refine ip_Ev.iff1 rfl rfl ip_bNe (fun zhc3 => ?_) (fun zhc3 => ?_)
      · rw [if_pos zhc3] at h
        refine ip_Ev.steps 4 (pc' := 36) (lv' := [some (.ref 0), some (.int p1), some (.int p2), some (.int p3), none]) (st' := [.int p1, .ref 13]) (S1 := S) rfl ?_
        obtain ⟨zv4, hzv4, h⟩ := ip_bind h
        refine ip_Ev.aald rfl hzv4 ?_
        have hozv4 := ip_aA_ob hzv4
        refine ip_Ev.steps 2 (pc' := 41) (lv' := [some (.ref 0), some (.int p1), some (.int p2), some (.int p3), some (.ref zv4)]) (st' := [.ref zv4]) (S1 := S) rfl ?_
        refine ip_Ev.gfI rfl rfl hozv4 (by decide) ?_
        refine ip_Ev.steps 1 (pc' := 45) (lv' := [some (.ref 0), some (.int p1), some (.int p2), some (.int p3), some (.ref zv4)]) (st' := [.int p2, .int (S.1 zv4 3)]) (S1 := S) rfl ?_
        refine ip_Ev.call (i := 41) (a := [.int (S.1 zv4 3), .int p2]) (r := []) rfl (T_A_bit rfl) ?_
        show ip_Ev 76 48 [some (.ref 0), some (.int p1), some (.int p2), some (.int p3), some (.ref zv4)] [.int (f_A_bit (S.1 zv4 3) p2)] S _ _
        refine ip_Ev.steps 1 (pc' := 49) (lv' := [some (.ref 0), some (.int p1), some (.int p2), some (.int p3), some (.ref zv4)]) (st' := [.int 1, .int (f_A_bit (S.1 zv4 3) p2)]) (S1 := S) rfl ?_
        refine ip_Ev.iff2 rfl rfl ip_cEq (fun zhc5 => ?_) (fun zhc5 => ?_)
        · rw [if_pos zhc5] at h
          refine ip_Ev.steps 1 (pc' := 75) (lv' := [some (.ref 0), some (.int p1), some (.int p2), some (.int p3), some (.ref zv4)]) (st' := [.int (-103)]) (S1 := S) rfl ?_
          cases h
          exact ip_Ev.ret rfl
        · rw [if_neg zhc5] at h
          refine ip_Ev.steps 1 (pc' := 54) (lv' := [some (.ref 0), some (.int p1), some (.int p2), some (.int p3), some (.ref zv4)]) (st' := [.ref zv4]) (S1 := S) rfl ?_
          obtain ⟨zv7, hzq6, h⟩ := ip_bind h
          refine ip_Ev.callJ (i := 45) (b := zv4) (a := []) (r := []) rfl rfl rfl rfl hozv4 rfl rfl (T_J_worlds hozv4 hzq6) ?_
          show ip_Ev 76 57 [some (.ref 0), some (.int p1), some (.int p2), some (.int p3), some (.ref zv4)] [.long zv7] S _ _
          refine ip_Ev.steps 1 (pc' := 59) (lv' := [some (.ref 0), some (.int p1), some (.int p2), some (.int p3), some (.ref zv4)]) (st' := [.ref zv4, .long zv7]) (S1 := S) rfl ?_
          refine ip_Ev.gfI rfl rfl hozv4 (by decide) ?_
          refine ip_Ev.steps 2 (pc' := 64) (lv' := [some (.ref 0), some (.int p1), some (.int p2), some (.int p3), some (.ref zv4)]) (st' := [.int p3, .int p2, .int (S.1 zv4 0), .long zv7]) (S1 := S) rfl ?_
          obtain ⟨zv9, hzq8, h⟩ := ip_bind h
          refine ip_Ev.call (i := 44) (a := [.int (S.1 zv4 0), .int p2, .int p3]) (r := [.long zv7]) rfl (T_A_whereSaid hzq8) ?_
          show ip_Ev 76 67 [some (.ref 0), some (.int p1), some (.int p2), some (.int p3), some (.ref zv4)] [.long zv9, .long zv7] S _ _
          refine ip_Ev.steps 3 (pc' := 70) (lv' := [some (.ref 0), some (.int p1), some (.int p2), some (.int p3), some (.ref zv4)]) (st' := [.int (lg_cmp (zv7 &&& zv9) 0)]) (S1 := S) rfl ?_
          refine ip_Ev.iff1 rfl rfl ip_lNe (fun zhc10 => ?_) (fun zhc10 => ?_)
          · rw [if_neg zhc10] at h
            refine ip_Ev.steps 8 (pc' := 91) (lv' := [some (.ref 0), some (.int p1), some (.int p2), some (.int p3), some (.ref zv4)]) (st' := [.ref zv4]) (S1 := (ip_upI S 12 4 ((S.1 12 4) + 1))) rfl ?_
            refine ip_Ev.gfI rfl rfl hozv4 (by decide) ?_
            refine ip_Ev.steps 1 (pc' := 95) (lv' := [some (.ref 0), some (.int p1), some (.int p2), some (.int p3), some (.ref zv4)]) (st' := [.int 2, .int ((ip_upI S 12 4 ((S.1 12 4) + 1)).1 zv4 0)]) (S1 := (ip_upI S 12 4 ((S.1 12 4) + 1))) rfl ?_
            refine ip_Ev.iff2 rfl rfl ip_cNe (fun zhc11 => ?_) (fun zhc11 => ?_)
            · rw [if_neg zhc11] at h
              exact E_A_ask_115 hozv4 h
            · rw [if_pos (Decidable.of_not_not zhc11)] at h
              refine ip_Ev.steps 1 (pc' := 100) (lv' := [some (.ref 0), some (.int p1), some (.int p2), some (.int p3), some (.ref zv4)]) (st' := [.ref zv4]) (S1 := (ip_upI S 12 4 ((S.1 12 4) + 1))) rfl ?_
              refine ip_Ev.gfI rfl rfl hozv4 (by decide) ?_
              refine ip_Ev.iff1 rfl rfl ip_cNe (fun zhc12 => ?_) (fun zhc12 => ?_)
              · rw [if_neg zhc12] at h
                exact E_A_ask_115 hozv4 h
              · rw [if_pos (Decidable.of_not_not zhc12)] at h
                refine ip_Ev.steps 2 (pc' := 109) (lv' := [some (.ref 0), some (.int p1), some (.int p2), some (.int p3), some (.ref zv4)]) (st' := [.int 1, .ref zv4]) (S1 := (ip_upI S 12 4 ((S.1 12 4) + 1))) rfl ?_
                refine ip_Ev.pfZ rfl rfl hozv4 rfl rfl ?_
                refine ip_Ev.steps 1 (pc' := 114) (lv' := [some (.ref 0), some (.int p1), some (.int p2), some (.int p3), some (.ref zv4)]) (st' := [.int (-2)]) (S1 := (ip_upI (ip_upI S 12 4 ((S.1 12 4) + 1)) zv4 5 1)) rfl ?_
                cases h
                exact ip_Ev.ret rfl
          · rw [if_pos (Decidable.of_not_not zhc10)] at h
            refine ip_Ev.steps 1 (pc' := 75) (lv' := [some (.ref 0), some (.int p1), some (.int p2), some (.int p3), some (.ref zv4)]) (st' := [.int (-103)]) (S1 := S) rfl ?_
            cases h
            exact ip_Ev.ret rfl
      · rw [if_neg zhc3] at h
        refine ip_Ev.steps 1 (pc' := 27) (lv' := [some (.ref 0), some (.int p1), some (.int p2), some (.int p3), none]) (st' := [.int (-102)]) (S1 := S) rfl ?_
        cases h
        exact ip_Ev.ret rfl
    · rw [if_neg zhc2] at h
      refine ip_Ev.steps 1 (pc' := 17) (lv' := [some (.ref 0), some (.int p1), some (.int p2), some (.int p3), none]) (st' := [.int (-101)]) (S1 := S) rfl ?_
      cases h
      exact ip_Ev.ret rfl
-- M_isFact
def f_M_isFact (p0 : Int32) : Bool := (f_M_in (Int32.toInt64 p0) 0 5)
set_option maxRecDepth 10000 in
theorem T_M_isFact {p0 : Int32} {S : ip_St} {r : Bool} (h : f_M_isFact p0 = r) : ip_Me 161 [.int p0] S (some (.int (ip_b2i r))) S := by
  unfold f_M_isFact at h
  refine ⟨[some (.int p0)], rfl, ?_⟩
  refine ip_Ev.steps 4 (pc' := 6) (lv' := [some (.int p0)]) (st' := [.long 5, .long 0, .long (Int32.toInt64 p0)]) (S1 := S) rfl ?_
  refine ip_Ev.call (i := 101) (a := [.long (Int32.toInt64 p0), .long 0, .long 5]) (r := []) rfl (T_M_in rfl) ?_
  show ip_Ev 161 9 [some (.int p0)] [.int (ip_b2i (f_M_in (Int32.toInt64 p0) 0 5))] S _ _
  cases h
  exact ip_Ev.retB rfl rfl
-- M_isBit
def f_M_isBit (p0 : Int32) : Bool := (f_M_in (Int32.toInt64 p0) 0 1)
set_option maxRecDepth 10000 in
theorem T_M_isBit {p0 : Int32} {S : ip_St} {r : Bool} (h : f_M_isBit p0 = r) : ip_Me 162 [.int p0] S (some (.int (ip_b2i r))) S := by
  unfold f_M_isBit at h
  refine ⟨[some (.int p0)], rfl, ?_⟩
  refine ip_Ev.steps 4 (pc' := 4) (lv' := [some (.int p0)]) (st' := [.long 1, .long 0, .long (Int32.toInt64 p0)]) (S1 := S) rfl ?_
  refine ip_Ev.call (i := 101) (a := [.long (Int32.toInt64 p0), .long 0, .long 1]) (r := []) rfl (T_M_in rfl) ?_
  show ip_Ev 162 7 [some (.int p0)] [.int (ip_b2i (f_M_in (Int32.toInt64 p0) 0 1))] S _ _
  cases h
  exact ip_Ev.retB rfl rfl
-- M_ask
def f_M_ask_123 (x1 : Int32) (x2 : Int32) (x3 : Int32) (S : ip_St) : Option (Int32 × ip_St) := ((ip_wI S 44 ((6 * x1) + x2) x3).bind fun zS1 => ((f_M_waysOf x1 zS1).bind fun zv3 => ((f_M_ones zv3).bind fun zv5 => some (zv5, zS1))))
set_option maxRecDepth 10000 in
theorem E_M_ask_123 {x1 : Int32} {x2 : Int32} {x3 : Int32} {S : ip_St} {r : Int32} {S9 : ip_St} (h : f_M_ask_123 x1 x2 x3 S = some (r, S9)) : ip_Ev 163 123 [some (.ref 30), some (.int x1), some (.int x2), some (.int x3)] [] S (some (.int r)) S9 := by
  unfold f_M_ask_123 at h
  refine ip_Ev.steps 8 (pc' := 134) (lv' := [some (.ref 30), some (.int x1), some (.int x2), some (.int x3)]) (st' := [.int x3, .int ((6 * x1) + x2), .ref 44]) (S1 := S) rfl ?_
  obtain ⟨zS1, hzS1, h⟩ := ip_bind h
  refine ip_Ev.iast rfl hzS1 ?_
  refine ip_Ev.steps 2 (pc' := 137) (lv' := [some (.ref 30), some (.int x1), some (.int x2), some (.int x3)]) (st' := [.int x1, .ref 30]) (S1 := zS1) rfl ?_
  obtain ⟨zv3, hzq2, h⟩ := ip_bind h
  refine ip_Ev.call (i := 138) (a := [.ref 30, .int x1]) (r := []) rfl (T_M_waysOf hzq2) ?_
  show ip_Ev 163 140 [some (.ref 30), some (.int x1), some (.int x2), some (.int x3)] [.long zv3] zS1 _ _
  obtain ⟨zv5, hzq4, h⟩ := ip_bind h
  refine ip_Ev.call (i := 127) (a := [.long zv3]) (r := []) rfl (T_M_ones hzq4) ?_
  show ip_Ev 163 143 [some (.ref 30), some (.int x1), some (.int x2), some (.int x3)] [.int zv5] zS1 _ _
  cases h
  exact ip_Ev.ret rfl
def f_M_ask (p1 : Int32) (p2 : Int32) (p3 : Int32) (S : ip_St) : Option (Int32 × ip_St) := (if (f_M_isJudge p1 S) = false then some ((-101), S) else (if (f_M_isFact p2) = true then (if (f_M_isBit p3) = true then ((ip_aI S 44 ((6 * p1) + p2)).bind fun zv4 => (if zv4 = (-1) then ((f_M_waysOf p1 S).bind fun zv7 => ((ip_aI S 42 (2 * p1)).bind fun zv8 => ((f_M_saysRow zv8 p2 S).bind fun zv10 => (if (zv7 &&& (f_M_keptIf zv10 p3)) = 0 then some ((-103), S) else ((ip_aI (ip_upI S 30 19 ((S.1 30 19) + 1)) 42 (2 * p1)).bind fun zv12 => (if zv12 = 2 then ((ip_aI (ip_upI S 30 19 ((S.1 30 19) + 1)) 42 ((2 * p1) + 1)).bind fun zv14 => (if zv14 = 0 then ((ip_wI (ip_upI S 30 19 ((S.1 30 19) + 1)) 42 ((2 * p1) + 1) 1).bind fun zS16 => some ((-2), zS16)) else (f_M_ask_123 p1 p2 p3 (ip_upI S 30 19 ((S.1 30 19) + 1))))) else (f_M_ask_123 p1 p2 p3 (ip_upI S 30 19 ((S.1 30 19) + 1))))))))) else some ((-103), S))) else some ((-102), S)) else some ((-101), S)))
set_option maxRecDepth 10000 in
theorem T_M_ask {p1 : Int32} {p2 : Int32} {p3 : Int32} {S : ip_St} {r : Int32} {S9 : ip_St} (h : f_M_ask p1 p2 p3 S = some (r, S9)) : ip_Me 163 [.ref 30, .int p1, .int p2, .int p3] S (some (.int r)) S9 := by
  unfold f_M_ask at h
  refine ⟨[some (.ref 30), some (.int p1), some (.int p2), some (.int p3)], rfl, ?_⟩
  refine ip_Ev.steps 2 (pc' := 2) (lv' := [some (.ref 30), some (.int p1), some (.int p2), some (.int p3)]) (st' := [.int p1, .ref 30]) (S1 := S) rfl ?_
  refine ip_Ev.call (i := 135) (a := [.ref 30, .int p1]) (r := []) rfl (T_M_isJudge rfl) ?_
  show ip_Ev 163 5 [some (.ref 30), some (.int p1), some (.int p2), some (.int p3)] [.int (ip_b2i (f_M_isJudge p1 S))] S _ _
  refine ip_Ev.iff1 rfl rfl ip_bEq (fun zhc1 => ?_) (fun zhc1 => ?_)
  · rw [if_pos zhc1] at h
    refine ip_Ev.steps 1 (pc' := 17) (lv' := [some (.ref 30), some (.int p1), some (.int p2), some (.int p3)]) (st' := [.int (-101)]) (S1 := S) rfl ?_
    cases h
    exact ip_Ev.ret rfl
  · rw [if_neg zhc1] at h
    refine ip_Ev.steps 1 (pc' := 9) (lv' := [some (.ref 30), some (.int p1), some (.int p2), some (.int p3)]) (st' := [.int p2]) (S1 := S) rfl ?_
    refine ip_Ev.call (i := 161) (a := [.int p2]) (r := []) rfl (T_M_isFact rfl) ?_
    show ip_Ev 163 12 [some (.ref 30), some (.int p1), some (.int p2), some (.int p3)] [.int (ip_b2i (f_M_isFact p2))] S _ _
    refine ip_Ev.iff1 rfl rfl ip_bNe (fun zhc2 => ?_) (fun zhc2 => ?_)
    · rw [if_pos zhc2] at h
      refine ip_Ev.steps 1 (pc' := 19) (lv' := [some (.ref 30), some (.int p1), some (.int p2), some (.int p3)]) (st' := [.int p3]) (S1 := S) rfl ?_
      refine ip_Ev.call (i := 162) (a := [.int p3]) (r := []) rfl (T_M_isBit rfl) ?_
      show ip_Ev 163 22 [some (.ref 30), some (.int p1), some (.int p2), some (.int p3)] [.int (ip_b2i (f_M_isBit p3))] S _ _
      refine ip_Ev.iff1 rfl rfl ip_bNe (fun zhc3 => ?_) (fun zhc3 => ?_)
      · rw [if_pos zhc3] at h
        refine ip_Ev.steps 7 (pc' := 38) (lv' := [some (.ref 30), some (.int p1), some (.int p2), some (.int p3)]) (st' := [.int ((6 * p1) + p2), .ref 44]) (S1 := S) rfl ?_
        obtain ⟨zv4, hzv4, h⟩ := ip_bind h
        refine ip_Ev.iald rfl hzv4 ?_
        refine ip_Ev.steps 1 (pc' := 40) (lv' := [some (.ref 30), some (.int p1), some (.int p2), some (.int p3)]) (st' := [.int (-1), .int zv4]) (S1 := S) rfl ?_
        refine ip_Ev.iff2 rfl rfl ip_cNe (fun zhc5 => ?_) (fun zhc5 => ?_)
        · rw [if_neg zhc5] at h
          refine ip_Ev.steps 1 (pc' := 73) (lv' := [some (.ref 30), some (.int p1), some (.int p2), some (.int p3)]) (st' := [.int (-103)]) (S1 := S) rfl ?_
          cases h
          exact ip_Ev.ret rfl
        · rw [if_pos (Decidable.of_not_not zhc5)] at h
          refine ip_Ev.steps 2 (pc' := 45) (lv' := [some (.ref 30), some (.int p1), some (.int p2), some (.int p3)]) (st' := [.int p1, .ref 30]) (S1 := S) rfl ?_
          obtain ⟨zv7, hzq6, h⟩ := ip_bind h
          refine ip_Ev.call (i := 138) (a := [.ref 30, .int p1]) (r := []) rfl (T_M_waysOf hzq6) ?_
          show ip_Ev 163 48 [some (.ref 30), some (.int p1), some (.int p2), some (.int p3)] [.long zv7] S _ _
          refine ip_Ev.steps 6 (pc' := 56) (lv' := [some (.ref 30), some (.int p1), some (.int p2), some (.int p3)]) (st' := [.int (2 * p1), .ref 42, .ref 30, .long zv7]) (S1 := S) rfl ?_
          obtain ⟨zv8, hzv8, h⟩ := ip_bind h
          refine ip_Ev.iald rfl hzv8 ?_
          refine ip_Ev.steps 1 (pc' := 58) (lv' := [some (.ref 30), some (.int p1), some (.int p2), some (.int p3)]) (st' := [.int p2, .int zv8, .ref 30, .long zv7]) (S1 := S) rfl ?_
          obtain ⟨zv10, hzq9, h⟩ := ip_bind h
          refine ip_Ev.call (i := 137) (a := [.ref 30, .int zv8, .int p2]) (r := [.long zv7]) rfl (T_M_saysRow hzq9) ?_
          show ip_Ev 163 61 [some (.ref 30), some (.int p1), some (.int p2), some (.int p3)] [.long zv10, .long zv7] S _ _
          refine ip_Ev.steps 1 (pc' := 62) (lv' := [some (.ref 30), some (.int p1), some (.int p2), some (.int p3)]) (st' := [.int p3, .long zv10, .long zv7]) (S1 := S) rfl ?_
          refine ip_Ev.call (i := 136) (a := [.long zv10, .int p3]) (r := [.long zv7]) rfl (T_M_keptIf rfl) ?_
          show ip_Ev 163 65 [some (.ref 30), some (.int p1), some (.int p2), some (.int p3)] [.long (f_M_keptIf zv10 p3), .long zv7] S _ _
          refine ip_Ev.steps 3 (pc' := 68) (lv' := [some (.ref 30), some (.int p1), some (.int p2), some (.int p3)]) (st' := [.int (lg_cmp (zv7 &&& (f_M_keptIf zv10 p3)) 0)]) (S1 := S) rfl ?_
          refine ip_Ev.iff1 rfl rfl ip_lNe (fun zhc11 => ?_) (fun zhc11 => ?_)
          · rw [if_neg zhc11] at h
            refine ip_Ev.steps 11 (pc' := 91) (lv' := [some (.ref 30), some (.int p1), some (.int p2), some (.int p3)]) (st' := [.int (2 * p1), .ref 42]) (S1 := (ip_upI S 30 19 ((S.1 30 19) + 1))) rfl ?_
            obtain ⟨zv12, hzv12, h⟩ := ip_bind h
            refine ip_Ev.iald rfl hzv12 ?_
            refine ip_Ev.steps 1 (pc' := 93) (lv' := [some (.ref 30), some (.int p1), some (.int p2), some (.int p3)]) (st' := [.int 2, .int zv12]) (S1 := (ip_upI S 30 19 ((S.1 30 19) + 1))) rfl ?_
            refine ip_Ev.iff2 rfl rfl ip_cNe (fun zhc13 => ?_) (fun zhc13 => ?_)
            · rw [if_neg zhc13] at h
              exact E_M_ask_123 h
            · rw [if_pos (Decidable.of_not_not zhc13)] at h
              refine ip_Ev.steps 7 (pc' := 105) (lv' := [some (.ref 30), some (.int p1), some (.int p2), some (.int p3)]) (st' := [.int ((2 * p1) + 1), .ref 42]) (S1 := (ip_upI S 30 19 ((S.1 30 19) + 1))) rfl ?_
              obtain ⟨zv14, hzv14, h⟩ := ip_bind h
              refine ip_Ev.iald rfl hzv14 ?_
              refine ip_Ev.iff1 rfl rfl ip_cNe (fun zhc15 => ?_) (fun zhc15 => ?_)
              · rw [if_neg zhc15] at h
                exact E_M_ask_123 h
              · rw [if_pos (Decidable.of_not_not zhc15)] at h
                refine ip_Ev.steps 8 (pc' := 119) (lv' := [some (.ref 30), some (.int p1), some (.int p2), some (.int p3)]) (st' := [.int 1, .int ((2 * p1) + 1), .ref 42]) (S1 := (ip_upI S 30 19 ((S.1 30 19) + 1))) rfl ?_
                obtain ⟨zS16, hzS16, h⟩ := ip_bind h
                refine ip_Ev.iast rfl hzS16 ?_
                refine ip_Ev.steps 1 (pc' := 122) (lv' := [some (.ref 30), some (.int p1), some (.int p2), some (.int p3)]) (st' := [.int (-2)]) (S1 := zS16) rfl ?_
                cases h
                exact ip_Ev.ret rfl
          · rw [if_pos (Decidable.of_not_not zhc11)] at h
            refine ip_Ev.steps 1 (pc' := 73) (lv' := [some (.ref 30), some (.int p1), some (.int p2), some (.int p3)]) (st' := [.int (-103)]) (S1 := S) rfl ?_
            cases h
            exact ip_Ev.ret rfl
      · rw [if_neg zhc3] at h
        refine ip_Ev.steps 1 (pc' := 27) (lv' := [some (.ref 30), some (.int p1), some (.int p2), some (.int p3)]) (st' := [.int (-102)]) (S1 := S) rfl ?_
        cases h
        exact ip_Ev.ret rfl
    · rw [if_neg zhc2] at h
      refine ip_Ev.steps 1 (pc' := 17) (lv' := [some (.ref 30), some (.int p1), some (.int p2), some (.int p3)]) (st' := [.int (-101)]) (S1 := S) rfl ?_
      cases h
      exact ip_Ev.ret rfl
-- A_learn
def f_A_learn (p1 : Int32) (p2 : Int32) (p3 : Int32) (S : ip_St) : Option (Int32 × ip_St) := (if (f_A_isJudge p1 S) = false then some ((-101), S) else (if (f_A_isFact p2) = true then (if (f_A_isAnswer p3) = true then ((ip_aA 13 p1).bind fun zv4 => (if (f_A_bit (S.1 zv4 1) p2) = 1 then some ((-103), S) else ((f_J_worlds zv4 S).bind fun zv7 => ((f_A_where p2 p3).bind fun zv9 => (if (zv7 &&& zv9) = 0 then some ((-103), S) else ((f_J_worlds zv4 (f_J_know zv4 p2 p3 S)).bind fun zv12 => some ((f_G_bitCount zv12), (f_J_know zv4 p2 p3 S)))))))) else some ((-102), S)) else some ((-101), S)))
set_option maxRecDepth 10000 in
theorem T_A_learn {p1 : Int32} {p2 : Int32} {p3 : Int32} {S : ip_St} {r : Int32} {S9 : ip_St} (h : f_A_learn p1 p2 p3 S = some (r, S9)) : ip_Me 77 [.ref 0, .int p1, .int p2, .int p3] S (some (.int r)) S9 := by
  unfold f_A_learn at h
  refine ⟨[some (.ref 0), some (.int p1), some (.int p2), some (.int p3), none], rfl, ?_⟩
  refine ip_Ev.steps 2 (pc' := 2) (lv' := [some (.ref 0), some (.int p1), some (.int p2), some (.int p3), none]) (st' := [.int p1, .ref 0]) (S1 := S) rfl ?_
  refine ip_Ev.call (i := 40) (a := [.ref 0, .int p1]) (r := []) rfl (T_A_isJudge rfl) ?_
  show ip_Ev 77 5 [some (.ref 0), some (.int p1), some (.int p2), some (.int p3), none] [.int (ip_b2i (f_A_isJudge p1 S))] S _ _
  refine ip_Ev.iff1 rfl rfl ip_bEq (fun zhc1 => ?_) (fun zhc1 => ?_)
  · rw [if_pos zhc1] at h
    refine ip_Ev.steps 1 (pc' := 17) (lv' := [some (.ref 0), some (.int p1), some (.int p2), some (.int p3), none]) (st' := [.int (-101)]) (S1 := S) rfl ?_
    cases h
    exact ip_Ev.ret rfl
  · rw [if_neg zhc1] at h
    refine ip_Ev.steps 1 (pc' := 9) (lv' := [some (.ref 0), some (.int p1), some (.int p2), some (.int p3), none]) (st' := [.int p2]) (S1 := S) rfl ?_
    refine ip_Ev.call (i := 74) (a := [.int p2]) (r := []) rfl (T_A_isFact rfl) ?_
    show ip_Ev 77 12 [some (.ref 0), some (.int p1), some (.int p2), some (.int p3), none] [.int (ip_b2i (f_A_isFact p2))] S _ _
    refine ip_Ev.iff1 rfl rfl ip_bNe (fun zhc2 => ?_) (fun zhc2 => ?_)
    · rw [if_pos zhc2] at h
      refine ip_Ev.steps 1 (pc' := 19) (lv' := [some (.ref 0), some (.int p1), some (.int p2), some (.int p3), none]) (st' := [.int p3]) (S1 := S) rfl ?_
      refine ip_Ev.call (i := 75) (a := [.int p3]) (r := []) rfl (T_A_isAnswer rfl) ?_
      show ip_Ev 77 22 [some (.ref 0), some (.int p1), some (.int p2), some (.int p3), none] [.int (ip_b2i (f_A_isAnswer p3))] S _ _
      refine ip_Ev.iff1 rfl rfl ip_bNe (fun zhc3 => ?_) (fun zhc3 => ?_)
      · rw [if_pos zhc3] at h
        refine ip_Ev.steps 4 (pc' := 36) (lv' := [some (.ref 0), some (.int p1), some (.int p2), some (.int p3), none]) (st' := [.int p1, .ref 13]) (S1 := S) rfl ?_
        obtain ⟨zv4, hzv4, h⟩ := ip_bind h
        refine ip_Ev.aald rfl hzv4 ?_
        have hozv4 := ip_aA_ob hzv4
        refine ip_Ev.steps 2 (pc' := 41) (lv' := [some (.ref 0), some (.int p1), some (.int p2), some (.int p3), some (.ref zv4)]) (st' := [.ref zv4]) (S1 := S) rfl ?_
        refine ip_Ev.gfI rfl rfl hozv4 (by decide) ?_
        refine ip_Ev.steps 1 (pc' := 45) (lv' := [some (.ref 0), some (.int p1), some (.int p2), some (.int p3), some (.ref zv4)]) (st' := [.int p2, .int (S.1 zv4 1)]) (S1 := S) rfl ?_
        refine ip_Ev.call (i := 41) (a := [.int (S.1 zv4 1), .int p2]) (r := []) rfl (T_A_bit rfl) ?_
        show ip_Ev 77 48 [some (.ref 0), some (.int p1), some (.int p2), some (.int p3), some (.ref zv4)] [.int (f_A_bit (S.1 zv4 1) p2)] S _ _
        refine ip_Ev.steps 1 (pc' := 49) (lv' := [some (.ref 0), some (.int p1), some (.int p2), some (.int p3), some (.ref zv4)]) (st' := [.int 1, .int (f_A_bit (S.1 zv4 1) p2)]) (S1 := S) rfl ?_
        refine ip_Ev.iff2 rfl rfl ip_cEq (fun zhc5 => ?_) (fun zhc5 => ?_)
        · rw [if_pos zhc5] at h
          refine ip_Ev.steps 1 (pc' := 70) (lv' := [some (.ref 0), some (.int p1), some (.int p2), some (.int p3), some (.ref zv4)]) (st' := [.int (-103)]) (S1 := S) rfl ?_
          cases h
          exact ip_Ev.ret rfl
        · rw [if_neg zhc5] at h
          refine ip_Ev.steps 1 (pc' := 54) (lv' := [some (.ref 0), some (.int p1), some (.int p2), some (.int p3), some (.ref zv4)]) (st' := [.ref zv4]) (S1 := S) rfl ?_
          obtain ⟨zv7, hzq6, h⟩ := ip_bind h
          refine ip_Ev.callJ (i := 45) (b := zv4) (a := []) (r := []) rfl rfl rfl rfl hozv4 rfl rfl (T_J_worlds hozv4 hzq6) ?_
          show ip_Ev 77 57 [some (.ref 0), some (.int p1), some (.int p2), some (.int p3), some (.ref zv4)] [.long zv7] S _ _
          refine ip_Ev.steps 2 (pc' := 59) (lv' := [some (.ref 0), some (.int p1), some (.int p2), some (.int p3), some (.ref zv4)]) (st' := [.int p3, .int p2, .long zv7]) (S1 := S) rfl ?_
          obtain ⟨zv9, hzq8, h⟩ := ip_bind h
          refine ip_Ev.call (i := 43) (a := [.int p2, .int p3]) (r := [.long zv7]) rfl (T_A_where hzq8) ?_
          show ip_Ev 77 62 [some (.ref 0), some (.int p1), some (.int p2), some (.int p3), some (.ref zv4)] [.long zv9, .long zv7] S _ _
          refine ip_Ev.steps 3 (pc' := 65) (lv' := [some (.ref 0), some (.int p1), some (.int p2), some (.int p3), some (.ref zv4)]) (st' := [.int (lg_cmp (zv7 &&& zv9) 0)]) (S1 := S) rfl ?_
          refine ip_Ev.iff1 rfl rfl ip_lNe (fun zhc10 => ?_) (fun zhc10 => ?_)
          · rw [if_neg zhc10] at h
            refine ip_Ev.steps 3 (pc' := 75) (lv' := [some (.ref 0), some (.int p1), some (.int p2), some (.int p3), some (.ref zv4)]) (st' := [.int p3, .int p2, .ref zv4]) (S1 := S) rfl ?_
            refine ip_Ev.callJ (i := 25) (b := zv4) (a := [.int p2, .int p3]) (r := []) rfl rfl rfl rfl hozv4 rfl rfl (T_J_know hozv4 rfl) ?_
            show ip_Ev 77 78 [some (.ref 0), some (.int p1), some (.int p2), some (.int p3), some (.ref zv4)] [] (f_J_know zv4 p2 p3 S) _ _
            refine ip_Ev.steps 1 (pc' := 80) (lv' := [some (.ref 0), some (.int p1), some (.int p2), some (.int p3), some (.ref zv4)]) (st' := [.ref zv4]) (S1 := (f_J_know zv4 p2 p3 S)) rfl ?_
            obtain ⟨zv12, hzq11, h⟩ := ip_bind h
            refine ip_Ev.callJ (i := 45) (b := zv4) (a := []) (r := []) rfl rfl rfl rfl hozv4 rfl rfl (T_J_worlds hozv4 hzq11) ?_
            show ip_Ev 77 83 [some (.ref 0), some (.int p1), some (.int p2), some (.int p3), some (.ref zv4)] [.long zv12] (f_J_know zv4 p2 p3 S) _ _
            refine ip_Ev.call (i := 31) (a := [.long zv12]) (r := []) rfl (T_G_bitCount rfl) ?_
            show ip_Ev 77 86 [some (.ref 0), some (.int p1), some (.int p2), some (.int p3), some (.ref zv4)] [.int (f_G_bitCount zv12)] (f_J_know zv4 p2 p3 S) _ _
            cases h
            exact ip_Ev.ret rfl
          · rw [if_pos (Decidable.of_not_not zhc10)] at h
            refine ip_Ev.steps 1 (pc' := 70) (lv' := [some (.ref 0), some (.int p1), some (.int p2), some (.int p3), some (.ref zv4)]) (st' := [.int (-103)]) (S1 := S) rfl ?_
            cases h
            exact ip_Ev.ret rfl
      · rw [if_neg zhc3] at h
        refine ip_Ev.steps 1 (pc' := 27) (lv' := [some (.ref 0), some (.int p1), some (.int p2), some (.int p3), none]) (st' := [.int (-102)]) (S1 := S) rfl ?_
        cases h
        exact ip_Ev.ret rfl
    · rw [if_neg zhc2] at h
      refine ip_Ev.steps 1 (pc' := 17) (lv' := [some (.ref 0), some (.int p1), some (.int p2), some (.int p3), none]) (st' := [.int (-101)]) (S1 := S) rfl ?_
      cases h
      exact ip_Ev.ret rfl
-- M_learn
def f_M_learn (p1 : Int32) (p2 : Int32) (p3 : Int32) (S : ip_St) : Option (Int32 × ip_St) := (if (f_M_isJudge p1 S) = false then some ((-101), S) else (if (f_M_isFact p2) = true then (if (f_M_isBit p3) = true then ((ip_aI S 43 ((6 * p1) + p2)).bind fun zv4 => (if zv4 = (-1) then ((f_M_waysOf p1 S).bind fun zv7 => ((f_M_rowOf p2 S).bind fun zv9 => (if (zv7 &&& (f_M_keptIf zv9 p3)) = 0 then some ((-103), S) else ((ip_wI S 43 ((6 * p1) + p2) p3).bind fun zS11 => ((f_M_waysOf p1 zS11).bind fun zv13 => ((f_M_ones zv13).bind fun zv15 => some (zv15, zS11))))))) else some ((-103), S))) else some ((-102), S)) else some ((-101), S)))
set_option maxRecDepth 10000 in
theorem T_M_learn {p1 : Int32} {p2 : Int32} {p3 : Int32} {S : ip_St} {r : Int32} {S9 : ip_St} (h : f_M_learn p1 p2 p3 S = some (r, S9)) : ip_Me 164 [.ref 30, .int p1, .int p2, .int p3] S (some (.int r)) S9 := by
  unfold f_M_learn at h
  refine ⟨[some (.ref 30), some (.int p1), some (.int p2), some (.int p3)], rfl, ?_⟩
  refine ip_Ev.steps 2 (pc' := 2) (lv' := [some (.ref 30), some (.int p1), some (.int p2), some (.int p3)]) (st' := [.int p1, .ref 30]) (S1 := S) rfl ?_
  refine ip_Ev.call (i := 135) (a := [.ref 30, .int p1]) (r := []) rfl (T_M_isJudge rfl) ?_
  show ip_Ev 164 5 [some (.ref 30), some (.int p1), some (.int p2), some (.int p3)] [.int (ip_b2i (f_M_isJudge p1 S))] S _ _
  refine ip_Ev.iff1 rfl rfl ip_bEq (fun zhc1 => ?_) (fun zhc1 => ?_)
  · rw [if_pos zhc1] at h
    refine ip_Ev.steps 1 (pc' := 17) (lv' := [some (.ref 30), some (.int p1), some (.int p2), some (.int p3)]) (st' := [.int (-101)]) (S1 := S) rfl ?_
    cases h
    exact ip_Ev.ret rfl
  · rw [if_neg zhc1] at h
    refine ip_Ev.steps 1 (pc' := 9) (lv' := [some (.ref 30), some (.int p1), some (.int p2), some (.int p3)]) (st' := [.int p2]) (S1 := S) rfl ?_
    refine ip_Ev.call (i := 161) (a := [.int p2]) (r := []) rfl (T_M_isFact rfl) ?_
    show ip_Ev 164 12 [some (.ref 30), some (.int p1), some (.int p2), some (.int p3)] [.int (ip_b2i (f_M_isFact p2))] S _ _
    refine ip_Ev.iff1 rfl rfl ip_bNe (fun zhc2 => ?_) (fun zhc2 => ?_)
    · rw [if_pos zhc2] at h
      refine ip_Ev.steps 1 (pc' := 19) (lv' := [some (.ref 30), some (.int p1), some (.int p2), some (.int p3)]) (st' := [.int p3]) (S1 := S) rfl ?_
      refine ip_Ev.call (i := 162) (a := [.int p3]) (r := []) rfl (T_M_isBit rfl) ?_
      show ip_Ev 164 22 [some (.ref 30), some (.int p1), some (.int p2), some (.int p3)] [.int (ip_b2i (f_M_isBit p3))] S _ _
      refine ip_Ev.iff1 rfl rfl ip_bNe (fun zhc3 => ?_) (fun zhc3 => ?_)
      · rw [if_pos zhc3] at h
        refine ip_Ev.steps 7 (pc' := 38) (lv' := [some (.ref 30), some (.int p1), some (.int p2), some (.int p3)]) (st' := [.int ((6 * p1) + p2), .ref 43]) (S1 := S) rfl ?_
        obtain ⟨zv4, hzv4, h⟩ := ip_bind h
        refine ip_Ev.iald rfl hzv4 ?_
        refine ip_Ev.steps 1 (pc' := 40) (lv' := [some (.ref 30), some (.int p1), some (.int p2), some (.int p3)]) (st' := [.int (-1), .int zv4]) (S1 := S) rfl ?_
        refine ip_Ev.iff2 rfl rfl ip_cNe (fun zhc5 => ?_) (fun zhc5 => ?_)
        · rw [if_neg zhc5] at h
          refine ip_Ev.steps 1 (pc' := 65) (lv' := [some (.ref 30), some (.int p1), some (.int p2), some (.int p3)]) (st' := [.int (-103)]) (S1 := S) rfl ?_
          cases h
          exact ip_Ev.ret rfl
        · rw [if_pos (Decidable.of_not_not zhc5)] at h
          refine ip_Ev.steps 2 (pc' := 45) (lv' := [some (.ref 30), some (.int p1), some (.int p2), some (.int p3)]) (st' := [.int p1, .ref 30]) (S1 := S) rfl ?_
          obtain ⟨zv7, hzq6, h⟩ := ip_bind h
          refine ip_Ev.call (i := 138) (a := [.ref 30, .int p1]) (r := []) rfl (T_M_waysOf hzq6) ?_
          show ip_Ev 164 48 [some (.ref 30), some (.int p1), some (.int p2), some (.int p3)] [.long zv7] S _ _
          refine ip_Ev.steps 2 (pc' := 50) (lv' := [some (.ref 30), some (.int p1), some (.int p2), some (.int p3)]) (st' := [.int p2, .ref 30, .long zv7]) (S1 := S) rfl ?_
          obtain ⟨zv9, hzq8, h⟩ := ip_bind h
          refine ip_Ev.call (i := 118) (a := [.ref 30, .int p2]) (r := [.long zv7]) rfl (T_M_rowOf hzq8) ?_
          show ip_Ev 164 53 [some (.ref 30), some (.int p1), some (.int p2), some (.int p3)] [.long zv9, .long zv7] S _ _
          refine ip_Ev.steps 1 (pc' := 54) (lv' := [some (.ref 30), some (.int p1), some (.int p2), some (.int p3)]) (st' := [.int p3, .long zv9, .long zv7]) (S1 := S) rfl ?_
          refine ip_Ev.call (i := 136) (a := [.long zv9, .int p3]) (r := [.long zv7]) rfl (T_M_keptIf rfl) ?_
          show ip_Ev 164 57 [some (.ref 30), some (.int p1), some (.int p2), some (.int p3)] [.long (f_M_keptIf zv9 p3), .long zv7] S _ _
          refine ip_Ev.steps 3 (pc' := 60) (lv' := [some (.ref 30), some (.int p1), some (.int p2), some (.int p3)]) (st' := [.int (lg_cmp (zv7 &&& (f_M_keptIf zv9 p3)) 0)]) (S1 := S) rfl ?_
          refine ip_Ev.iff1 rfl rfl ip_lNe (fun zhc10 => ?_) (fun zhc10 => ?_)
          · rw [if_neg zhc10] at h
            refine ip_Ev.steps 8 (pc' := 77) (lv' := [some (.ref 30), some (.int p1), some (.int p2), some (.int p3)]) (st' := [.int p3, .int ((6 * p1) + p2), .ref 43]) (S1 := S) rfl ?_
            obtain ⟨zS11, hzS11, h⟩ := ip_bind h
            refine ip_Ev.iast rfl hzS11 ?_
            refine ip_Ev.steps 2 (pc' := 80) (lv' := [some (.ref 30), some (.int p1), some (.int p2), some (.int p3)]) (st' := [.int p1, .ref 30]) (S1 := zS11) rfl ?_
            obtain ⟨zv13, hzq12, h⟩ := ip_bind h
            refine ip_Ev.call (i := 138) (a := [.ref 30, .int p1]) (r := []) rfl (T_M_waysOf hzq12) ?_
            show ip_Ev 164 83 [some (.ref 30), some (.int p1), some (.int p2), some (.int p3)] [.long zv13] zS11 _ _
            obtain ⟨zv15, hzq14, h⟩ := ip_bind h
            refine ip_Ev.call (i := 127) (a := [.long zv13]) (r := []) rfl (T_M_ones hzq14) ?_
            show ip_Ev 164 86 [some (.ref 30), some (.int p1), some (.int p2), some (.int p3)] [.int zv15] zS11 _ _
            cases h
            exact ip_Ev.ret rfl
          · rw [if_pos (Decidable.of_not_not zhc10)] at h
            refine ip_Ev.steps 1 (pc' := 65) (lv' := [some (.ref 30), some (.int p1), some (.int p2), some (.int p3)]) (st' := [.int (-103)]) (S1 := S) rfl ?_
            cases h
            exact ip_Ev.ret rfl
      · rw [if_neg zhc3] at h
        refine ip_Ev.steps 1 (pc' := 27) (lv' := [some (.ref 30), some (.int p1), some (.int p2), some (.int p3)]) (st' := [.int (-102)]) (S1 := S) rfl ?_
        cases h
        exact ip_Ev.ret rfl
    · rw [if_neg zhc2] at h
      refine ip_Ev.steps 1 (pc' := 17) (lv' := [some (.ref 30), some (.int p1), some (.int p2), some (.int p3)]) (st' := [.int (-101)]) (S1 := S) rfl ?_
      cases h
      exact ip_Ev.ret rfl
-- A_adjourn
def f_A_adjourn (p1 : Int32) (S : ip_St) : Option (Int32 × ip_St) := (if (f_A_isJudge p1 S) = true then ((ip_aA 13 p1).bind fun zv2 => some ((f_I_bitCount (S.1 zv2 3)), (f_J_unhear zv2 S))) else some ((-101), S))
set_option maxRecDepth 10000 in
theorem T_A_adjourn {p1 : Int32} {S : ip_St} {r : Int32} {S9 : ip_St} (h : f_A_adjourn p1 S = some (r, S9)) : ip_Me 78 [.ref 0, .int p1] S (some (.int r)) S9 := by
  unfold f_A_adjourn at h
  refine ⟨[some (.ref 0), some (.int p1), none, none], rfl, ?_⟩
  refine ip_Ev.steps 2 (pc' := 2) (lv' := [some (.ref 0), some (.int p1), none, none]) (st' := [.int p1, .ref 0]) (S1 := S) rfl ?_
  refine ip_Ev.call (i := 40) (a := [.ref 0, .int p1]) (r := []) rfl (T_A_isJudge rfl) ?_
  show ip_Ev 78 5 [some (.ref 0), some (.int p1), none, none] [.int (ip_b2i (f_A_isJudge p1 S))] S _ _
  refine ip_Ev.iff1 rfl rfl ip_bNe (fun zhc1 => ?_) (fun zhc1 => ?_)
  · rw [if_pos zhc1] at h
    refine ip_Ev.steps 4 (pc' := 19) (lv' := [some (.ref 0), some (.int p1), none, none]) (st' := [.int p1, .ref 13]) (S1 := S) rfl ?_
    obtain ⟨zv2, hzv2, h⟩ := ip_bind h
    refine ip_Ev.aald rfl hzv2 ?_
    have hozv2 := ip_aA_ob hzv2
    refine ip_Ev.steps 2 (pc' := 22) (lv' := [some (.ref 0), some (.int p1), some (.ref zv2), none]) (st' := [.ref zv2]) (S1 := S) rfl ?_
    refine ip_Ev.gfI rfl rfl hozv2 (by decide) ?_
    refine ip_Ev.call (i := 58) (a := [.int (S.1 zv2 3)]) (r := []) rfl (T_I_bitCount rfl) ?_
    show ip_Ev 78 28 [some (.ref 0), some (.int p1), some (.ref zv2), none] [.int (f_I_bitCount (S.1 zv2 3))] S _ _
    refine ip_Ev.steps 2 (pc' := 30) (lv' := [some (.ref 0), some (.int p1), some (.ref zv2), some (.int (f_I_bitCount (S.1 zv2 3)))]) (st' := [.ref zv2]) (S1 := S) rfl ?_
    refine ip_Ev.callJ (i := 23) (b := zv2) (a := []) (r := []) rfl rfl rfl rfl hozv2 rfl rfl (T_J_unhear hozv2 rfl) ?_
    show ip_Ev 78 33 [some (.ref 0), some (.int p1), some (.ref zv2), some (.int (f_I_bitCount (S.1 zv2 3)))] [] (f_J_unhear zv2 S) _ _
    refine ip_Ev.steps 1 (pc' := 34) (lv' := [some (.ref 0), some (.int p1), some (.ref zv2), some (.int (f_I_bitCount (S.1 zv2 3)))]) (st' := [.int (f_I_bitCount (S.1 zv2 3))]) (S1 := (f_J_unhear zv2 S)) rfl ?_
    cases h
    exact ip_Ev.ret rfl
  · rw [if_neg zhc1] at h
    refine ip_Ev.steps 1 (pc' := 10) (lv' := [some (.ref 0), some (.int p1), none, none]) (st' := [.int (-101)]) (S1 := S) rfl ?_
    cases h
    exact ip_Ev.ret rfl
-- M_adjourn
def f_M_adjourn_19 : Nat → Int32 → Int32 → Int32 → ip_St → Option (Int32 × ip_St)
  | 0, _, _, _, _ => none
  | n + 1, x1, x2, x3, S => (if 6 ≤ x3 then ((ip_wI S 42 ((2 * x1) + 1) 0).bind fun zS2 => some (x2, zS2)) else ((ip_wI S 44 ((6 * x1) + x3) (-1)).bind fun zS3 => (f_M_adjourn_19 n x1 x2 (x3 + 1) zS3)))
set_option maxRecDepth 10000 in
theorem E_M_adjourn_19 : ∀ (n : Nat) {x1 : Int32} {x2 : Int32} {x3 : Int32} {S : ip_St} {r : Int32} {S9 : ip_St}, f_M_adjourn_19 n x1 x2 x3 S = some (r, S9) → ip_Ev 165 19 [some (.ref 30), some (.int x1), some (.int x2), some (.int x3)] [] S (some (.int r)) S9 := by
  intro n
  induction n with
  | zero =>
    intro x1 x2 x3 S r S9 h
    cases h
  | succ n ih =>
    intro x1 x2 x3 S r S9 h
    rw [f_M_adjourn_19] at h
    refine ip_Ev.steps 2 (pc' := 22) (lv' := [some (.ref 30), some (.int x1), some (.int x2), some (.int x3)]) (st' := [.int 6, .int x3]) (S1 := S) rfl ?_
    refine ip_Ev.iff2 rfl rfl ip_cGe (fun zhc1 => ?_) (fun zhc1 => ?_)
    · rw [if_pos zhc1] at h
      refine ip_Ev.steps 8 (pc' := 53) (lv' := [some (.ref 30), some (.int x1), some (.int x2), some (.int x3)]) (st' := [.int 0, .int ((2 * x1) + 1), .ref 42]) (S1 := S) rfl ?_
      obtain ⟨zS2, hzS2, h⟩ := ip_bind h
      refine ip_Ev.iast rfl hzS2 ?_
      refine ip_Ev.steps 1 (pc' := 55) (lv' := [some (.ref 30), some (.int x1), some (.int x2), some (.int x3)]) (st' := [.int x2]) (S1 := zS2) rfl ?_
      cases h
      exact ip_Ev.ret rfl
    · rw [if_neg zhc1] at h
      refine ip_Ev.steps 8 (pc' := 36) (lv' := [some (.ref 30), some (.int x1), some (.int x2), some (.int x3)]) (st' := [.int (-1), .int ((6 * x1) + x3), .ref 44]) (S1 := S) rfl ?_
      obtain ⟨zS3, hzS3, h⟩ := ip_bind h
      refine ip_Ev.iast rfl hzS3 ?_
      refine ip_Ev.steps 2 (pc' := 19) (lv' := [some (.ref 30), some (.int x1), some (.int x2), some (.int (x3 + 1))]) (st' := []) (S1 := zS3) rfl ?_
      exact ih h
def f_M_adjourn (p1 : Int32) (S : ip_St) : Option (Int32 × ip_St) := (if (f_M_isJudge p1 S) = true then ((f_M_heardMany p1 S).bind fun zv3 => (f_M_adjourn_19 ip_FU p1 zv3 0 S)) else some ((-101), S))
set_option maxRecDepth 10000 in
theorem T_M_adjourn {p1 : Int32} {S : ip_St} {r : Int32} {S9 : ip_St} (h : f_M_adjourn p1 S = some (r, S9)) : ip_Me 165 [.ref 30, .int p1] S (some (.int r)) S9 := by
  unfold f_M_adjourn at h
  refine ⟨[some (.ref 30), some (.int p1), none, none], rfl, ?_⟩
  refine ip_Ev.steps 2 (pc' := 2) (lv' := [some (.ref 30), some (.int p1), none, none]) (st' := [.int p1, .ref 30]) (S1 := S) rfl ?_
  refine ip_Ev.call (i := 135) (a := [.ref 30, .int p1]) (r := []) rfl (T_M_isJudge rfl) ?_
  show ip_Ev 165 5 [some (.ref 30), some (.int p1), none, none] [.int (ip_b2i (f_M_isJudge p1 S))] S _ _
  refine ip_Ev.iff1 rfl rfl ip_bNe (fun zhc1 => ?_) (fun zhc1 => ?_)
  · rw [if_pos zhc1] at h
    refine ip_Ev.steps 2 (pc' := 13) (lv' := [some (.ref 30), some (.int p1), none, none]) (st' := [.int p1, .ref 30]) (S1 := S) rfl ?_
    obtain ⟨zv3, hzq2, h⟩ := ip_bind h
    refine ip_Ev.call (i := 148) (a := [.ref 30, .int p1]) (r := []) rfl (T_M_heardMany hzq2) ?_
    show ip_Ev 165 16 [some (.ref 30), some (.int p1), none, none] [.int zv3] S _ _
    refine ip_Ev.steps 3 (pc' := 19) (lv' := [some (.ref 30), some (.int p1), some (.int zv3), some (.int 0)]) (st' := []) (S1 := S) rfl ?_
    exact E_M_adjourn_19 ip_FU h
  · rw [if_neg zhc1] at h
    refine ip_Ev.steps 1 (pc' := 10) (lv' := [some (.ref 30), some (.int p1), none, none]) (st' := [.int (-101)]) (S1 := S) rfl ?_
    cases h
    exact ip_Ev.ret rfl
-- A_bestFind
def f_A_bestFind_53 : Nat → Int32 → Int64 → Int64 → Int32 → Int32 → Int32 → Int32 → ip_St → Option (Int32)
  | 0, _, _, _, _, _, _, _, _ => none
  | n + 1, x2, x3, x5, x7, x8, x9, x10, S => (if 64 ≤ x10 then some x8 else (if (x10 &&& x7) = 0 then (if x2 < (f_I_bitCount x10) then (f_A_bestFind_53 n x2 x3 x5 x7 x8 x9 (x10 + 1) S) else ((f_A_sureWays x3 x5 x10).bind fun zv5 => (if x9 < (f_G_bitCount zv5) then (f_A_bestFind_53 n x2 x3 x5 x7 x10 (f_G_bitCount zv5) (x10 + 1) S) else (if (f_G_bitCount zv5) = x9 then (if (f_I_bitCount x8) ≤ (f_I_bitCount x10) then (f_A_bestFind_53 n x2 x3 x5 x7 x8 x9 (x10 + 1) S) else (f_A_bestFind_53 n x2 x3 x5 x7 x10 (f_G_bitCount zv5) (x10 + 1) S)) else (f_A_bestFind_53 n x2 x3 x5 x7 x8 x9 (x10 + 1) S))))) else (f_A_bestFind_53 n x2 x3 x5 x7 x8 x9 (x10 + 1) S)))
set_option maxRecDepth 10000 in
theorem E_A_bestFind_53 : ∀ (n : Nat) {x2 : Int32} {x3 : Int64} {x5 : Int64} {x7 : Int32} {x8 : Int32} {x9 : Int32} {x10 : Int32} {S : ip_St} {r : Int32} {d0 : Option Value} {d1 : Option Value} {d11 : Option Value} {d12 : Option Value}, f_A_bestFind_53 n x2 x3 x5 x7 x8 x9 x10 S = some r → ip_Ev 79 53 [d0, d1, some (.int x2), some (.long x3), none, some (.long x5), none, some (.int x7), some (.int x8), some (.int x9), some (.int x10), d11, d12] [] S (some (.int r)) S := by
  intro n
  induction n with
  | zero =>
    intro x2 x3 x5 x7 x8 x9 x10 S r d0 d1 d11 d12 h
    cases h
  | succ n ih =>
    intro x2 x3 x5 x7 x8 x9 x10 S r d0 d1 d11 d12 h
    rw [f_A_bestFind_53] at h
    refine ip_Ev.steps 2 (pc' := 57) (lv' := [d0, d1, some (.int x2), some (.long x3), none, some (.long x5), none, some (.int x7), some (.int x8), some (.int x9), some (.int x10), d11, d12]) (st' := [.int 64, .int x10]) (S1 := S) rfl ?_
    refine ip_Ev.iff2 rfl rfl ip_cGe (fun zhc1 => ?_) (fun zhc1 => ?_)
    · rw [if_pos zhc1] at h
      refine ip_Ev.steps 1 (pc' := 134) (lv' := [d0, d1, some (.int x2), some (.long x3), none, some (.long x5), none, some (.int x7), some (.int x8), some (.int x9), some (.int x10), d11, d12]) (st' := [.int x8]) (S1 := S) rfl ?_
      cases h
      exact ip_Ev.ret rfl
    · rw [if_neg zhc1] at h
      refine ip_Ev.steps 1 (pc' := 62) (lv' := [d0, d1, some (.int x2), some (.long x3), none, some (.long x5), none, some (.int x7), some (.int x8), some (.int x9), some (.int x10), d11, d12]) (st' := [.int x10]) (S1 := S) rfl ?_
      refine ip_Ev.call (i := 58) (a := [.int x10]) (r := []) rfl (T_I_bitCount rfl) ?_
      show ip_Ev 79 65 [d0, d1, some (.int x2), some (.long x3), none, some (.long x5), none, some (.int x7), some (.int x8), some (.int x9), some (.int x10), d11, d12] [.int (f_I_bitCount x10)] S _ _
      refine ip_Ev.steps 4 (pc' := 72) (lv' := [d0, d1, some (.int x2), some (.long x3), none, some (.long x5), none, some (.int x7), some (.int x8), some (.int x9), some (.int x10), some (.int (f_I_bitCount x10)), d12]) (st' := [.int (x10 &&& x7)]) (S1 := S) rfl ?_
      refine ip_Ev.iff1 rfl rfl ip_cNe (fun zhc2 => ?_) (fun zhc2 => ?_)
      · rw [if_neg zhc2] at h
        refine ip_Ev.steps 2 (pc' := 53) (lv' := [d0, d1, some (.int x2), some (.long x3), none, some (.long x5), none, some (.int x7), some (.int x8), some (.int x9), some (.int (x10 + 1)), some (.int (f_I_bitCount x10)), d12]) (st' := []) (S1 := S) rfl ?_
        exact ih h
      · rw [if_pos (Decidable.of_not_not zhc2)] at h
        refine ip_Ev.steps 2 (pc' := 78) (lv' := [d0, d1, some (.int x2), some (.long x3), none, some (.long x5), none, some (.int x7), some (.int x8), some (.int x9), some (.int x10), some (.int (f_I_bitCount x10)), d12]) (st' := [.int x2, .int (f_I_bitCount x10)]) (S1 := S) rfl ?_
        refine ip_Ev.iff2 rfl rfl ip_cGt (fun zhc3 => ?_) (fun zhc3 => ?_)
        · rw [if_pos zhc3] at h
          refine ip_Ev.steps 2 (pc' := 53) (lv' := [d0, d1, some (.int x2), some (.long x3), none, some (.long x5), none, some (.int x7), some (.int x8), some (.int x9), some (.int (x10 + 1)), some (.int (f_I_bitCount x10)), d12]) (st' := []) (S1 := S) rfl ?_
          exact ih h
        · rw [if_neg zhc3] at h
          refine ip_Ev.steps 3 (pc' := 86) (lv' := [d0, d1, some (.int x2), some (.long x3), none, some (.long x5), none, some (.int x7), some (.int x8), some (.int x9), some (.int x10), some (.int (f_I_bitCount x10)), d12]) (st' := [.int x10, .long x5, .long x3]) (S1 := S) rfl ?_
          obtain ⟨zv5, hzq4, h⟩ := ip_bind h
          refine ip_Ev.call (i := 59) (a := [.long x3, .long x5, .int x10]) (r := []) rfl (T_A_sureWays hzq4) ?_
          show ip_Ev 79 89 [d0, d1, some (.int x2), some (.long x3), none, some (.long x5), none, some (.int x7), some (.int x8), some (.int x9), some (.int x10), some (.int (f_I_bitCount x10)), d12] [.long zv5] S _ _
          refine ip_Ev.call (i := 31) (a := [.long zv5]) (r := []) rfl (T_G_bitCount rfl) ?_
          show ip_Ev 79 92 [d0, d1, some (.int x2), some (.long x3), none, some (.long x5), none, some (.int x7), some (.int x8), some (.int x9), some (.int x10), some (.int (f_I_bitCount x10)), d12] [.int (f_G_bitCount zv5)] S _ _
          refine ip_Ev.steps 3 (pc' := 98) (lv' := [d0, d1, some (.int x2), some (.long x3), none, some (.long x5), none, some (.int x7), some (.int x8), some (.int x9), some (.int x10), some (.int (f_I_bitCount x10)), some (.int (f_G_bitCount zv5))]) (st' := [.int x9, .int (f_G_bitCount zv5)]) (S1 := S) rfl ?_
          refine ip_Ev.iff2 rfl rfl ip_cGt (fun zhc6 => ?_) (fun zhc6 => ?_)
          · rw [if_pos zhc6] at h
            refine ip_Ev.steps 6 (pc' := 53) (lv' := [d0, d1, some (.int x2), some (.long x3), none, some (.long x5), none, some (.int x7), some (.int x10), some (.int (f_G_bitCount zv5)), some (.int (x10 + 1)), some (.int (f_I_bitCount x10)), some (.int (f_G_bitCount zv5))]) (st' := []) (S1 := S) rfl ?_
            exact ih h
          · rw [if_neg zhc6] at h
            refine ip_Ev.steps 2 (pc' := 105) (lv' := [d0, d1, some (.int x2), some (.long x3), none, some (.long x5), none, some (.int x7), some (.int x8), some (.int x9), some (.int x10), some (.int (f_I_bitCount x10)), some (.int (f_G_bitCount zv5))]) (st' := [.int x9, .int (f_G_bitCount zv5)]) (S1 := S) rfl ?_
            refine ip_Ev.iff2 rfl rfl ip_cNe (fun zhc7 => ?_) (fun zhc7 => ?_)
            · rw [if_neg zhc7] at h
              refine ip_Ev.steps 2 (pc' := 53) (lv' := [d0, d1, some (.int x2), some (.long x3), none, some (.long x5), none, some (.int x7), some (.int x8), some (.int x9), some (.int (x10 + 1)), some (.int (f_I_bitCount x10)), some (.int (f_G_bitCount zv5))]) (st' := []) (S1 := S) rfl ?_
              exact ih h
            · rw [if_pos (Decidable.of_not_not zhc7)] at h
              refine ip_Ev.steps 2 (pc' := 112) (lv' := [d0, d1, some (.int x2), some (.long x3), none, some (.long x5), none, some (.int x7), some (.int x8), some (.int x9), some (.int x10), some (.int (f_I_bitCount x10)), some (.int (f_G_bitCount zv5))]) (st' := [.int x8, .int (f_I_bitCount x10)]) (S1 := S) rfl ?_
              refine ip_Ev.call (i := 58) (a := [.int x8]) (r := [.int (f_I_bitCount x10)]) rfl (T_I_bitCount rfl) ?_
              show ip_Ev 79 115 [d0, d1, some (.int x2), some (.long x3), none, some (.long x5), none, some (.int x7), some (.int x8), some (.int x9), some (.int x10), some (.int (f_I_bitCount x10)), some (.int (f_G_bitCount zv5))] [.int (f_I_bitCount x8), .int (f_I_bitCount x10)] S _ _
              refine ip_Ev.iff2 rfl rfl ip_cGe (fun zhc8 => ?_) (fun zhc8 => ?_)
              · rw [if_pos zhc8] at h
                refine ip_Ev.steps 2 (pc' := 53) (lv' := [d0, d1, some (.int x2), some (.long x3), none, some (.long x5), none, some (.int x7), some (.int x8), some (.int x9), some (.int (x10 + 1)), some (.int (f_I_bitCount x10)), some (.int (f_G_bitCount zv5))]) (st' := []) (S1 := S) rfl ?_
                exact ih h
              · rw [if_neg zhc8] at h
                refine ip_Ev.steps 6 (pc' := 53) (lv' := [d0, d1, some (.int x2), some (.long x3), none, some (.long x5), none, some (.int x7), some (.int x10), some (.int (f_G_bitCount zv5)), some (.int (x10 + 1)), some (.int (f_I_bitCount x10)), some (.int (f_G_bitCount zv5))]) (st' := []) (S1 := S) rfl ?_
                exact ih h
def f_A_bestFind (p1 : Nat) (p2 : Int32) (S : ip_St) : Option (Int32) := ((f_J_worlds p1 S).bind fun zv2 => ((f_A_freed (S.1 p1 0) (S.2 17 0)).bind fun zv4 => ((f_A_sureWays zv2 zv4 0).bind fun zv6 => (f_A_bestFind_53 ip_FU p2 zv2 zv4 ((S.1 p1 1) ||| (S.1 p1 3)) 0 (f_G_bitCount zv6) 1 S))))
set_option maxRecDepth 10000 in
theorem T_A_bestFind {p1 : Nat} {p2 : Int32} {S : ip_St} {r : Int32} (hp1 : ip_ob p1 = some 1) (h : f_A_bestFind p1 p2 S = some r) : ip_Me 79 [.ref 0, .ref p1, .int p2] S (some (.int r)) S := by
  unfold f_A_bestFind at h
  refine ⟨[some (.ref 0), some (.ref p1), some (.int p2), none, none, none, none, none, none, none, none, none, none], rfl, ?_⟩
  refine ip_Ev.steps 1 (pc' := 1) (lv' := [some (.ref 0), some (.ref p1), some (.int p2), none, none, none, none, none, none, none, none, none, none]) (st' := [.ref p1]) (S1 := S) rfl ?_
  obtain ⟨zv2, hzq1, h⟩ := ip_bind h
  refine ip_Ev.callJ (i := 45) (b := p1) (a := []) (r := []) rfl rfl rfl rfl hp1 rfl rfl (T_J_worlds hp1 hzq1) ?_
  show ip_Ev 79 4 [some (.ref 0), some (.ref p1), some (.int p2), none, none, none, none, none, none, none, none, none, none] [.long zv2] S _ _
  refine ip_Ev.steps 2 (pc' := 6) (lv' := [some (.ref 0), some (.ref p1), some (.int p2), some (.long zv2), none, none, none, none, none, none, none, none, none]) (st' := [.ref p1]) (S1 := S) rfl ?_
  refine ip_Ev.gfI rfl rfl hp1 (by decide) ?_
  refine ip_Ev.steps 4 (pc' := 19) (lv' := [some (.ref 0), some (.ref p1), some (.int p2), some (.long zv2), none, none, none, none, none, none, none, none, none]) (st' := [.long (S.2 17 0), .int (S.1 p1 0)]) (S1 := S) rfl ?_
  obtain ⟨zv4, hzq3, h⟩ := ip_bind h
  refine ip_Ev.call (i := 47) (a := [.int (S.1 p1 0), .long (S.2 17 0)]) (r := []) rfl (T_A_freed hzq3) ?_
  show ip_Ev 79 22 [some (.ref 0), some (.ref p1), some (.int p2), some (.long zv2), none, none, none, none, none, none, none, none, none] [.long zv4] S _ _
  refine ip_Ev.steps 2 (pc' := 25) (lv' := [some (.ref 0), some (.ref p1), some (.int p2), some (.long zv2), none, some (.long zv4), none, none, none, none, none, none, none]) (st' := [.ref p1]) (S1 := S) rfl ?_
  refine ip_Ev.gfI rfl rfl hp1 (by decide) ?_
  refine ip_Ev.steps 1 (pc' := 29) (lv' := [some (.ref 0), some (.ref p1), some (.int p2), some (.long zv2), none, some (.long zv4), none, none, none, none, none, none, none]) (st' := [.ref p1, .int (S.1 p1 1)]) (S1 := S) rfl ?_
  refine ip_Ev.gfI rfl rfl hp1 (by decide) ?_
  refine ip_Ev.steps 7 (pc' := 42) (lv' := [some (.ref 0), some (.ref p1), some (.int p2), some (.long zv2), none, some (.long zv4), none, some (.int ((S.1 p1 1) ||| (S.1 p1 3))), some (.int 0), none, none, none, none]) (st' := [.int 0, .long zv4, .long zv2]) (S1 := S) rfl ?_
  obtain ⟨zv6, hzq5, h⟩ := ip_bind h
  refine ip_Ev.call (i := 59) (a := [.long zv2, .long zv4, .int 0]) (r := []) rfl (T_A_sureWays hzq5) ?_
  show ip_Ev 79 45 [some (.ref 0), some (.ref p1), some (.int p2), some (.long zv2), none, some (.long zv4), none, some (.int ((S.1 p1 1) ||| (S.1 p1 3))), some (.int 0), none, none, none, none] [.long zv6] S _ _
  refine ip_Ev.call (i := 31) (a := [.long zv6]) (r := []) rfl (T_G_bitCount rfl) ?_
  show ip_Ev 79 48 [some (.ref 0), some (.ref p1), some (.int p2), some (.long zv2), none, some (.long zv4), none, some (.int ((S.1 p1 1) ||| (S.1 p1 3))), some (.int 0), none, none, none, none] [.int (f_G_bitCount zv6)] S _ _
  refine ip_Ev.steps 3 (pc' := 53) (lv' := [some (.ref 0), some (.ref p1), some (.int p2), some (.long zv2), none, some (.long zv4), none, some (.int ((S.1 p1 1) ||| (S.1 p1 3))), some (.int 0), some (.int (f_G_bitCount zv6)), some (.int 1), none, none]) (st' := []) (S1 := S) rfl ?_
  exact E_A_bestFind_53 ip_FU h
-- A_find
def f_A_find (p1 : Int32) (p2 : Int32) (p3 : Int32) (S : ip_St) : Option (Int32) := (if (f_A_isJudge p1 S) = true then (if p2 < 1 then some (-102) else (if 3 < p2 then some (-102) else (if p3 < 0 then some (-102) else (if p3 ≤ 1 then ((ip_aA 13 p1).bind fun zv6 => ((f_A_bestFind zv6 p2 S).bind fun zv8 => (if p3 = 0 then some zv8 else ((f_J_worlds zv6 S).bind fun zv11 => ((f_A_freed (S.1 zv6 0) (S.2 17 0)).bind fun zv13 => ((f_A_sureWays zv11 zv13 zv8).bind fun zv15 => some (f_G_bitCount zv15))))))) else some (-102))))) else some (-101))
set_option maxRecDepth 10000 in
theorem T_A_find {p1 : Int32} {p2 : Int32} {p3 : Int32} {S : ip_St} {r : Int32} (h : f_A_find p1 p2 p3 S = some r) : ip_Me 80 [.ref 0, .int p1, .int p2, .int p3] S (some (.int r)) S := by
  unfold f_A_find at h
  refine ⟨[some (.ref 0), some (.int p1), some (.int p2), some (.int p3), none, none], rfl, ?_⟩
  refine ip_Ev.steps 2 (pc' := 2) (lv' := [some (.ref 0), some (.int p1), some (.int p2), some (.int p3), none, none]) (st' := [.int p1, .ref 0]) (S1 := S) rfl ?_
  refine ip_Ev.call (i := 40) (a := [.ref 0, .int p1]) (r := []) rfl (T_A_isJudge rfl) ?_
  show ip_Ev 80 5 [some (.ref 0), some (.int p1), some (.int p2), some (.int p3), none, none] [.int (ip_b2i (f_A_isJudge p1 S))] S _ _
  refine ip_Ev.iff1 rfl rfl ip_bNe (fun zhc1 => ?_) (fun zhc1 => ?_)
  · rw [if_pos zhc1] at h
    refine ip_Ev.steps 2 (pc' := 13) (lv' := [some (.ref 0), some (.int p1), some (.int p2), some (.int p3), none, none]) (st' := [.int 1, .int p2]) (S1 := S) rfl ?_
    refine ip_Ev.iff2 rfl rfl ip_cLt (fun zhc2 => ?_) (fun zhc2 => ?_)
    · rw [if_pos zhc2] at h
      refine ip_Ev.steps 1 (pc' := 32) (lv' := [some (.ref 0), some (.int p1), some (.int p2), some (.int p3), none, none]) (st' := [.int (-102)]) (S1 := S) rfl ?_
      cases h
      exact ip_Ev.ret rfl
    · rw [if_neg zhc2] at h
      refine ip_Ev.steps 2 (pc' := 18) (lv' := [some (.ref 0), some (.int p1), some (.int p2), some (.int p3), none, none]) (st' := [.int 3, .int p2]) (S1 := S) rfl ?_
      refine ip_Ev.iff2 rfl rfl ip_cGt (fun zhc3 => ?_) (fun zhc3 => ?_)
      · rw [if_pos zhc3] at h
        refine ip_Ev.steps 1 (pc' := 32) (lv' := [some (.ref 0), some (.int p1), some (.int p2), some (.int p3), none, none]) (st' := [.int (-102)]) (S1 := S) rfl ?_
        cases h
        exact ip_Ev.ret rfl
      · rw [if_neg zhc3] at h
        refine ip_Ev.steps 1 (pc' := 22) (lv' := [some (.ref 0), some (.int p1), some (.int p2), some (.int p3), none, none]) (st' := [.int p3]) (S1 := S) rfl ?_
        refine ip_Ev.iff1 rfl rfl ip_cLt (fun zhc4 => ?_) (fun zhc4 => ?_)
        · rw [if_pos zhc4] at h
          refine ip_Ev.steps 1 (pc' := 32) (lv' := [some (.ref 0), some (.int p1), some (.int p2), some (.int p3), none, none]) (st' := [.int (-102)]) (S1 := S) rfl ?_
          cases h
          exact ip_Ev.ret rfl
        · rw [if_neg zhc4] at h
          refine ip_Ev.steps 2 (pc' := 27) (lv' := [some (.ref 0), some (.int p1), some (.int p2), some (.int p3), none, none]) (st' := [.int 1, .int p3]) (S1 := S) rfl ?_
          refine ip_Ev.iff2 rfl rfl ip_cLe (fun zhc5 => ?_) (fun zhc5 => ?_)
          · rw [if_pos zhc5] at h
            refine ip_Ev.steps 4 (pc' := 41) (lv' := [some (.ref 0), some (.int p1), some (.int p2), some (.int p3), none, none]) (st' := [.int p1, .ref 13]) (S1 := S) rfl ?_
            obtain ⟨zv6, hzv6, h⟩ := ip_bind h
            refine ip_Ev.aald rfl hzv6 ?_
            have hozv6 := ip_aA_ob hzv6
            refine ip_Ev.steps 4 (pc' := 48) (lv' := [some (.ref 0), some (.int p1), some (.int p2), some (.int p3), some (.ref zv6), none]) (st' := [.int p2, .ref zv6, .ref 0]) (S1 := S) rfl ?_
            obtain ⟨zv8, hzq7, h⟩ := ip_bind h
            refine ip_Ev.call (i := 79) (a := [.ref 0, .ref zv6, .int p2]) (r := []) rfl (T_A_bestFind hozv6 hzq7) ?_
            show ip_Ev 80 51 [some (.ref 0), some (.int p1), some (.int p2), some (.int p3), some (.ref zv6), none] [.int zv8] S _ _
            refine ip_Ev.steps 2 (pc' := 54) (lv' := [some (.ref 0), some (.int p1), some (.int p2), some (.int p3), some (.ref zv6), some (.int zv8)]) (st' := [.int p3]) (S1 := S) rfl ?_
            refine ip_Ev.iff1 rfl rfl ip_cNe (fun zhc9 => ?_) (fun zhc9 => ?_)
            · rw [if_neg zhc9] at h
              refine ip_Ev.steps 1 (pc' := 62) (lv' := [some (.ref 0), some (.int p1), some (.int p2), some (.int p3), some (.ref zv6), some (.int zv8)]) (st' := [.ref zv6]) (S1 := S) rfl ?_
              obtain ⟨zv11, hzq10, h⟩ := ip_bind h
              refine ip_Ev.callJ (i := 45) (b := zv6) (a := []) (r := []) rfl rfl rfl rfl hozv6 rfl rfl (T_J_worlds hozv6 hzq10) ?_
              show ip_Ev 80 65 [some (.ref 0), some (.int p1), some (.int p2), some (.int p3), some (.ref zv6), some (.int zv8)] [.long zv11] S _ _
              refine ip_Ev.steps 1 (pc' := 67) (lv' := [some (.ref 0), some (.int p1), some (.int p2), some (.int p3), some (.ref zv6), some (.int zv8)]) (st' := [.ref zv6, .long zv11]) (S1 := S) rfl ?_
              refine ip_Ev.gfI rfl rfl hozv6 (by decide) ?_
              refine ip_Ev.steps 4 (pc' := 80) (lv' := [some (.ref 0), some (.int p1), some (.int p2), some (.int p3), some (.ref zv6), some (.int zv8)]) (st' := [.long (S.2 17 0), .int (S.1 zv6 0), .long zv11]) (S1 := S) rfl ?_
              obtain ⟨zv13, hzq12, h⟩ := ip_bind h
              refine ip_Ev.call (i := 47) (a := [.int (S.1 zv6 0), .long (S.2 17 0)]) (r := [.long zv11]) rfl (T_A_freed hzq12) ?_
              show ip_Ev 80 83 [some (.ref 0), some (.int p1), some (.int p2), some (.int p3), some (.ref zv6), some (.int zv8)] [.long zv13, .long zv11] S _ _
              refine ip_Ev.steps 1 (pc' := 85) (lv' := [some (.ref 0), some (.int p1), some (.int p2), some (.int p3), some (.ref zv6), some (.int zv8)]) (st' := [.int zv8, .long zv13, .long zv11]) (S1 := S) rfl ?_
              obtain ⟨zv15, hzq14, h⟩ := ip_bind h
              refine ip_Ev.call (i := 59) (a := [.long zv11, .long zv13, .int zv8]) (r := []) rfl (T_A_sureWays hzq14) ?_
              show ip_Ev 80 88 [some (.ref 0), some (.int p1), some (.int p2), some (.int p3), some (.ref zv6), some (.int zv8)] [.long zv15] S _ _
              refine ip_Ev.call (i := 31) (a := [.long zv15]) (r := []) rfl (T_G_bitCount rfl) ?_
              show ip_Ev 80 91 [some (.ref 0), some (.int p1), some (.int p2), some (.int p3), some (.ref zv6), some (.int zv8)] [.int (f_G_bitCount zv15)] S _ _
              cases h
              exact ip_Ev.ret rfl
            · rw [if_pos (Decidable.of_not_not zhc9)] at h
              refine ip_Ev.steps 1 (pc' := 59) (lv' := [some (.ref 0), some (.int p1), some (.int p2), some (.int p3), some (.ref zv6), some (.int zv8)]) (st' := [.int zv8]) (S1 := S) rfl ?_
              cases h
              exact ip_Ev.ret rfl
          · rw [if_neg zhc5] at h
            refine ip_Ev.steps 1 (pc' := 32) (lv' := [some (.ref 0), some (.int p1), some (.int p2), some (.int p3), none, none]) (st' := [.int (-102)]) (S1 := S) rfl ?_
            cases h
            exact ip_Ev.ret rfl
  · rw [if_neg zhc1] at h
    refine ip_Ev.steps 1 (pc' := 10) (lv' := [some (.ref 0), some (.int p1), some (.int p2), some (.int p3), none, none]) (st' := [.int (-101)]) (S1 := S) rfl ?_
    cases h
    exact ip_Ev.ret rfl
-- M_freeBy
def f_M_freeBy_19 (k6 : Int64 → Int64 → Int32 → Int32 → Int32 → ip_St → Option (Int32)) : Nat → Int64 → Int64 → Int32 → Int32 → Int32 → Int64 → Int32 → ip_St → Option (Int32)
  | 0, _, _, _, _, _, _, _, _ => none
  | n + 1, x1, x3, x5, x6, x7, x8, x10, S => (if 6 ≤ x10 then (if ((ip_lshr x1 x7) &&& 1) = 1 then (if (x8 &&& (x3 ^^^ (-1))) = 0 then (k6 x1 x3 x5 (x6 + 1) (x7 + 1) S) else (k6 x1 x3 x5 (x6 + 0) (x7 + 1) S)) else (k6 x1 x3 x5 (x6 + 0) (x7 + 1) S)) else (if ((ip_ishr x5 x10) &&& 1) = 1 then ((f_M_rowOf x10 S).bind fun zv6 => (f_M_freeBy_19 k6 n x1 x3 x5 x6 x7 (x8 &&& (f_M_keptIf zv6 ((ip_ishr x7 x10) &&& 1))) (x10 + 1) S)) else (f_M_freeBy_19 k6 n x1 x3 x5 x6 x7 (x8 &&& (-1)) (x10 + 1) S)))
set_option maxRecDepth 10000 in
theorem E_M_freeBy_19 {k6 : Int64 → Int64 → Int32 → Int32 → Int32 → ip_St → Option (Int32)} (hk6 : ∀ {x1 : Int64} {x3 : Int64} {x5 : Int32} {x6 : Int32} {x7 : Int32} {S : ip_St} {r : Int32} {d8 : Option Value} {d9 : Option Value} {d10 : Option Value}, k6 x1 x3 x5 x6 x7 S = some r → ip_Ev 166 6 [some (.ref 30), some (.long x1), none, some (.long x3), none, some (.int x5), some (.int x6), some (.int x7), d8, d9, d10] [] S (some (.int r)) S) : ∀ (n : Nat) {x1 : Int64} {x3 : Int64} {x5 : Int32} {x6 : Int32} {x7 : Int32} {x8 : Int64} {x10 : Int32} {S : ip_St} {r : Int32}, f_M_freeBy_19 k6 n x1 x3 x5 x6 x7 x8 x10 S = some r → ip_Ev 166 19 [some (.ref 30), some (.long x1), none, some (.long x3), none, some (.int x5), some (.int x6), some (.int x7), some (.long x8), none, some (.int x10)] [] S (some (.int r)) S := by
  intro n
  induction n with
  | zero =>
    intro x1 x3 x5 x6 x7 x8 x10 S r h
    cases h
  | succ n ih =>
    intro x1 x3 x5 x6 x7 x8 x10 S r h
    rw [f_M_freeBy_19] at h
    refine ip_Ev.steps 2 (pc' := 23) (lv' := [some (.ref 30), some (.long x1), none, some (.long x3), none, some (.int x5), some (.int x6), some (.int x7), some (.long x8), none, some (.int x10)]) (st' := [.int 6, .int x10]) (S1 := S) rfl ?_
    refine ip_Ev.iff2 rfl rfl ip_cGe (fun zhc1 => ?_) (fun zhc1 => ?_)
    · rw [if_pos zhc1] at h
      refine ip_Ev.steps 8 (pc' := 80) (lv' := [some (.ref 30), some (.long x1), none, some (.long x3), none, some (.int x5), some (.int x6), some (.int x7), some (.long x8), none, some (.int x10)]) (st' := [.int (lg_cmp ((ip_lshr x1 x7) &&& 1) 1), .int x6]) (S1 := S) rfl ?_
      refine ip_Ev.iff1 rfl rfl ip_lNe (fun zhc2 => ?_) (fun zhc2 => ?_)
      · rw [if_neg zhc2] at h
        refine ip_Ev.steps 5 (pc' := 6) (lv' := [some (.ref 30), some (.long x1), none, some (.long x3), none, some (.int x5), some (.int (x6 + 0)), some (.int (x7 + 1)), some (.long x8), none, some (.int x10)]) (st' := []) (S1 := S) rfl ?_
        exact hk6 h
      · rw [if_pos (Decidable.of_not_not zhc2)] at h
        refine ip_Ev.steps 7 (pc' := 93) (lv' := [some (.ref 30), some (.long x1), none, some (.long x3), none, some (.int x5), some (.int x6), some (.int x7), some (.long x8), none, some (.int x10)]) (st' := [.int (lg_cmp (x8 &&& (x3 ^^^ (-1))) 0), .int x6]) (S1 := S) rfl ?_
        refine ip_Ev.iff1 rfl rfl ip_lNe (fun zhc3 => ?_) (fun zhc3 => ?_)
        · rw [if_neg zhc3] at h
          refine ip_Ev.steps 5 (pc' := 6) (lv' := [some (.ref 30), some (.long x1), none, some (.long x3), none, some (.int x5), some (.int (x6 + 0)), some (.int (x7 + 1)), some (.long x8), none, some (.int x10)]) (st' := []) (S1 := S) rfl ?_
          exact hk6 h
        · rw [if_pos (Decidable.of_not_not zhc3)] at h
          refine ip_Ev.steps 6 (pc' := 6) (lv' := [some (.ref 30), some (.long x1), none, some (.long x3), none, some (.int x5), some (.int (x6 + 1)), some (.int (x7 + 1)), some (.long x8), none, some (.int x10)]) (st' := []) (S1 := S) rfl ?_
          exact hk6 h
    · rw [if_neg zhc1] at h
      refine ip_Ev.steps 7 (pc' := 36) (lv' := [some (.ref 30), some (.long x1), none, some (.long x3), none, some (.int x5), some (.int x6), some (.int x7), some (.long x8), none, some (.int x10)]) (st' := [.int 1, .int ((ip_ishr x5 x10) &&& 1), .long x8]) (S1 := S) rfl ?_
      refine ip_Ev.iff2 rfl rfl ip_cNe (fun zhc4 => ?_) (fun zhc4 => ?_)
      · rw [if_neg zhc4] at h
        refine ip_Ev.steps 5 (pc' := 19) (lv' := [some (.ref 30), some (.long x1), none, some (.long x3), none, some (.int x5), some (.int x6), some (.int x7), some (.long (x8 &&& (-1))), none, some (.int (x10 + 1))]) (st' := []) (S1 := S) rfl ?_
        exact ih h
      · rw [if_pos (Decidable.of_not_not zhc4)] at h
        refine ip_Ev.steps 2 (pc' := 42) (lv' := [some (.ref 30), some (.long x1), none, some (.long x3), none, some (.int x5), some (.int x6), some (.int x7), some (.long x8), none, some (.int x10)]) (st' := [.int x10, .ref 30, .long x8]) (S1 := S) rfl ?_
        obtain ⟨zv6, hzq5, h⟩ := ip_bind h
        refine ip_Ev.call (i := 118) (a := [.ref 30, .int x10]) (r := [.long x8]) rfl (T_M_rowOf hzq5) ?_
        show ip_Ev 166 45 [some (.ref 30), some (.long x1), none, some (.long x3), none, some (.int x5), some (.int x6), some (.int x7), some (.long x8), none, some (.int x10)] [.long zv6, .long x8] S _ _
        refine ip_Ev.steps 5 (pc' := 52) (lv' := [some (.ref 30), some (.long x1), none, some (.long x3), none, some (.int x5), some (.int x6), some (.int x7), some (.long x8), none, some (.int x10)]) (st' := [.int ((ip_ishr x7 x10) &&& 1), .long zv6, .long x8]) (S1 := S) rfl ?_
        refine ip_Ev.call (i := 136) (a := [.long zv6, .int ((ip_ishr x7 x10) &&& 1)]) (r := [.long x8]) rfl (T_M_keptIf rfl) ?_
        show ip_Ev 166 55 [some (.ref 30), some (.long x1), none, some (.long x3), none, some (.int x5), some (.int x6), some (.int x7), some (.long x8), none, some (.int x10)] [.long (f_M_keptIf zv6 ((ip_ishr x7 x10) &&& 1)), .long x8] S _ _
        refine ip_Ev.steps 5 (pc' := 19) (lv' := [some (.ref 30), some (.long x1), none, some (.long x3), none, some (.int x5), some (.int x6), some (.int x7), some (.long (x8 &&& (f_M_keptIf zv6 ((ip_ishr x7 x10) &&& 1)))), none, some (.int (x10 + 1))]) (st' := []) (S1 := S) rfl ?_
        exact ih h
def f_M_freeBy_6 : Nat → Int64 → Int64 → Int32 → Int32 → Int32 → ip_St → Option (Int32)
  | 0, _, _, _, _, _, _ => none
  | n + 1, x1, x3, x5, x6, x7, S => (if 64 ≤ x7 then some x6 else (f_M_freeBy_19 (f_M_freeBy_6 n) ip_FU x1 x3 x5 x6 x7 x1 0 S))
set_option maxRecDepth 10000 in
theorem E_M_freeBy_6 : ∀ (n : Nat) {x1 : Int64} {x3 : Int64} {x5 : Int32} {x6 : Int32} {x7 : Int32} {S : ip_St} {r : Int32} {d8 : Option Value} {d9 : Option Value} {d10 : Option Value}, f_M_freeBy_6 n x1 x3 x5 x6 x7 S = some r → ip_Ev 166 6 [some (.ref 30), some (.long x1), none, some (.long x3), none, some (.int x5), some (.int x6), some (.int x7), d8, d9, d10] [] S (some (.int r)) S := by
  intro n
  induction n with
  | zero =>
    intro x1 x3 x5 x6 x7 S r d8 d9 d10 h
    cases h
  | succ n ih =>
    intro x1 x3 x5 x6 x7 S r d8 d9 d10 h
    rw [f_M_freeBy_6] at h
    refine ip_Ev.steps 2 (pc' := 10) (lv' := [some (.ref 30), some (.long x1), none, some (.long x3), none, some (.int x5), some (.int x6), some (.int x7), d8, d9, d10]) (st' := [.int 64, .int x7]) (S1 := S) rfl ?_
    refine ip_Ev.iff2 rfl rfl ip_cGe (fun zhc1 => ?_) (fun zhc1 => ?_)
    · rw [if_pos zhc1] at h
      refine ip_Ev.steps 1 (pc' := 112) (lv' := [some (.ref 30), some (.long x1), none, some (.long x3), none, some (.int x5), some (.int x6), some (.int x7), d8, d9, d10]) (st' := [.int x6]) (S1 := S) rfl ?_
      cases h
      exact ip_Ev.ret rfl
    · rw [if_neg zhc1] at h
      refine ip_Ev.steps 4 (pc' := 19) (lv' := [some (.ref 30), some (.long x1), none, some (.long x3), none, some (.int x5), some (.int x6), some (.int x7), some (.long x1), none, some (.int 0)]) (st' := []) (S1 := S) rfl ?_
      exact E_M_freeBy_19 ih ip_FU h
def f_M_freeBy (p1 : Int64) (p2 : Int64) (p3 : Int32) (S : ip_St) : Option (Int32) := (f_M_freeBy_6 ip_FU p1 p2 p3 0 0 S)
set_option maxRecDepth 10000 in
theorem T_M_freeBy {p1 : Int64} {p2 : Int64} {p3 : Int32} {S : ip_St} {r : Int32} (h : f_M_freeBy p1 p2 p3 S = some r) : ip_Me 166 [.ref 30, .long p1, .long p2, .int p3] S (some (.int r)) S := by
  unfold f_M_freeBy at h
  refine ⟨[some (.ref 30), some (.long p1), none, some (.long p2), none, some (.int p3), none, none, none, none, none], rfl, ?_⟩
  refine ip_Ev.steps 4 (pc' := 6) (lv' := [some (.ref 30), some (.long p1), none, some (.long p2), none, some (.int p3), some (.int 0), some (.int 0), none, none, none]) (st' := []) (S1 := S) rfl ?_
  exact E_M_freeBy_6 ip_FU h
-- M_onesIn
def f_M_onesIn_4 : Nat → Int32 → Int32 → Int32 → Option (Int32)
  | 0, _, _, _ => none
  | n + 1, x0, x1, x2 => (if 6 ≤ x2 then some x1 else (f_M_onesIn_4 n x0 (x1 + ((ip_ishr x0 x2) &&& 1)) (x2 + 1)))
set_option maxRecDepth 10000 in
theorem E_M_onesIn_4 : ∀ (n : Nat) {x0 : Int32} {x1 : Int32} {x2 : Int32} {S : ip_St} {r : Int32}, f_M_onesIn_4 n x0 x1 x2 = some r → ip_Ev 167 4 [some (.int x0), some (.int x1), some (.int x2)] [] S (some (.int r)) S := by
  intro n
  induction n with
  | zero =>
    intro x0 x1 x2 S r h
    cases h
  | succ n ih =>
    intro x0 x1 x2 S r h
    rw [f_M_onesIn_4] at h
    refine ip_Ev.steps 2 (pc' := 7) (lv' := [some (.int x0), some (.int x1), some (.int x2)]) (st' := [.int 6, .int x2]) (S1 := S) rfl ?_
    refine ip_Ev.iff2 rfl rfl ip_cGe (fun zhc1 => ?_) (fun zhc1 => ?_)
    · rw [if_pos zhc1] at h
      refine ip_Ev.steps 1 (pc' := 25) (lv' := [some (.int x0), some (.int x1), some (.int x2)]) (st' := [.int x1]) (S1 := S) rfl ?_
      cases h
      exact ip_Ev.ret rfl
    · rw [if_neg zhc1] at h
      refine ip_Ev.steps 10 (pc' := 4) (lv' := [some (.int x0), some (.int (x1 + ((ip_ishr x0 x2) &&& 1))), some (.int (x2 + 1))]) (st' := []) (S1 := S) rfl ?_
      exact ih h
def f_M_onesIn (p0 : Int32) : Option (Int32) := (f_M_onesIn_4 ip_FU p0 0 0)
set_option maxRecDepth 10000 in
theorem T_M_onesIn {p0 : Int32} {S : ip_St} {r : Int32} (h : f_M_onesIn p0 = some r) : ip_Me 167 [.int p0] S (some (.int r)) S := by
  unfold f_M_onesIn at h
  refine ⟨[some (.int p0), none, none], rfl, ?_⟩
  refine ip_Ev.steps 4 (pc' := 4) (lv' := [some (.int p0), some (.int 0), some (.int 0)]) (st' := []) (S1 := S) rfl ?_
  exact E_M_onesIn_4 ip_FU h
-- M_findOf
def f_M_findOf_155 (k31 : Int32 → Int32 → Int32 → Int64 → Int64 → Int32 → Int32 → Int32 → ip_St → Option (Int32)) (x1 : Int32) (x2 : Int32) (x3 : Int32) (x4 : Int64) (x6 : Int64) (x8 : Int32) (x9 : Int32) (x10 : Int32) (s0 : Int32) (S : ip_St) : Option (Int32) := (if x9 < s0 then (k31 x1 x2 x3 x4 x6 x10 s0 (x10 + 1) S) else (if s0 = x9 then ((f_M_onesIn x10).bind fun zv4 => ((f_M_onesIn x8).bind fun zv6 => (if zv6 ≤ zv4 then (k31 x1 x2 x3 x4 x6 x8 x9 (x10 + 1) S) else (k31 x1 x2 x3 x4 x6 x10 s0 (x10 + 1) S)))) else (k31 x1 x2 x3 x4 x6 x8 x9 (x10 + 1) S)))
set_option maxRecDepth 10000 in
theorem E_M_findOf_155 {k31 : Int32 → Int32 → Int32 → Int64 → Int64 → Int32 → Int32 → Int32 → ip_St → Option (Int32)} (hk31 : ∀ {x1 : Int32} {x2 : Int32} {x3 : Int32} {x4 : Int64} {x6 : Int64} {x8 : Int32} {x9 : Int32} {x10 : Int32} {S : ip_St} {r : Int32} {d11 : Option Value} {d12 : Option Value} {d13 : Option Value}, k31 x1 x2 x3 x4 x6 x8 x9 x10 S = some r → ip_Ev 168 31 [some (.ref 30), some (.int x1), some (.int x2), some (.int x3), some (.long x4), none, some (.long x6), none, some (.int x8), some (.int x9), some (.int x10), d11, d12, d13] [] S (some (.int r)) S) {x1 : Int32} {x2 : Int32} {x3 : Int32} {x4 : Int64} {x6 : Int64} {x8 : Int32} {x9 : Int32} {x10 : Int32} {s0 : Int32} {S : ip_St} {r : Int32} {d11 : Option Value} {d12 : Option Value} {d13 : Option Value} (h : f_M_findOf_155 k31 x1 x2 x3 x4 x6 x8 x9 x10 s0 S = some r) : ip_Ev 168 155 [some (.ref 30), some (.int x1), some (.int x2), some (.int x3), some (.long x4), none, some (.long x6), none, some (.int x8), some (.int x9), some (.int x10), d11, d12, d13] [.int s0] S (some (.int r)) S := by
  unfold f_M_findOf_155 at h
  refine ip_Ev.steps 3 (pc' := 161) (lv' := [some (.ref 30), some (.int x1), some (.int x2), some (.int x3), some (.long x4), none, some (.long x6), none, some (.int x8), some (.int x9), some (.int x10), (ip_kd d11), some (.int s0), d13]) (st' := [.int x9, .int s0]) (S1 := S) rfl ?_
  refine ip_Ev.iff2 rfl rfl ip_cGt (fun zhc1 => ?_) (fun zhc1 => ?_)
  · rw [if_pos zhc1] at h
    refine ip_Ev.steps 6 (pc' := 31) (lv' := [some (.ref 30), some (.int x1), some (.int x2), some (.int x3), some (.long x4), none, some (.long x6), none, some (.int x10), some (.int s0), some (.int (x10 + 1)), (ip_kd d11), some (.int s0), d13]) (st' := []) (S1 := S) rfl ?_
    exact hk31 h
  · rw [if_neg zhc1] at h
    refine ip_Ev.steps 2 (pc' := 168) (lv' := [some (.ref 30), some (.int x1), some (.int x2), some (.int x3), some (.long x4), none, some (.long x6), none, some (.int x8), some (.int x9), some (.int x10), (ip_kd d11), some (.int s0), d13]) (st' := [.int x9, .int s0]) (S1 := S) rfl ?_
    refine ip_Ev.iff2 rfl rfl ip_cNe (fun zhc2 => ?_) (fun zhc2 => ?_)
    · rw [if_neg zhc2] at h
      refine ip_Ev.steps 2 (pc' := 31) (lv' := [some (.ref 30), some (.int x1), some (.int x2), some (.int x3), some (.long x4), none, some (.long x6), none, some (.int x8), some (.int x9), some (.int (x10 + 1)), (ip_kd d11), some (.int s0), d13]) (st' := []) (S1 := S) rfl ?_
      exact hk31 h
    · rw [if_pos (Decidable.of_not_not zhc2)] at h
      refine ip_Ev.steps 1 (pc' := 173) (lv' := [some (.ref 30), some (.int x1), some (.int x2), some (.int x3), some (.long x4), none, some (.long x6), none, some (.int x8), some (.int x9), some (.int x10), (ip_kd d11), some (.int s0), d13]) (st' := [.int x10]) (S1 := S) rfl ?_
      obtain ⟨zv4, hzq3, h⟩ := ip_bind h
      refine ip_Ev.call (i := 167) (a := [.int x10]) (r := []) rfl (T_M_onesIn hzq3) ?_
      show ip_Ev 168 176 [some (.ref 30), some (.int x1), some (.int x2), some (.int x3), some (.long x4), none, some (.long x6), none, some (.int x8), some (.int x9), some (.int x10), (ip_kd d11), some (.int s0), d13] [.int zv4] S _ _
      refine ip_Ev.steps 1 (pc' := 178) (lv' := [some (.ref 30), some (.int x1), some (.int x2), some (.int x3), some (.long x4), none, some (.long x6), none, some (.int x8), some (.int x9), some (.int x10), (ip_kd d11), some (.int s0), d13]) (st' := [.int x8, .int zv4]) (S1 := S) rfl ?_
      obtain ⟨zv6, hzq5, h⟩ := ip_bind h
      refine ip_Ev.call (i := 167) (a := [.int x8]) (r := [.int zv4]) rfl (T_M_onesIn hzq5) ?_
      show ip_Ev 168 181 [some (.ref 30), some (.int x1), some (.int x2), some (.int x3), some (.long x4), none, some (.long x6), none, some (.int x8), some (.int x9), some (.int x10), (ip_kd d11), some (.int s0), d13] [.int zv6, .int zv4] S _ _
      refine ip_Ev.iff2 rfl rfl ip_cGe (fun zhc7 => ?_) (fun zhc7 => ?_)
      · rw [if_pos zhc7] at h
        refine ip_Ev.steps 2 (pc' := 31) (lv' := [some (.ref 30), some (.int x1), some (.int x2), some (.int x3), some (.long x4), none, some (.long x6), none, some (.int x8), some (.int x9), some (.int (x10 + 1)), (ip_kd d11), some (.int s0), d13]) (st' := []) (S1 := S) rfl ?_
        exact hk31 h
      · rw [if_neg zhc7] at h
        refine ip_Ev.steps 6 (pc' := 31) (lv' := [some (.ref 30), some (.int x1), some (.int x2), some (.int x3), some (.long x4), none, some (.long x6), none, some (.int x10), some (.int s0), some (.int (x10 + 1)), (ip_kd d11), some (.int s0), d13]) (st' := []) (S1 := S) rfl ?_
        exact hk31 h
def f_M_findOf_101 (k31 : Int32 → Int32 → Int32 → Int64 → Int64 → Int32 → Int32 → Int32 → ip_St → Option (Int32)) (k57 : Int32 → Int32 → Int32 → Int64 → Int64 → Int32 → Int32 → Int32 → Int32 → Int32 → ip_St → Option (Int32)) (x1 : Int32) (x2 : Int32) (x3 : Int32) (x4 : Int64) (x6 : Int64) (x8 : Int32) (x9 : Int32) (x10 : Int32) (x11 : Int32) (x12 : Int32) (s0 : Int32) (S : ip_St) : Option (Int32) := (if x11 = 0 then (k57 x1 x2 x3 x4 x6 x8 x9 x10 0 (x12 + 1) S) else (if ((ip_ishr x10 x12) &&& 1) = 0 then (k57 x1 x2 x3 x4 x6 x8 x9 x10 1 (x12 + 1) S) else (if s0 = 0 then (k57 x1 x2 x3 x4 x6 x8 x9 x10 1 (x12 + 1) S) else (k57 x1 x2 x3 x4 x6 x8 x9 x10 0 (x12 + 1) S))))
set_option maxRecDepth 10000 in
theorem E_M_findOf_101 {k31 : Int32 → Int32 → Int32 → Int64 → Int64 → Int32 → Int32 → Int32 → ip_St → Option (Int32)} {k57 : Int32 → Int32 → Int32 → Int64 → Int64 → Int32 → Int32 → Int32 → Int32 → Int32 → ip_St → Option (Int32)} (hk31 : ∀ {x1 : Int32} {x2 : Int32} {x3 : Int32} {x4 : Int64} {x6 : Int64} {x8 : Int32} {x9 : Int32} {x10 : Int32} {S : ip_St} {r : Int32} {d11 : Option Value} {d12 : Option Value} {d13 : Option Value}, k31 x1 x2 x3 x4 x6 x8 x9 x10 S = some r → ip_Ev 168 31 [some (.ref 30), some (.int x1), some (.int x2), some (.int x3), some (.long x4), none, some (.long x6), none, some (.int x8), some (.int x9), some (.int x10), d11, d12, d13] [] S (some (.int r)) S) (hk57 : ∀ {x1 : Int32} {x2 : Int32} {x3 : Int32} {x4 : Int64} {x6 : Int64} {x8 : Int32} {x9 : Int32} {x10 : Int32} {x11 : Int32} {x12 : Int32} {S : ip_St} {r : Int32} {d13 : Option Value}, k57 x1 x2 x3 x4 x6 x8 x9 x10 x11 x12 S = some r → ip_Ev 168 57 [some (.ref 30), some (.int x1), some (.int x2), some (.int x3), some (.long x4), none, some (.long x6), none, some (.int x8), some (.int x9), some (.int x10), some (.int x11), some (.int x12), d13] [] S (some (.int r)) S) {x1 : Int32} {x2 : Int32} {x3 : Int32} {x4 : Int64} {x6 : Int64} {x8 : Int32} {x9 : Int32} {x10 : Int32} {x11 : Int32} {x12 : Int32} {s0 : Int32} {S : ip_St} {r : Int32} {d13 : Option Value} (h : f_M_findOf_101 k31 k57 x1 x2 x3 x4 x6 x8 x9 x10 x11 x12 s0 S = some r) : ip_Ev 168 101 [some (.ref 30), some (.int x1), some (.int x2), some (.int x3), some (.long x4), none, some (.long x6), none, some (.int x8), some (.int x9), some (.int x10), some (.int x11), some (.int x12), d13] [.int s0] S (some (.int r)) S := by
  unfold f_M_findOf_101 at h
  refine ip_Ev.steps 2 (pc' := 105) (lv' := [some (.ref 30), some (.int x1), some (.int x2), some (.int x3), some (.long x4), none, some (.long x6), none, some (.int x8), some (.int x9), some (.int x10), some (.int x11), some (.int x12), some (.int s0)]) (st' := [.int x11]) (S1 := S) rfl ?_
  refine ip_Ev.iff1 rfl rfl ip_cEq (fun zhc1 => ?_) (fun zhc1 => ?_)
  · rw [if_pos zhc1] at h
    refine ip_Ev.steps 4 (pc' := 57) (lv' := [some (.ref 30), some (.int x1), some (.int x2), some (.int x3), some (.long x4), none, some (.long x6), none, some (.int x8), some (.int x9), some (.int x10), some (.int 0), some (.int (x12 + 1)), some (.int s0)]) (st' := []) (S1 := S) rfl ?_
    exact hk57 h
  · rw [if_neg zhc1] at h
    refine ip_Ev.steps 5 (pc' := 115) (lv' := [some (.ref 30), some (.int x1), some (.int x2), some (.int x3), some (.long x4), none, some (.long x6), none, some (.int x8), some (.int x9), some (.int x10), some (.int x11), some (.int x12), some (.int s0)]) (st' := [.int ((ip_ishr x10 x12) &&& 1)]) (S1 := S) rfl ?_
    refine ip_Ev.iff1 rfl rfl ip_cEq (fun zhc2 => ?_) (fun zhc2 => ?_)
    · rw [if_pos zhc2] at h
      refine ip_Ev.steps 5 (pc' := 57) (lv' := [some (.ref 30), some (.int x1), some (.int x2), some (.int x3), some (.long x4), none, some (.long x6), none, some (.int x8), some (.int x9), some (.int x10), some (.int 1), some (.int (x12 + 1)), some (.int s0)]) (st' := []) (S1 := S) rfl ?_
      exact hk57 h
    · rw [if_neg zhc2] at h
      refine ip_Ev.steps 1 (pc' := 120) (lv' := [some (.ref 30), some (.int x1), some (.int x2), some (.int x3), some (.long x4), none, some (.long x6), none, some (.int x8), some (.int x9), some (.int x10), some (.int x11), some (.int x12), some (.int s0)]) (st' := [.int s0]) (S1 := S) rfl ?_
      refine ip_Ev.iff1 rfl rfl ip_cNe (fun zhc3 => ?_) (fun zhc3 => ?_)
      · rw [if_neg zhc3] at h
        refine ip_Ev.steps 4 (pc' := 57) (lv' := [some (.ref 30), some (.int x1), some (.int x2), some (.int x3), some (.long x4), none, some (.long x6), none, some (.int x8), some (.int x9), some (.int x10), some (.int 0), some (.int (x12 + 1)), some (.int s0)]) (st' := []) (S1 := S) rfl ?_
        exact hk57 h
      · rw [if_pos (Decidable.of_not_not zhc3)] at h
        refine ip_Ev.steps 5 (pc' := 57) (lv' := [some (.ref 30), some (.int x1), some (.int x2), some (.int x3), some (.long x4), none, some (.long x6), none, some (.int x8), some (.int x9), some (.int x10), some (.int 1), some (.int (x12 + 1)), some (.int s0)]) (st' := []) (S1 := S) rfl ?_
        exact hk57 h
def f_M_findOf_96 (k31 : Int32 → Int32 → Int32 → Int64 → Int64 → Int32 → Int32 → Int32 → ip_St → Option (Int32)) (k57 : Int32 → Int32 → Int32 → Int64 → Int64 → Int32 → Int32 → Int32 → Int32 → Int32 → ip_St → Option (Int32)) (x1 : Int32) (x2 : Int32) (x3 : Int32) (x4 : Int64) (x6 : Int64) (x8 : Int32) (x9 : Int32) (x10 : Int32) (x11 : Int32) (x12 : Int32) (S : ip_St) : Option (Int32) := (f_M_findOf_101 k31 k57 x1 x2 x3 x4 x6 x8 x9 x10 x11 x12 1 S)
set_option maxRecDepth 10000 in
theorem E_M_findOf_96 {k31 : Int32 → Int32 → Int32 → Int64 → Int64 → Int32 → Int32 → Int32 → ip_St → Option (Int32)} {k57 : Int32 → Int32 → Int32 → Int64 → Int64 → Int32 → Int32 → Int32 → Int32 → Int32 → ip_St → Option (Int32)} (hk31 : ∀ {x1 : Int32} {x2 : Int32} {x3 : Int32} {x4 : Int64} {x6 : Int64} {x8 : Int32} {x9 : Int32} {x10 : Int32} {S : ip_St} {r : Int32} {d11 : Option Value} {d12 : Option Value} {d13 : Option Value}, k31 x1 x2 x3 x4 x6 x8 x9 x10 S = some r → ip_Ev 168 31 [some (.ref 30), some (.int x1), some (.int x2), some (.int x3), some (.long x4), none, some (.long x6), none, some (.int x8), some (.int x9), some (.int x10), d11, d12, d13] [] S (some (.int r)) S) (hk57 : ∀ {x1 : Int32} {x2 : Int32} {x3 : Int32} {x4 : Int64} {x6 : Int64} {x8 : Int32} {x9 : Int32} {x10 : Int32} {x11 : Int32} {x12 : Int32} {S : ip_St} {r : Int32} {d13 : Option Value}, k57 x1 x2 x3 x4 x6 x8 x9 x10 x11 x12 S = some r → ip_Ev 168 57 [some (.ref 30), some (.int x1), some (.int x2), some (.int x3), some (.long x4), none, some (.long x6), none, some (.int x8), some (.int x9), some (.int x10), some (.int x11), some (.int x12), d13] [] S (some (.int r)) S) {x1 : Int32} {x2 : Int32} {x3 : Int32} {x4 : Int64} {x6 : Int64} {x8 : Int32} {x9 : Int32} {x10 : Int32} {x11 : Int32} {x12 : Int32} {S : ip_St} {r : Int32} {d13 : Option Value} (h : f_M_findOf_96 k31 k57 x1 x2 x3 x4 x6 x8 x9 x10 x11 x12 S = some r) : ip_Ev 168 96 [some (.ref 30), some (.int x1), some (.int x2), some (.int x3), some (.long x4), none, some (.long x6), none, some (.int x8), some (.int x9), some (.int x10), some (.int x11), some (.int x12), d13] [] S (some (.int r)) S := by
  unfold f_M_findOf_96 at h
  refine ip_Ev.steps 2 (pc' := 101) (lv' := [some (.ref 30), some (.int x1), some (.int x2), some (.int x3), some (.long x4), none, some (.long x6), none, some (.int x8), some (.int x9), some (.int x10), some (.int x11), some (.int x12), d13]) (st' := [.int 1]) (S1 := S) rfl ?_
  exact E_M_findOf_101 hk31 hk57 h
def f_M_findOf_57 (k31 : Int32 → Int32 → Int32 → Int64 → Int64 → Int32 → Int32 → Int32 → ip_St → Option (Int32)) : Nat → Int32 → Int32 → Int32 → Int64 → Int64 → Int32 → Int32 → Int32 → Int32 → Int32 → ip_St → Option (Int32)
  | 0, _, _, _, _, _, _, _, _, _, _, _ => none
  | n + 1, x1, x2, x3, x4, x6, x8, x9, x10, x11, x12, S => (if 6 ≤ x12 then (if x11 = 0 then (f_M_findOf_155 k31 x1 x2 x3 x4 x6 x8 x9 x10 (-1) S) else ((f_M_freeBy x4 x6 x10 S).bind fun zv4 => (f_M_findOf_155 k31 x1 x2 x3 x4 x6 x8 x9 x10 zv4 S))) else ((ip_aI S 43 ((6 * x1) + x12)).bind fun zv5 => (if zv5 = (-1) then ((ip_aI S 44 ((6 * x1) + x12)).bind fun zv7 => (if zv7 = (-1) then (f_M_findOf_101 k31 (f_M_findOf_57 k31 n) x1 x2 x3 x4 x6 x8 x9 x10 x11 x12 0 S) else (f_M_findOf_96 k31 (f_M_findOf_57 k31 n) x1 x2 x3 x4 x6 x8 x9 x10 x11 x12 S))) else (f_M_findOf_96 k31 (f_M_findOf_57 k31 n) x1 x2 x3 x4 x6 x8 x9 x10 x11 x12 S))))
set_option maxRecDepth 10000 in
theorem E_M_findOf_57 {k31 : Int32 → Int32 → Int32 → Int64 → Int64 → Int32 → Int32 → Int32 → ip_St → Option (Int32)} (hk31 : ∀ {x1 : Int32} {x2 : Int32} {x3 : Int32} {x4 : Int64} {x6 : Int64} {x8 : Int32} {x9 : Int32} {x10 : Int32} {S : ip_St} {r : Int32} {d11 : Option Value} {d12 : Option Value} {d13 : Option Value}, k31 x1 x2 x3 x4 x6 x8 x9 x10 S = some r → ip_Ev 168 31 [some (.ref 30), some (.int x1), some (.int x2), some (.int x3), some (.long x4), none, some (.long x6), none, some (.int x8), some (.int x9), some (.int x10), d11, d12, d13] [] S (some (.int r)) S) : ∀ (n : Nat) {x1 : Int32} {x2 : Int32} {x3 : Int32} {x4 : Int64} {x6 : Int64} {x8 : Int32} {x9 : Int32} {x10 : Int32} {x11 : Int32} {x12 : Int32} {S : ip_St} {r : Int32} {d13 : Option Value}, f_M_findOf_57 k31 n x1 x2 x3 x4 x6 x8 x9 x10 x11 x12 S = some r → ip_Ev 168 57 [some (.ref 30), some (.int x1), some (.int x2), some (.int x3), some (.long x4), none, some (.long x6), none, some (.int x8), some (.int x9), some (.int x10), some (.int x11), some (.int x12), d13] [] S (some (.int r)) S := by
  intro n
  induction n with
  | zero =>
    intro x1 x2 x3 x4 x6 x8 x9 x10 x11 x12 S r d13 h
    cases h
  | succ n ih =>
    intro x1 x2 x3 x4 x6 x8 x9 x10 x11 x12 S r d13 h
    rw [f_M_findOf_57] at h
    refine ip_Ev.steps 2 (pc' := 61) (lv' := [some (.ref 30), some (.int x1), some (.int x2), some (.int x3), some (.long x4), none, some (.long x6), none, some (.int x8), some (.int x9), some (.int x10), some (.int x11), some (.int x12), d13]) (st' := [.int 6, .int x12]) (S1 := S) rfl ?_
    refine ip_Ev.iff2 rfl rfl ip_cGe (fun zhc1 => ?_) (fun zhc1 => ?_)
    · rw [if_pos zhc1] at h
      refine ip_Ev.steps 1 (pc' := 138) (lv' := [some (.ref 30), some (.int x1), some (.int x2), some (.int x3), some (.long x4), none, some (.long x6), none, some (.int x8), some (.int x9), some (.int x10), some (.int x11), some (.int x12), d13]) (st' := [.int x11]) (S1 := S) rfl ?_
      refine ip_Ev.iff1 rfl rfl ip_cEq (fun zhc2 => ?_) (fun zhc2 => ?_)
      · rw [if_pos zhc2] at h
        refine ip_Ev.steps 1 (pc' := 155) (lv' := [some (.ref 30), some (.int x1), some (.int x2), some (.int x3), some (.long x4), none, some (.long x6), none, some (.int x8), some (.int x9), some (.int x10), some (.int x11), some (.int x12), d13]) (st' := [.int (-1)]) (S1 := S) rfl ?_
        exact E_M_findOf_155 hk31 h
      · rw [if_neg zhc2] at h
        refine ip_Ev.steps 4 (pc' := 148) (lv' := [some (.ref 30), some (.int x1), some (.int x2), some (.int x3), some (.long x4), none, some (.long x6), none, some (.int x8), some (.int x9), some (.int x10), some (.int x11), some (.int x12), d13]) (st' := [.int x10, .long x6, .long x4, .ref 30]) (S1 := S) rfl ?_
        obtain ⟨zv4, hzq3, h⟩ := ip_bind h
        refine ip_Ev.call (i := 166) (a := [.ref 30, .long x4, .long x6, .int x10]) (r := []) rfl (T_M_freeBy hzq3) ?_
        show ip_Ev 168 151 [some (.ref 30), some (.int x1), some (.int x2), some (.int x3), some (.long x4), none, some (.long x6), none, some (.int x8), some (.int x9), some (.int x10), some (.int x11), some (.int x12), d13] [.int zv4] S _ _
        refine ip_Ev.steps 1 (pc' := 155) (lv' := [some (.ref 30), some (.int x1), some (.int x2), some (.int x3), some (.long x4), none, some (.long x6), none, some (.int x8), some (.int x9), some (.int x10), some (.int x11), some (.int x12), d13]) (st' := [.int zv4]) (S1 := S) rfl ?_
        exact E_M_findOf_155 hk31 h
    · rw [if_neg zhc1] at h
      refine ip_Ev.steps 7 (pc' := 75) (lv' := [some (.ref 30), some (.int x1), some (.int x2), some (.int x3), some (.long x4), none, some (.long x6), none, some (.int x8), some (.int x9), some (.int x10), some (.int x11), some (.int x12), d13]) (st' := [.int ((6 * x1) + x12), .ref 43]) (S1 := S) rfl ?_
      obtain ⟨zv5, hzv5, h⟩ := ip_bind h
      refine ip_Ev.iald rfl hzv5 ?_
      refine ip_Ev.steps 1 (pc' := 77) (lv' := [some (.ref 30), some (.int x1), some (.int x2), some (.int x3), some (.long x4), none, some (.long x6), none, some (.int x8), some (.int x9), some (.int x10), some (.int x11), some (.int x12), d13]) (st' := [.int (-1), .int zv5]) (S1 := S) rfl ?_
      refine ip_Ev.iff2 rfl rfl ip_cNe (fun zhc6 => ?_) (fun zhc6 => ?_)
      · rw [if_neg zhc6] at h
        exact E_M_findOf_96 hk31 ih h
      · rw [if_pos (Decidable.of_not_not zhc6)] at h
        refine ip_Ev.steps 7 (pc' := 91) (lv' := [some (.ref 30), some (.int x1), some (.int x2), some (.int x3), some (.long x4), none, some (.long x6), none, some (.int x8), some (.int x9), some (.int x10), some (.int x11), some (.int x12), d13]) (st' := [.int ((6 * x1) + x12), .ref 44]) (S1 := S) rfl ?_
        obtain ⟨zv7, hzv7, h⟩ := ip_bind h
        refine ip_Ev.iald rfl hzv7 ?_
        refine ip_Ev.steps 1 (pc' := 93) (lv' := [some (.ref 30), some (.int x1), some (.int x2), some (.int x3), some (.long x4), none, some (.long x6), none, some (.int x8), some (.int x9), some (.int x10), some (.int x11), some (.int x12), d13]) (st' := [.int (-1), .int zv7]) (S1 := S) rfl ?_
        refine ip_Ev.iff2 rfl rfl ip_cEq (fun zhc8 => ?_) (fun zhc8 => ?_)
        · rw [if_pos zhc8] at h
          refine ip_Ev.steps 1 (pc' := 101) (lv' := [some (.ref 30), some (.int x1), some (.int x2), some (.int x3), some (.long x4), none, some (.long x6), none, some (.int x8), some (.int x9), some (.int x10), some (.int x11), some (.int x12), d13]) (st' := [.int 0]) (S1 := S) rfl ?_
          exact E_M_findOf_101 hk31 ih h
        · rw [if_neg zhc8] at h
          exact E_M_findOf_96 hk31 ih h
def f_M_findOf_31 : Nat → Int32 → Int32 → Int32 → Int64 → Int64 → Int32 → Int32 → Int32 → ip_St → Option (Int32)
  | 0, _, _, _, _, _, _, _, _, _ => none
  | n + 1, x1, x2, x3, x4, x6, x8, x9, x10, S => (if 64 ≤ x10 then (if x3 = 0 then some x8 else some x9) else ((f_M_onesIn x10).bind fun zv4 => (if x2 < zv4 then (f_M_findOf_57 (f_M_findOf_31 n) ip_FU x1 x2 x3 x4 x6 x8 x9 x10 0 0 S) else (f_M_findOf_57 (f_M_findOf_31 n) ip_FU x1 x2 x3 x4 x6 x8 x9 x10 1 0 S))))
set_option maxRecDepth 10000 in
theorem E_M_findOf_31 : ∀ (n : Nat) {x1 : Int32} {x2 : Int32} {x3 : Int32} {x4 : Int64} {x6 : Int64} {x8 : Int32} {x9 : Int32} {x10 : Int32} {S : ip_St} {r : Int32} {d11 : Option Value} {d12 : Option Value} {d13 : Option Value}, f_M_findOf_31 n x1 x2 x3 x4 x6 x8 x9 x10 S = some r → ip_Ev 168 31 [some (.ref 30), some (.int x1), some (.int x2), some (.int x3), some (.long x4), none, some (.long x6), none, some (.int x8), some (.int x9), some (.int x10), d11, d12, d13] [] S (some (.int r)) S := by
  intro n
  induction n with
  | zero =>
    intro x1 x2 x3 x4 x6 x8 x9 x10 S r d11 d12 d13 h
    cases h
  | succ n ih =>
    intro x1 x2 x3 x4 x6 x8 x9 x10 S r d11 d12 d13 h
    rw [f_M_findOf_31] at h
    refine ip_Ev.steps 2 (pc' := 35) (lv' := [some (.ref 30), some (.int x1), some (.int x2), some (.int x3), some (.long x4), none, some (.long x6), none, some (.int x8), some (.int x9), some (.int x10), d11, d12, d13]) (st' := [.int 64, .int x10]) (S1 := S) rfl ?_
    refine ip_Ev.iff2 rfl rfl ip_cGe (fun zhc1 => ?_) (fun zhc1 => ?_)
    · rw [if_pos zhc1] at h
      refine ip_Ev.steps 1 (pc' := 199) (lv' := [some (.ref 30), some (.int x1), some (.int x2), some (.int x3), some (.long x4), none, some (.long x6), none, some (.int x8), some (.int x9), some (.int x10), d11, d12, d13]) (st' := [.int x3]) (S1 := S) rfl ?_
      refine ip_Ev.iff1 rfl rfl ip_cNe (fun zhc2 => ?_) (fun zhc2 => ?_)
      · rw [if_neg zhc2] at h
        refine ip_Ev.steps 1 (pc' := 209) (lv' := [some (.ref 30), some (.int x1), some (.int x2), some (.int x3), some (.long x4), none, some (.long x6), none, some (.int x8), some (.int x9), some (.int x10), d11, d12, d13]) (st' := [.int x9]) (S1 := S) rfl ?_
        cases h
        exact ip_Ev.ret rfl
      · rw [if_pos (Decidable.of_not_not zhc2)] at h
        refine ip_Ev.steps 2 (pc' := 209) (lv' := [some (.ref 30), some (.int x1), some (.int x2), some (.int x3), some (.long x4), none, some (.long x6), none, some (.int x8), some (.int x9), some (.int x10), d11, d12, d13]) (st' := [.int x8]) (S1 := S) rfl ?_
        cases h
        exact ip_Ev.ret rfl
    · rw [if_neg zhc1] at h
      refine ip_Ev.steps 1 (pc' := 40) (lv' := [some (.ref 30), some (.int x1), some (.int x2), some (.int x3), some (.long x4), none, some (.long x6), none, some (.int x8), some (.int x9), some (.int x10), d11, d12, d13]) (st' := [.int x10]) (S1 := S) rfl ?_
      obtain ⟨zv4, hzq3, h⟩ := ip_bind h
      refine ip_Ev.call (i := 167) (a := [.int x10]) (r := []) rfl (T_M_onesIn hzq3) ?_
      show ip_Ev 168 43 [some (.ref 30), some (.int x1), some (.int x2), some (.int x3), some (.long x4), none, some (.long x6), none, some (.int x8), some (.int x9), some (.int x10), d11, d12, d13] [.int zv4] S _ _
      refine ip_Ev.steps 1 (pc' := 44) (lv' := [some (.ref 30), some (.int x1), some (.int x2), some (.int x3), some (.long x4), none, some (.long x6), none, some (.int x8), some (.int x9), some (.int x10), d11, d12, d13]) (st' := [.int x2, .int zv4]) (S1 := S) rfl ?_
      refine ip_Ev.iff2 rfl rfl ip_cGt (fun zhc5 => ?_) (fun zhc5 => ?_)
      · rw [if_pos zhc5] at h
        refine ip_Ev.steps 4 (pc' := 57) (lv' := [some (.ref 30), some (.int x1), some (.int x2), some (.int x3), some (.long x4), none, some (.long x6), none, some (.int x8), some (.int x9), some (.int x10), some (.int 0), some (.int 0), d13]) (st' := []) (S1 := S) rfl ?_
        exact E_M_findOf_57 ih ip_FU h
      · rw [if_neg zhc5] at h
        refine ip_Ev.steps 5 (pc' := 57) (lv' := [some (.ref 30), some (.int x1), some (.int x2), some (.int x3), some (.long x4), none, some (.long x6), none, some (.int x8), some (.int x9), some (.int x10), some (.int 1), some (.int 0), d13]) (st' := []) (S1 := S) rfl ?_
        exact E_M_findOf_57 ih ip_FU h
def f_M_findOf (p1 : Int32) (p2 : Int32) (p3 : Int32) (S : ip_St) : Option (Int32) := ((f_M_waysOf p1 S).bind fun zv2 => ((f_M_freesOf p1 S).bind fun zv4 => ((f_M_freeBy zv2 zv4 0 S).bind fun zv6 => (f_M_findOf_31 ip_FU p1 p2 p3 zv2 zv4 0 zv6 1 S))))
set_option maxRecDepth 10000 in
theorem T_M_findOf {p1 : Int32} {p2 : Int32} {p3 : Int32} {S : ip_St} {r : Int32} (h : f_M_findOf p1 p2 p3 S = some r) : ip_Me 168 [.ref 30, .int p1, .int p2, .int p3] S (some (.int r)) S := by
  unfold f_M_findOf at h
  refine ⟨[some (.ref 30), some (.int p1), some (.int p2), some (.int p3), none, none, none, none, none, none, none, none, none, none], rfl, ?_⟩
  refine ip_Ev.steps 2 (pc' := 2) (lv' := [some (.ref 30), some (.int p1), some (.int p2), some (.int p3), none, none, none, none, none, none, none, none, none, none]) (st' := [.int p1, .ref 30]) (S1 := S) rfl ?_
  obtain ⟨zv2, hzq1, h⟩ := ip_bind h
  refine ip_Ev.call (i := 138) (a := [.ref 30, .int p1]) (r := []) rfl (T_M_waysOf hzq1) ?_
  show ip_Ev 168 5 [some (.ref 30), some (.int p1), some (.int p2), some (.int p3), none, none, none, none, none, none, none, none, none, none] [.long zv2] S _ _
  refine ip_Ev.steps 3 (pc' := 9) (lv' := [some (.ref 30), some (.int p1), some (.int p2), some (.int p3), some (.long zv2), none, none, none, none, none, none, none, none, none]) (st' := [.int p1, .ref 30]) (S1 := S) rfl ?_
  obtain ⟨zv4, hzq3, h⟩ := ip_bind h
  refine ip_Ev.call (i := 140) (a := [.ref 30, .int p1]) (r := []) rfl (T_M_freesOf hzq3) ?_
  show ip_Ev 168 12 [some (.ref 30), some (.int p1), some (.int p2), some (.int p3), some (.long zv2), none, none, none, none, none, none, none, none, none] [.long zv4] S _ _
  refine ip_Ev.steps 7 (pc' := 23) (lv' := [some (.ref 30), some (.int p1), some (.int p2), some (.int p3), some (.long zv2), none, some (.long zv4), none, some (.int 0), none, none, none, none, none]) (st' := [.int 0, .long zv4, .long zv2, .ref 30]) (S1 := S) rfl ?_
  obtain ⟨zv6, hzq5, h⟩ := ip_bind h
  refine ip_Ev.call (i := 166) (a := [.ref 30, .long zv2, .long zv4, .int 0]) (r := []) rfl (T_M_freeBy hzq5) ?_
  show ip_Ev 168 26 [some (.ref 30), some (.int p1), some (.int p2), some (.int p3), some (.long zv2), none, some (.long zv4), none, some (.int 0), none, none, none, none, none] [.int zv6] S _ _
  refine ip_Ev.steps 3 (pc' := 31) (lv' := [some (.ref 30), some (.int p1), some (.int p2), some (.int p3), some (.long zv2), none, some (.long zv4), none, some (.int 0), some (.int zv6), some (.int 1), none, none, none]) (st' := []) (S1 := S) rfl ?_
  exact E_M_findOf_31 ip_FU h
-- M_find
def f_M_find (p1 : Int32) (p2 : Int32) (p3 : Int32) (S : ip_St) : Option (Int32) := (if (f_M_isJudge p1 S) = true then (if (f_M_in (Int32.toInt64 p2) 1 3) = false then some (-102) else (if (f_M_in (Int32.toInt64 p3) 0 1) = false then some (-102) else ((f_M_findOf p1 p2 p3 S).bind fun zv5 => some zv5))) else some (-101))
set_option maxRecDepth 10000 in
theorem T_M_find {p1 : Int32} {p2 : Int32} {p3 : Int32} {S : ip_St} {r : Int32} (h : f_M_find p1 p2 p3 S = some r) : ip_Me 169 [.ref 30, .int p1, .int p2, .int p3] S (some (.int r)) S := by
  unfold f_M_find at h
  refine ⟨[some (.ref 30), some (.int p1), some (.int p2), some (.int p3)], rfl, ?_⟩
  refine ip_Ev.steps 2 (pc' := 2) (lv' := [some (.ref 30), some (.int p1), some (.int p2), some (.int p3)]) (st' := [.int p1, .ref 30]) (S1 := S) rfl ?_
  refine ip_Ev.call (i := 135) (a := [.ref 30, .int p1]) (r := []) rfl (T_M_isJudge rfl) ?_
  show ip_Ev 169 5 [some (.ref 30), some (.int p1), some (.int p2), some (.int p3)] [.int (ip_b2i (f_M_isJudge p1 S))] S _ _
  refine ip_Ev.iff1 rfl rfl ip_bNe (fun zhc1 => ?_) (fun zhc1 => ?_)
  · rw [if_pos zhc1] at h
    refine ip_Ev.steps 4 (pc' := 17) (lv' := [some (.ref 30), some (.int p1), some (.int p2), some (.int p3)]) (st' := [.long 3, .long 1, .long (Int32.toInt64 p2)]) (S1 := S) rfl ?_
    refine ip_Ev.call (i := 101) (a := [.long (Int32.toInt64 p2), .long 1, .long 3]) (r := []) rfl (T_M_in rfl) ?_
    show ip_Ev 169 20 [some (.ref 30), some (.int p1), some (.int p2), some (.int p3)] [.int (ip_b2i (f_M_in (Int32.toInt64 p2) 1 3))] S _ _
    refine ip_Ev.iff1 rfl rfl ip_bEq (fun zhc2 => ?_) (fun zhc2 => ?_)
    · rw [if_pos zhc2] at h
      refine ip_Ev.steps 1 (pc' := 45) (lv' := [some (.ref 30), some (.int p1), some (.int p2), some (.int p3)]) (st' := [.int (-102)]) (S1 := S) rfl ?_
      cases h
      exact ip_Ev.ret rfl
    · rw [if_neg zhc2] at h
      refine ip_Ev.steps 4 (pc' := 27) (lv' := [some (.ref 30), some (.int p1), some (.int p2), some (.int p3)]) (st' := [.long 1, .long 0, .long (Int32.toInt64 p3)]) (S1 := S) rfl ?_
      refine ip_Ev.call (i := 101) (a := [.long (Int32.toInt64 p3), .long 0, .long 1]) (r := []) rfl (T_M_in rfl) ?_
      show ip_Ev 169 30 [some (.ref 30), some (.int p1), some (.int p2), some (.int p3)] [.int (ip_b2i (f_M_in (Int32.toInt64 p3) 0 1))] S _ _
      refine ip_Ev.iff1 rfl rfl ip_bEq (fun zhc3 => ?_) (fun zhc3 => ?_)
      · rw [if_pos zhc3] at h
        refine ip_Ev.steps 1 (pc' := 45) (lv' := [some (.ref 30), some (.int p1), some (.int p2), some (.int p3)]) (st' := [.int (-102)]) (S1 := S) rfl ?_
        cases h
        exact ip_Ev.ret rfl
      · rw [if_neg zhc3] at h
        refine ip_Ev.steps 4 (pc' := 37) (lv' := [some (.ref 30), some (.int p1), some (.int p2), some (.int p3)]) (st' := [.int p3, .int p2, .int p1, .ref 30]) (S1 := S) rfl ?_
        obtain ⟨zv5, hzq4, h⟩ := ip_bind h
        refine ip_Ev.call (i := 168) (a := [.ref 30, .int p1, .int p2, .int p3]) (r := []) rfl (T_M_findOf hzq4) ?_
        show ip_Ev 169 40 [some (.ref 30), some (.int p1), some (.int p2), some (.int p3)] [.int zv5] S _ _
        refine ip_Ev.steps 1 (pc' := 45) (lv' := [some (.ref 30), some (.int p1), some (.int p2), some (.int p3)]) (st' := [.int zv5]) (S1 := S) rfl ?_
        cases h
        exact ip_Ev.ret rfl
  · rw [if_neg zhc1] at h
    refine ip_Ev.steps 1 (pc' := 10) (lv' := [some (.ref 30), some (.int p1), some (.int p2), some (.int p3)]) (st' := [.int (-101)]) (S1 := S) rfl ?_
    cases h
    exact ip_Ev.ret rfl
-- A_bench
def f_A_bench_19 : Nat → Int32 → Int32 → Int32 → Int32 → ip_St → Option (Int32)
  | 0, _, _, _, _, _ => none
  | n + 1, x1, x2, x3, x4, S => (if (S.1 12 1) ≤ x4 then some x1 else ((ip_aA 13 x4).bind fun zv2 => ((f_A_freeWays zv2 S).bind fun zv4 => ((ip_aA 13 x4).bind fun zv5 => ((f_J_worlds zv5 S).bind fun zv7 => (if ((f_G_bitCount zv4) * x3) ≤ (x2 * (f_G_bitCount zv7)) then (f_A_bench_19 n x1 x2 x3 (x4 + 1) S) else (f_A_bench_19 n x4 (f_G_bitCount zv4) (f_G_bitCount zv7) (x4 + 1) S)))))))
set_option maxRecDepth 10000 in
theorem E_A_bench_19 : ∀ (n : Nat) {x1 : Int32} {x2 : Int32} {x3 : Int32} {x4 : Int32} {S : ip_St} {r : Int32} {d5 : Option Value} {d6 : Option Value}, f_A_bench_19 n x1 x2 x3 x4 S = some r → ip_Ev 81 19 [some (.ref 0), some (.int x1), some (.int x2), some (.int x3), some (.int x4), d5, d6] [] S (some (.int r)) S := by
  intro n
  induction n with
  | zero =>
    intro x1 x2 x3 x4 S r d5 d6 h
    cases h
  | succ n ih =>
    intro x1 x2 x3 x4 S r d5 d6 h
    rw [f_A_bench_19] at h
    refine ip_Ev.steps 4 (pc' := 28) (lv' := [some (.ref 0), some (.int x1), some (.int x2), some (.int x3), some (.int x4), d5, d6]) (st' := [.int (S.1 12 1), .int x4]) (S1 := S) rfl ?_
    refine ip_Ev.iff2 rfl rfl ip_cGe (fun zhc1 => ?_) (fun zhc1 => ?_)
    · rw [if_pos zhc1] at h
      refine ip_Ev.steps 1 (pc' := 95) (lv' := [some (.ref 0), some (.int x1), some (.int x2), some (.int x3), some (.int x4), d5, d6]) (st' := [.int x1]) (S1 := S) rfl ?_
      cases h
      exact ip_Ev.ret rfl
    · rw [if_neg zhc1] at h
      refine ip_Ev.steps 5 (pc' := 41) (lv' := [some (.ref 0), some (.int x1), some (.int x2), some (.int x3), some (.int x4), d5, d6]) (st' := [.int x4, .ref 13, .ref 0]) (S1 := S) rfl ?_
      obtain ⟨zv2, hzv2, h⟩ := ip_bind h
      refine ip_Ev.aald rfl hzv2 ?_
      have hozv2 := ip_aA_ob hzv2
      obtain ⟨zv4, hzq3, h⟩ := ip_bind h
      refine ip_Ev.call (i := 48) (a := [.ref 0, .ref zv2]) (r := []) rfl (T_A_freeWays hozv2 hzq3) ?_
      show ip_Ev 81 45 [some (.ref 0), some (.int x1), some (.int x2), some (.int x3), some (.int x4), d5, d6] [.long zv4] S _ _
      refine ip_Ev.call (i := 31) (a := [.long zv4]) (r := []) rfl (T_G_bitCount rfl) ?_
      show ip_Ev 81 48 [some (.ref 0), some (.int x1), some (.int x2), some (.int x3), some (.int x4), d5, d6] [.int (f_G_bitCount zv4)] S _ _
      refine ip_Ev.steps 5 (pc' := 59) (lv' := [some (.ref 0), some (.int x1), some (.int x2), some (.int x3), some (.int x4), some (.int (f_G_bitCount zv4)), d6]) (st' := [.int x4, .ref 13]) (S1 := S) rfl ?_
      obtain ⟨zv5, hzv5, h⟩ := ip_bind h
      refine ip_Ev.aald rfl hzv5 ?_
      have hozv5 := ip_aA_ob hzv5
      obtain ⟨zv7, hzq6, h⟩ := ip_bind h
      refine ip_Ev.callJ (i := 45) (b := zv5) (a := []) (r := []) rfl rfl rfl rfl hozv5 rfl rfl (T_J_worlds hozv5 hzq6) ?_
      show ip_Ev 81 63 [some (.ref 0), some (.int x1), some (.int x2), some (.int x3), some (.int x4), some (.int (f_G_bitCount zv4)), d6] [.long zv7] S _ _
      refine ip_Ev.call (i := 31) (a := [.long zv7]) (r := []) rfl (T_G_bitCount rfl) ?_
      show ip_Ev 81 66 [some (.ref 0), some (.int x1), some (.int x2), some (.int x3), some (.int x4), some (.int (f_G_bitCount zv4)), d6] [.int (f_G_bitCount zv7)] S _ _
      refine ip_Ev.steps 7 (pc' := 76) (lv' := [some (.ref 0), some (.int x1), some (.int x2), some (.int x3), some (.int x4), some (.int (f_G_bitCount zv4)), some (.int (f_G_bitCount zv7))]) (st' := [.int (x2 * (f_G_bitCount zv7)), .int ((f_G_bitCount zv4) * x3)]) (S1 := S) rfl ?_
      refine ip_Ev.iff2 rfl rfl ip_cLe (fun zhc8 => ?_) (fun zhc8 => ?_)
      · rw [if_pos zhc8] at h
        refine ip_Ev.steps 2 (pc' := 19) (lv' := [some (.ref 0), some (.int x1), some (.int x2), some (.int x3), some (.int (x4 + 1)), some (.int (f_G_bitCount zv4)), some (.int (f_G_bitCount zv7))]) (st' := []) (S1 := S) rfl ?_
        exact ih h
      · rw [if_neg zhc8] at h
        refine ip_Ev.steps 8 (pc' := 19) (lv' := [some (.ref 0), some (.int x4), some (.int (f_G_bitCount zv4)), some (.int (f_G_bitCount zv7)), some (.int (x4 + 1)), some (.int (f_G_bitCount zv4)), some (.int (f_G_bitCount zv7))]) (st' := []) (S1 := S) rfl ?_
        exact ih h
def f_A_bench  (S : ip_St) : Option (Int32) := (if (f_A_hasCourt S) = true then (f_A_bench_19 ip_FU 0 0 1 0 S) else some (-103))
set_option maxRecDepth 10000 in
theorem T_A_bench  {S : ip_St} {r : Int32} (h : f_A_bench S = some r) : ip_Me 81 [.ref 0] S (some (.int r)) S := by
  unfold f_A_bench at h
  refine ⟨[some (.ref 0), none, none, none, none, none, none], rfl, ?_⟩
  refine ip_Ev.steps 1 (pc' := 1) (lv' := [some (.ref 0), none, none, none, none, none, none]) (st' := [.ref 0]) (S1 := S) rfl ?_
  refine ip_Ev.call (i := 30) (a := [.ref 0]) (r := []) rfl (T_A_hasCourt rfl) ?_
  show ip_Ev 81 4 [some (.ref 0), none, none, none, none, none, none] [.int (ip_b2i (f_A_hasCourt S))] S _ _
  refine ip_Ev.iff1 rfl rfl ip_bNe (fun zhc1 => ?_) (fun zhc1 => ?_)
  · rw [if_pos zhc1] at h
    refine ip_Ev.steps 8 (pc' := 19) (lv' := [some (.ref 0), some (.int 0), some (.int 0), some (.int 1), some (.int 0), none, none]) (st' := []) (S1 := S) rfl ?_
    exact E_A_bench_19 ip_FU h
  · rw [if_neg zhc1] at h
    refine ip_Ev.steps 1 (pc' := 9) (lv' := [some (.ref 0), none, none, none, none, none, none]) (st' := [.int (-103)]) (S1 := S) rfl ?_
    cases h
    exact ip_Ev.ret rfl
-- M_benchOf
def f_M_benchOf_4 : Nat → Int32 → Int32 → ip_St → Option (Int32 × ip_St)
  | 0, _, _, _ => none
  | n + 1, x1, x2, S => (if (S.1 30 18) ≤ x2 then some (x1, S) else ((f_M_tellJudge x2 2 S).bind fun zq2 => ((f_M_tellJudge x1 1 zq2.2).bind fun zq5 => ((f_M_tellJudge x1 2 zq5.2).bind fun zq8 => ((f_M_tellJudge x2 1 zq8.2).bind fun zq11 => (if (zq2.1 * zq5.1) ≤ (zq8.1 * zq11.1) then (f_M_benchOf_4 n x1 (x2 + 1) zq11.2) else (f_M_benchOf_4 n x2 (x2 + 1) zq11.2)))))))
set_option maxRecDepth 10000 in
theorem E_M_benchOf_4 : ∀ (n : Nat) {x1 : Int32} {x2 : Int32} {S : ip_St} {r : Int32} {S9 : ip_St} {d3 : Option Value} {d4 : Option Value}, f_M_benchOf_4 n x1 x2 S = some (r, S9) → ip_Ev 170 4 [some (.ref 30), some (.int x1), some (.int x2), d3, d4] [] S (some (.int r)) S9 := by
  intro n
  induction n with
  | zero =>
    intro x1 x2 S r S9 d3 d4 h
    cases h
  | succ n ih =>
    intro x1 x2 S r S9 d3 d4 h
    rw [f_M_benchOf_4] at h
    refine ip_Ev.steps 3 (pc' := 9) (lv' := [some (.ref 30), some (.int x1), some (.int x2), d3, d4]) (st' := [.int (S.1 30 18), .int x2]) (S1 := S) rfl ?_
    refine ip_Ev.iff2 rfl rfl ip_cGe (fun zhc1 => ?_) (fun zhc1 => ?_)
    · rw [if_pos zhc1] at h
      refine ip_Ev.steps 1 (pc' := 60) (lv' := [some (.ref 30), some (.int x1), some (.int x2), d3, d4]) (st' := [.int x1]) (S1 := S) rfl ?_
      cases h
      exact ip_Ev.ret rfl
    · rw [if_neg zhc1] at h
      refine ip_Ev.steps 3 (pc' := 15) (lv' := [some (.ref 30), some (.int x1), some (.int x2), d3, d4]) (st' := [.int 2, .int x2, .ref 30]) (S1 := S) rfl ?_
      obtain ⟨⟨zv3, zS4⟩, hzq2, h⟩ := ip_bind h
      dsimp only at h
      refine ip_Ev.call (i := 153) (a := [.ref 30, .int x2, .int 2]) (r := []) rfl (T_M_tellJudge hzq2) ?_
      show ip_Ev 170 18 [some (.ref 30), some (.int x1), some (.int x2), d3, d4] [.int zv3] zS4 _ _
      refine ip_Ev.steps 3 (pc' := 21) (lv' := [some (.ref 30), some (.int x1), some (.int x2), d3, d4]) (st' := [.int 1, .int x1, .ref 30, .int zv3]) (S1 := zS4) rfl ?_
      obtain ⟨⟨zv6, zS7⟩, hzq5, h⟩ := ip_bind h
      dsimp only at h
      refine ip_Ev.call (i := 153) (a := [.ref 30, .int x1, .int 1]) (r := [.int zv3]) rfl (T_M_tellJudge hzq5) ?_
      show ip_Ev 170 24 [some (.ref 30), some (.int x1), some (.int x2), d3, d4] [.int zv6, .int zv3] zS7 _ _
      refine ip_Ev.steps 5 (pc' := 29) (lv' := [some (.ref 30), some (.int x1), some (.int x2), some (.int (zv3 * zv6)), d4]) (st' := [.int 2, .int x1, .ref 30]) (S1 := zS7) rfl ?_
      obtain ⟨⟨zv9, zS10⟩, hzq8, h⟩ := ip_bind h
      dsimp only at h
      refine ip_Ev.call (i := 153) (a := [.ref 30, .int x1, .int 2]) (r := []) rfl (T_M_tellJudge hzq8) ?_
      show ip_Ev 170 32 [some (.ref 30), some (.int x1), some (.int x2), some (.int (zv3 * zv6)), d4] [.int zv9] zS10 _ _
      refine ip_Ev.steps 3 (pc' := 35) (lv' := [some (.ref 30), some (.int x1), some (.int x2), some (.int (zv3 * zv6)), d4]) (st' := [.int 1, .int x2, .ref 30, .int zv9]) (S1 := zS10) rfl ?_
      obtain ⟨⟨zv12, zS13⟩, hzq11, h⟩ := ip_bind h
      dsimp only at h
      refine ip_Ev.call (i := 153) (a := [.ref 30, .int x2, .int 1]) (r := [.int zv9]) rfl (T_M_tellJudge hzq11) ?_
      show ip_Ev 170 38 [some (.ref 30), some (.int x1), some (.int x2), some (.int (zv3 * zv6)), d4] [.int zv12, .int zv9] zS13 _ _
      refine ip_Ev.steps 4 (pc' := 44) (lv' := [some (.ref 30), some (.int x1), some (.int x2), some (.int (zv3 * zv6)), some (.int (zv9 * zv12))]) (st' := [.int (zv9 * zv12), .int (zv3 * zv6)]) (S1 := zS13) rfl ?_
      refine ip_Ev.iff2 rfl rfl ip_cLe (fun zhc14 => ?_) (fun zhc14 => ?_)
      · rw [if_pos zhc14] at h
        refine ip_Ev.steps 4 (pc' := 4) (lv' := [some (.ref 30), some (.int x1), some (.int (x2 + 1)), some (.int (zv3 * zv6)), some (.int (zv9 * zv12))]) (st' := []) (S1 := zS13) rfl ?_
        exact ih h
      · rw [if_neg zhc14] at h
        refine ip_Ev.steps 5 (pc' := 4) (lv' := [some (.ref 30), some (.int x2), some (.int (x2 + 1)), some (.int (zv3 * zv6)), some (.int (zv9 * zv12))]) (st' := []) (S1 := zS13) rfl ?_
        exact ih h
def f_M_benchOf  (S : ip_St) : Option (Int32 × ip_St) := (f_M_benchOf_4 ip_FU 0 1 S)
set_option maxRecDepth 10000 in
theorem T_M_benchOf  {S : ip_St} {r : Int32} {S9 : ip_St} (h : f_M_benchOf S = some (r, S9)) : ip_Me 170 [.ref 30] S (some (.int r)) S9 := by
  unfold f_M_benchOf at h
  refine ⟨[some (.ref 30), none, none, none, none], rfl, ?_⟩
  refine ip_Ev.steps 4 (pc' := 4) (lv' := [some (.ref 30), some (.int 0), some (.int 1), none, none]) (st' := []) (S1 := S) rfl ?_
  exact E_M_benchOf_4 ip_FU h
-- M_bench
def f_M_bench  (S : ip_St) : Option (Int32 × ip_St) := (if (f_M_lacks S) = false then ((f_M_benchOf S).bind fun zq2 => some (zq2.1, zq2.2)) else some ((-103), S))
set_option maxRecDepth 10000 in
theorem T_M_bench  {S : ip_St} {r : Int32} {S9 : ip_St} (h : f_M_bench S = some (r, S9)) : ip_Me 171 [.ref 30] S (some (.int r)) S9 := by
  unfold f_M_bench at h
  refine ⟨[some (.ref 30)], rfl, ?_⟩
  refine ip_Ev.steps 1 (pc' := 1) (lv' := [some (.ref 30)]) (st' := [.ref 30]) (S1 := S) rfl ?_
  refine ip_Ev.call (i := 126) (a := [.ref 30]) (r := []) rfl (T_M_lacks rfl) ?_
  show ip_Ev 171 4 [some (.ref 30)] [.int (ip_b2i (f_M_lacks S))] S _ _
  refine ip_Ev.iff1 rfl rfl ip_bEq (fun zhc1 => ?_) (fun zhc1 => ?_)
  · rw [if_pos zhc1] at h
    refine ip_Ev.steps 1 (pc' := 13) (lv' := [some (.ref 30)]) (st' := [.ref 30]) (S1 := S) rfl ?_
    obtain ⟨⟨zv3, zS4⟩, hzq2, h⟩ := ip_bind h
    dsimp only at h
    refine ip_Ev.call (i := 170) (a := [.ref 30]) (r := []) rfl (T_M_benchOf hzq2) ?_
    show ip_Ev 171 16 [some (.ref 30)] [.int zv3] zS4 _ _
    cases h
    exact ip_Ev.ret rfl
  · rw [if_neg zhc1] at h
    refine ip_Ev.steps 2 (pc' := 16) (lv' := [some (.ref 30)]) (st' := [.int (-103)]) (S1 := S) rfl ?_
    cases h
    exact ip_Ev.ret rfl
-- D_keepSeen_12
def f_D_keepSeen_12 (p1 : Int32) (p2 : Int32) (p3 : Int32) (p4 : Int32) (S : ip_St) : Option (ip_St) := (if 8 ≤ (S.1 12 6) then some S else ((ip_wI S 18 (S.1 12 6) (((((p1 * 6) + p2) * 4) + (p3 * 2)) + p4)).bind fun zS2 => some (ip_upI zS2 12 6 ((zS2.1 12 6) + 1))))
set_option maxRecDepth 10000 in
theorem T_D_keepSeen_12 {p1 : Int32} {p2 : Int32} {p3 : Int32} {p4 : Int32} {S : ip_St} {S9 : ip_St} (h : f_D_keepSeen_12 p1 p2 p3 p4 S = some S9) : ip_Me 82 [.ref 12, .int p1, .int p2, .int p3, .int p4] S none S9 := by
  unfold f_D_keepSeen_12 at h
  refine ⟨[some (.ref 12), some (.int p1), some (.int p2), some (.int p3), some (.int p4)], rfl, ?_⟩
  refine ip_Ev.steps 3 (pc' := 6) (lv' := [some (.ref 12), some (.int p1), some (.int p2), some (.int p3), some (.int p4)]) (st' := [.int 8, .int (S.1 12 6)]) (S1 := S) rfl ?_
  refine ip_Ev.iff2 rfl rfl ip_cGe (fun zhc1 => ?_) (fun zhc1 => ?_)
  · rw [if_pos zhc1] at h
    cases h
    exact ip_Ev.ret rfl
  · rw [if_neg zhc1] at h
    refine ip_Ev.steps 12 (pc' := 26) (lv' := [some (.ref 12), some (.int p1), some (.int p2), some (.int p3), some (.int p4)]) (st' := [.int p3, .int (((p1 * 6) + p2) * 4), .int (S.1 12 6), .ref 18]) (S1 := S) rfl ?_
    refine ip_Ev.steps 5 (pc' := 32) (lv' := [some (.ref 12), some (.int p1), some (.int p2), some (.int p3), some (.int p4)]) (st' := [.int (((((p1 * 6) + p2) * 4) + (p3 * 2)) + p4), .int (S.1 12 6), .ref 18]) (S1 := S) rfl ?_
    obtain ⟨zS2, hzS2, h⟩ := ip_bind h
    refine ip_Ev.iast rfl hzS2 ?_
    refine ip_Ev.steps 6 (pc' := 43) (lv' := [some (.ref 12), some (.int p1), some (.int p2), some (.int p3), some (.int p4)]) (st' := []) (S1 := (ip_upI zS2 12 6 ((zS2.1 12 6) + 1))) rfl ?_
    cases h
    exact ip_Ev.ret rfl
-- A_see
def f_A_see (p1 : Int32) (p2 : Int32) (p3 : Int32) (p4 : Int32) (S : ip_St) : Option (Int32 × ip_St) := (if (f_A_isJudge p1 S) = false then some ((-101), S) else (if (f_A_isFact p2) = true then (if (f_A_isAnswer p3) = false then some ((-102), S) else (if (f_A_isAnswer p4) = true then (if (S.1 12 6) < 8 then ((f_D_keepSeen_12 p1 p2 p3 p4 S).bind fun zS7 => some ((zS7.1 12 6), zS7)) else some ((-104), S)) else some ((-102), S))) else some ((-101), S)))
set_option maxRecDepth 10000 in
theorem T_A_see {p1 : Int32} {p2 : Int32} {p3 : Int32} {p4 : Int32} {S : ip_St} {r : Int32} {S9 : ip_St} (h : f_A_see p1 p2 p3 p4 S = some (r, S9)) : ip_Me 83 [.ref 0, .int p1, .int p2, .int p3, .int p4] S (some (.int r)) S9 := by
  unfold f_A_see at h
  refine ⟨[some (.ref 0), some (.int p1), some (.int p2), some (.int p3), some (.int p4)], rfl, ?_⟩
  refine ip_Ev.steps 2 (pc' := 2) (lv' := [some (.ref 0), some (.int p1), some (.int p2), some (.int p3), some (.int p4)]) (st' := [.int p1, .ref 0]) (S1 := S) rfl ?_
  refine ip_Ev.call (i := 40) (a := [.ref 0, .int p1]) (r := []) rfl (T_A_isJudge rfl) ?_
  show ip_Ev 83 5 [some (.ref 0), some (.int p1), some (.int p2), some (.int p3), some (.int p4)] [.int (ip_b2i (f_A_isJudge p1 S))] S _ _
  refine ip_Ev.iff1 rfl rfl ip_bEq (fun zhc1 => ?_) (fun zhc1 => ?_)
  · rw [if_pos zhc1] at h
    refine ip_Ev.steps 1 (pc' := 17) (lv' := [some (.ref 0), some (.int p1), some (.int p2), some (.int p3), some (.int p4)]) (st' := [.int (-101)]) (S1 := S) rfl ?_
    cases h
    exact ip_Ev.ret rfl
  · rw [if_neg zhc1] at h
    refine ip_Ev.steps 1 (pc' := 9) (lv' := [some (.ref 0), some (.int p1), some (.int p2), some (.int p3), some (.int p4)]) (st' := [.int p2]) (S1 := S) rfl ?_
    refine ip_Ev.call (i := 74) (a := [.int p2]) (r := []) rfl (T_A_isFact rfl) ?_
    show ip_Ev 83 12 [some (.ref 0), some (.int p1), some (.int p2), some (.int p3), some (.int p4)] [.int (ip_b2i (f_A_isFact p2))] S _ _
    refine ip_Ev.iff1 rfl rfl ip_bNe (fun zhc2 => ?_) (fun zhc2 => ?_)
    · rw [if_pos zhc2] at h
      refine ip_Ev.steps 1 (pc' := 19) (lv' := [some (.ref 0), some (.int p1), some (.int p2), some (.int p3), some (.int p4)]) (st' := [.int p3]) (S1 := S) rfl ?_
      refine ip_Ev.call (i := 75) (a := [.int p3]) (r := []) rfl (T_A_isAnswer rfl) ?_
      show ip_Ev 83 22 [some (.ref 0), some (.int p1), some (.int p2), some (.int p3), some (.int p4)] [.int (ip_b2i (f_A_isAnswer p3))] S _ _
      refine ip_Ev.iff1 rfl rfl ip_bEq (fun zhc3 => ?_) (fun zhc3 => ?_)
      · rw [if_pos zhc3] at h
        refine ip_Ev.steps 1 (pc' := 35) (lv' := [some (.ref 0), some (.int p1), some (.int p2), some (.int p3), some (.int p4)]) (st' := [.int (-102)]) (S1 := S) rfl ?_
        cases h
        exact ip_Ev.ret rfl
      · rw [if_neg zhc3] at h
        refine ip_Ev.steps 1 (pc' := 27) (lv' := [some (.ref 0), some (.int p1), some (.int p2), some (.int p3), some (.int p4)]) (st' := [.int p4]) (S1 := S) rfl ?_
        refine ip_Ev.call (i := 75) (a := [.int p4]) (r := []) rfl (T_A_isAnswer rfl) ?_
        show ip_Ev 83 30 [some (.ref 0), some (.int p1), some (.int p2), some (.int p3), some (.int p4)] [.int (ip_b2i (f_A_isAnswer p4))] S _ _
        refine ip_Ev.iff1 rfl rfl ip_bNe (fun zhc4 => ?_) (fun zhc4 => ?_)
        · rw [if_pos zhc4] at h
          refine ip_Ev.steps 4 (pc' := 45) (lv' := [some (.ref 0), some (.int p1), some (.int p2), some (.int p3), some (.int p4)]) (st' := [.int 8, .int (S.1 12 6)]) (S1 := S) rfl ?_
          refine ip_Ev.iff2 rfl rfl ip_cLt (fun zhc5 => ?_) (fun zhc5 => ?_)
          · rw [if_pos zhc5] at h
            refine ip_Ev.steps 6 (pc' := 60) (lv' := [some (.ref 0), some (.int p1), some (.int p2), some (.int p3), some (.int p4)]) (st' := [.int p4, .int p3, .int p2, .int p1, .ref 12]) (S1 := S) rfl ?_
            obtain ⟨zS7, hzq6, h⟩ := ip_bind h
            refine ip_Ev.call (i := 82) (a := [.ref 12, .int p1, .int p2, .int p3, .int p4]) (r := []) rfl (T_D_keepSeen_12 hzq6) ?_
            show ip_Ev 83 63 [some (.ref 0), some (.int p1), some (.int p2), some (.int p3), some (.int p4)] [] zS7 _ _
            refine ip_Ev.steps 3 (pc' := 70) (lv' := [some (.ref 0), some (.int p1), some (.int p2), some (.int p3), some (.int p4)]) (st' := [.int (zS7.1 12 6)]) (S1 := zS7) rfl ?_
            cases h
            exact ip_Ev.ret rfl
          · rw [if_neg zhc5] at h
            refine ip_Ev.steps 1 (pc' := 50) (lv' := [some (.ref 0), some (.int p1), some (.int p2), some (.int p3), some (.int p4)]) (st' := [.int (-104)]) (S1 := S) rfl ?_
            cases h
            exact ip_Ev.ret rfl
        · rw [if_neg zhc4] at h
          refine ip_Ev.steps 1 (pc' := 35) (lv' := [some (.ref 0), some (.int p1), some (.int p2), some (.int p3), some (.int p4)]) (st' := [.int (-102)]) (S1 := S) rfl ?_
          cases h
          exact ip_Ev.ret rfl
    · rw [if_neg zhc2] at h
      refine ip_Ev.steps 1 (pc' := 17) (lv' := [some (.ref 0), some (.int p1), some (.int p2), some (.int p3), some (.int p4)]) (st' := [.int (-101)]) (S1 := S) rfl ?_
      cases h
      exact ip_Ev.ret rfl
-- M_see
def f_M_see (p1 : Int32) (p2 : Int32) (p3 : Int32) (p4 : Int32) (S : ip_St) : Option (Int32 × ip_St) := (if (f_M_isJudge p1 S) = false then some ((-101), S) else (if (f_M_isFact p2) = true then (if (f_M_isBit p3) = false then some ((-102), S) else (if (f_M_isBit p4) = true then (if (S.1 30 29) = 8 then some ((-104), S) else ((ip_wI S 49 (4 * (S.1 30 29)) p1).bind fun zS6 => ((ip_wI zS6 49 ((4 * (zS6.1 30 29)) + 1) p2).bind fun zS7 => ((ip_wI zS7 49 ((4 * (zS7.1 30 29)) + 2) p3).bind fun zS8 => ((ip_wI zS8 49 ((4 * (zS8.1 30 29)) + 3) p4).bind fun zS9 => some (((ip_upI zS9 30 29 ((zS9.1 30 29) + 1)).1 30 29), (ip_upI zS9 30 29 ((zS9.1 30 29) + 1)))))))) else some ((-102), S))) else some ((-101), S)))
set_option maxRecDepth 10000 in
theorem T_M_see {p1 : Int32} {p2 : Int32} {p3 : Int32} {p4 : Int32} {S : ip_St} {r : Int32} {S9 : ip_St} (h : f_M_see p1 p2 p3 p4 S = some (r, S9)) : ip_Me 172 [.ref 30, .int p1, .int p2, .int p3, .int p4] S (some (.int r)) S9 := by
  unfold f_M_see at h
  refine ⟨[some (.ref 30), some (.int p1), some (.int p2), some (.int p3), some (.int p4)], rfl, ?_⟩
  refine ip_Ev.steps 2 (pc' := 2) (lv' := [some (.ref 30), some (.int p1), some (.int p2), some (.int p3), some (.int p4)]) (st' := [.int p1, .ref 30]) (S1 := S) rfl ?_
  refine ip_Ev.call (i := 135) (a := [.ref 30, .int p1]) (r := []) rfl (T_M_isJudge rfl) ?_
  show ip_Ev 172 5 [some (.ref 30), some (.int p1), some (.int p2), some (.int p3), some (.int p4)] [.int (ip_b2i (f_M_isJudge p1 S))] S _ _
  refine ip_Ev.iff1 rfl rfl ip_bEq (fun zhc1 => ?_) (fun zhc1 => ?_)
  · rw [if_pos zhc1] at h
    refine ip_Ev.steps 1 (pc' := 17) (lv' := [some (.ref 30), some (.int p1), some (.int p2), some (.int p3), some (.int p4)]) (st' := [.int (-101)]) (S1 := S) rfl ?_
    cases h
    exact ip_Ev.ret rfl
  · rw [if_neg zhc1] at h
    refine ip_Ev.steps 1 (pc' := 9) (lv' := [some (.ref 30), some (.int p1), some (.int p2), some (.int p3), some (.int p4)]) (st' := [.int p2]) (S1 := S) rfl ?_
    refine ip_Ev.call (i := 161) (a := [.int p2]) (r := []) rfl (T_M_isFact rfl) ?_
    show ip_Ev 172 12 [some (.ref 30), some (.int p1), some (.int p2), some (.int p3), some (.int p4)] [.int (ip_b2i (f_M_isFact p2))] S _ _
    refine ip_Ev.iff1 rfl rfl ip_bNe (fun zhc2 => ?_) (fun zhc2 => ?_)
    · rw [if_pos zhc2] at h
      refine ip_Ev.steps 1 (pc' := 19) (lv' := [some (.ref 30), some (.int p1), some (.int p2), some (.int p3), some (.int p4)]) (st' := [.int p3]) (S1 := S) rfl ?_
      refine ip_Ev.call (i := 162) (a := [.int p3]) (r := []) rfl (T_M_isBit rfl) ?_
      show ip_Ev 172 22 [some (.ref 30), some (.int p1), some (.int p2), some (.int p3), some (.int p4)] [.int (ip_b2i (f_M_isBit p3))] S _ _
      refine ip_Ev.iff1 rfl rfl ip_bEq (fun zhc3 => ?_) (fun zhc3 => ?_)
      · rw [if_pos zhc3] at h
        refine ip_Ev.steps 1 (pc' := 35) (lv' := [some (.ref 30), some (.int p1), some (.int p2), some (.int p3), some (.int p4)]) (st' := [.int (-102)]) (S1 := S) rfl ?_
        cases h
        exact ip_Ev.ret rfl
      · rw [if_neg zhc3] at h
        refine ip_Ev.steps 1 (pc' := 27) (lv' := [some (.ref 30), some (.int p1), some (.int p2), some (.int p3), some (.int p4)]) (st' := [.int p4]) (S1 := S) rfl ?_
        refine ip_Ev.call (i := 162) (a := [.int p4]) (r := []) rfl (T_M_isBit rfl) ?_
        show ip_Ev 172 30 [some (.ref 30), some (.int p1), some (.int p2), some (.int p3), some (.int p4)] [.int (ip_b2i (f_M_isBit p4))] S _ _
        refine ip_Ev.iff1 rfl rfl ip_bNe (fun zhc4 => ?_) (fun zhc4 => ?_)
        · rw [if_pos zhc4] at h
          refine ip_Ev.steps 3 (pc' := 42) (lv' := [some (.ref 30), some (.int p1), some (.int p2), some (.int p3), some (.int p4)]) (st' := [.int 8, .int (S.1 30 29)]) (S1 := S) rfl ?_
          refine ip_Ev.iff2 rfl rfl ip_cNe (fun zhc5 => ?_) (fun zhc5 => ?_)
          · rw [if_neg zhc5] at h
            refine ip_Ev.steps 7 (pc' := 59) (lv' := [some (.ref 30), some (.int p1), some (.int p2), some (.int p3), some (.int p4)]) (st' := [.int p1, .int (4 * (S.1 30 29)), .ref 49]) (S1 := S) rfl ?_
            obtain ⟨zS6, hzS6, h⟩ := ip_bind h
            refine ip_Ev.iast rfl hzS6 ?_
            refine ip_Ev.steps 9 (pc' := 73) (lv' := [some (.ref 30), some (.int p1), some (.int p2), some (.int p3), some (.int p4)]) (st' := [.int p2, .int ((4 * (zS6.1 30 29)) + 1), .ref 49]) (S1 := zS6) rfl ?_
            obtain ⟨zS7, hzS7, h⟩ := ip_bind h
            refine ip_Ev.iast rfl hzS7 ?_
            refine ip_Ev.steps 9 (pc' := 87) (lv' := [some (.ref 30), some (.int p1), some (.int p2), some (.int p3), some (.int p4)]) (st' := [.int p3, .int ((4 * (zS7.1 30 29)) + 2), .ref 49]) (S1 := zS7) rfl ?_
            obtain ⟨zS8, hzS8, h⟩ := ip_bind h
            refine ip_Ev.iast rfl hzS8 ?_
            refine ip_Ev.steps 9 (pc' := 102) (lv' := [some (.ref 30), some (.int p1), some (.int p2), some (.int p3), some (.int p4)]) (st' := [.int p4, .int ((4 * (zS8.1 30 29)) + 3), .ref 49]) (S1 := zS8) rfl ?_
            obtain ⟨zS9, hzS9, h⟩ := ip_bind h
            refine ip_Ev.iast rfl hzS9 ?_
            refine ip_Ev.steps 8 (pc' := 117) (lv' := [some (.ref 30), some (.int p1), some (.int p2), some (.int p3), some (.int p4)]) (st' := [.int ((ip_upI zS9 30 29 ((zS9.1 30 29) + 1)).1 30 29)]) (S1 := (ip_upI zS9 30 29 ((zS9.1 30 29) + 1))) rfl ?_
            cases h
            exact ip_Ev.ret rfl
          · rw [if_pos (Decidable.of_not_not zhc5)] at h
            refine ip_Ev.steps 1 (pc' := 47) (lv' := [some (.ref 30), some (.int p1), some (.int p2), some (.int p3), some (.int p4)]) (st' := [.int (-104)]) (S1 := S) rfl ?_
            cases h
            exact ip_Ev.ret rfl
        · rw [if_neg zhc4] at h
          refine ip_Ev.steps 1 (pc' := 35) (lv' := [some (.ref 30), some (.int p1), some (.int p2), some (.int p3), some (.int p4)]) (st' := [.int (-102)]) (S1 := S) rfl ?_
          cases h
          exact ip_Ev.ret rfl
    · rw [if_neg zhc2] at h
      refine ip_Ev.steps 1 (pc' := 17) (lv' := [some (.ref 30), some (.int p1), some (.int p2), some (.int p3), some (.int p4)]) (st' := [.int (-101)]) (S1 := S) rfl ?_
      cases h
      exact ip_Ev.ret rfl
-- A_forget
def f_A_forget  (S : ip_St) : Int32 × ip_St := ((S.1 12 6), (ip_upI S 12 6 0))
set_option maxRecDepth 10000 in
theorem T_A_forget  {S : ip_St} {r : Int32} {S9 : ip_St} (h : f_A_forget S = (r, S9)) : ip_Me 84 [.ref 0] S (some (.int r)) S9 := by
  unfold f_A_forget at h
  refine ⟨[some (.ref 0), none], rfl, ?_⟩
  refine ip_Ev.steps 9 (pc' := 17) (lv' := [some (.ref 0), some (.int (S.1 12 6))]) (st' := [.int (S.1 12 6)]) (S1 := (ip_upI S 12 6 0)) rfl ?_
  cases h
  exact ip_Ev.ret rfl
-- M_forget
def f_M_forget  (S : ip_St) : Int32 × ip_St := ((S.1 30 29), (ip_upI S 30 29 0))
set_option maxRecDepth 10000 in
theorem T_M_forget  {S : ip_St} {r : Int32} {S9 : ip_St} (h : f_M_forget S = (r, S9)) : ip_Me 173 [.ref 30] S (some (.int r)) S9 := by
  unfold f_M_forget at h
  refine ⟨[some (.ref 30), none], rfl, ?_⟩
  refine ip_Ev.steps 7 (pc' := 11) (lv' := [some (.ref 30), some (.int (S.1 30 29))]) (st' := [.int (S.1 30 29)]) (S1 := (ip_upI S 30 29 0)) rfl ?_
  cases h
  exact ip_Ev.ret rfl
-- A_nextSeed
def f_A_nextSeed (p0 : Int32) : Int32 := (Int64.toInt32 (((1103515245 * (Int32.toInt64 p0)) + 12345) &&& 2147483647))
set_option maxRecDepth 10000 in
theorem T_A_nextSeed {p0 : Int32} {S : ip_St} {r : Int32} (h : f_A_nextSeed p0 = r) : ip_Me 85 [.int p0] S (some (.int r)) S := by
  unfold f_A_nextSeed at h
  refine ⟨[some (.int p0)], rfl, ?_⟩
  refine ip_Ev.steps 9 (pc' := 15) (lv' := [some (.int p0)]) (st' := [.int (Int64.toInt32 (((1103515245 * (Int32.toInt64 p0)) + 12345) &&& 2147483647))]) (S1 := S) rfl ?_
  cases h
  exact ip_Ev.ret rfl
-- A_drawn
def f_A_drawn (p0 : Int32) (p1 : Int32) : Option (Int32) := (if p1 ≤ 0 then some 0 else (if p1 = 0 then none else some (ip_irem (ip_iushr p0 16) p1)))
set_option maxRecDepth 10000 in
theorem T_A_drawn {p0 : Int32} {p1 : Int32} {S : ip_St} {r : Int32} (h : f_A_drawn p0 p1 = some r) : ip_Me 86 [.int p0, .int p1] S (some (.int r)) S := by
  unfold f_A_drawn at h
  refine ⟨[some (.int p0), some (.int p1)], rfl, ?_⟩
  refine ip_Ev.steps 1 (pc' := 1) (lv' := [some (.int p0), some (.int p1)]) (st' := [.int p1]) (S1 := S) rfl ?_
  refine ip_Ev.iff1 rfl rfl ip_cLe (fun zhc1 => ?_) (fun zhc1 => ?_)
  · rw [if_pos zhc1] at h
    refine ip_Ev.steps 1 (pc' := 14) (lv' := [some (.int p0), some (.int p1)]) (st' := [.int 0]) (S1 := S) rfl ?_
    cases h
    exact ip_Ev.ret rfl
  · rw [if_neg zhc1] at h
    refine ip_Ev.steps 4 (pc' := 9) (lv' := [some (.int p0), some (.int p1)]) (st' := [.int p1, .int (ip_iushr p0 16)]) (S1 := S) rfl ?_
    have zhz2 : ¬ p1 = 0 := by
      intro hq
      rw [if_pos hq] at h
      cases h
    rw [if_neg zhz2] at h
    refine ip_Ev.irem rfl zhz2 ?_
    show ip_Ev 86 10 [some (.int p0), some (.int p1)] [.int (ip_irem (ip_iushr p0 16) p1)] S _ _
    refine ip_Ev.steps 1 (pc' := 14) (lv' := [some (.int p0), some (.int p1)]) (st' := [.int (ip_irem (ip_iushr p0 16) p1)]) (S1 := S) rfl ?_
    cases h
    exact ip_Ev.ret rfl
-- A_assizes
def f_A_assizes_94 (k49 : Int32 → Int32 → Int32 → Int32 → Int32 → Int32 → ip_St → Option (Int32)) : Nat → Int32 → Int32 → Int32 → Int32 → Int32 → Int32 → Nat → Int32 → Int32 → ip_St → Option (Int32)
  | 0, _, _, _, _, _, _, _, _, _, _ => none
  | n + 1, x1, x3, x4, x5, x6, x7, c8, x9, x10, S => (if 6 ≤ x10 then ((f_A_freed (S.1 c8 0) (S.2 17 0)).bind fun zv3 => (if (f_A_has zv3 x9) = false then (k49 x1 x3 x4 (x5 + 0) (x6 + x9) (x7 + 1) S) else (k49 x1 x3 x4 (x5 + 1) (x6 + x9) (x7 + 1) S))) else (if (f_A_bit (S.1 c8 1) x10) = 0 then ((f_A_drawn (f_A_nextSeed x4) 2).bind fun zv7 => (f_A_assizes_94 k49 n x1 x3 (f_A_nextSeed x4) x5 x6 x7 c8 (x9 ||| (ip_ishl zv7 x10)) (x10 + 1) S)) else (f_A_assizes_94 k49 n x1 x3 x4 x5 x6 x7 c8 x9 (x10 + 1) S)))
set_option maxRecDepth 10000 in
theorem E_A_assizes_94 {k49 : Int32 → Int32 → Int32 → Int32 → Int32 → Int32 → ip_St → Option (Int32)} (hk49 : ∀ {x1 : Int32} {x3 : Int32} {x4 : Int32} {x5 : Int32} {x6 : Int32} {x7 : Int32} {S : ip_St} {r : Int32} {d2 : Option Value} {d8 : Option Value} {d9 : Option Value} {d10 : Option Value}, k49 x1 x3 x4 x5 x6 x7 S = some r → ip_Ev 87 49 [some (.ref 0), some (.int x1), d2, some (.int x3), some (.int x4), some (.int x5), some (.int x6), some (.int x7), d8, d9, d10] [] S (some (.int r)) S) : ∀ (n : Nat) {x1 : Int32} {x3 : Int32} {x4 : Int32} {x5 : Int32} {x6 : Int32} {x7 : Int32} {c8 : Nat} {x9 : Int32} {x10 : Int32} {S : ip_St} {r : Int32} {d2 : Option Value}, ip_ob c8 = some 1 → f_A_assizes_94 k49 n x1 x3 x4 x5 x6 x7 c8 x9 x10 S = some r → ip_Ev 87 94 [some (.ref 0), some (.int x1), d2, some (.int x3), some (.int x4), some (.int x5), some (.int x6), some (.int x7), some (.ref c8), some (.int x9), some (.int x10)] [] S (some (.int r)) S := by
  intro n
  induction n with
  | zero =>
    intro x1 x3 x4 x5 x6 x7 c8 x9 x10 S r d2 hc8 h
    cases h
  | succ n ih =>
    intro x1 x3 x4 x5 x6 x7 c8 x9 x10 S r d2 hc8 h
    rw [f_A_assizes_94] at h
    refine ip_Ev.steps 2 (pc' := 98) (lv' := [some (.ref 0), some (.int x1), d2, some (.int x3), some (.int x4), some (.int x5), some (.int x6), some (.int x7), some (.ref c8), some (.int x9), some (.int x10)]) (st' := [.int 6, .int x10]) (S1 := S) rfl ?_
    refine ip_Ev.iff2 rfl rfl ip_cGe (fun zhc1 => ?_) (fun zhc1 => ?_)
    · rw [if_pos zhc1] at h
      refine ip_Ev.steps 2 (pc' := 145) (lv' := [some (.ref 0), some (.int x1), d2, some (.int x3), some (.int x4), some (.int x5), some (.int x6), some (.int x7), some (.ref c8), some (.int x9), some (.int x10)]) (st' := [.ref c8, .int x5]) (S1 := S) rfl ?_
      refine ip_Ev.gfI rfl rfl hc8 (by decide) ?_
      refine ip_Ev.steps 4 (pc' := 158) (lv' := [some (.ref 0), some (.int x1), d2, some (.int x3), some (.int x4), some (.int x5), some (.int x6), some (.int x7), some (.ref c8), some (.int x9), some (.int x10)]) (st' := [.long (S.2 17 0), .int (S.1 c8 0), .int x5]) (S1 := S) rfl ?_
      obtain ⟨zv3, hzq2, h⟩ := ip_bind h
      refine ip_Ev.call (i := 47) (a := [.int (S.1 c8 0), .long (S.2 17 0)]) (r := [.int x5]) rfl (T_A_freed hzq2) ?_
      show ip_Ev 87 161 [some (.ref 0), some (.int x1), d2, some (.int x3), some (.int x4), some (.int x5), some (.int x6), some (.int x7), some (.ref c8), some (.int x9), some (.int x10)] [.long zv3, .int x5] S _ _
      refine ip_Ev.steps 1 (pc' := 163) (lv' := [some (.ref 0), some (.int x1), d2, some (.int x3), some (.int x4), some (.int x5), some (.int x6), some (.int x7), some (.ref c8), some (.int x9), some (.int x10)]) (st' := [.int x9, .long zv3, .int x5]) (S1 := S) rfl ?_
      refine ip_Ev.call (i := 38) (a := [.long zv3, .int x9]) (r := [.int x5]) rfl (T_A_has rfl) ?_
      show ip_Ev 87 166 [some (.ref 0), some (.int x1), d2, some (.int x3), some (.int x4), some (.int x5), some (.int x6), some (.int x7), some (.ref c8), some (.int x9), some (.int x10)] [.int (ip_b2i (f_A_has zv3 x9)), .int x5] S _ _
      refine ip_Ev.iff1 rfl rfl ip_bEq (fun zhc4 => ?_) (fun zhc4 => ?_)
      · rw [if_pos zhc4] at h
        refine ip_Ev.steps 9 (pc' := 49) (lv' := [some (.ref 0), some (.int x1), d2, some (.int x3), some (.int x4), some (.int (x5 + 0)), some (.int (x6 + x9)), some (.int (x7 + 1)), some (.ref c8), some (.int x9), some (.int x10)]) (st' := []) (S1 := S) rfl ?_
        exact hk49 h
      · rw [if_neg zhc4] at h
        refine ip_Ev.steps 10 (pc' := 49) (lv' := [some (.ref 0), some (.int x1), d2, some (.int x3), some (.int x4), some (.int (x5 + 1)), some (.int (x6 + x9)), some (.int (x7 + 1)), some (.ref c8), some (.int x9), some (.int x10)]) (st' := []) (S1 := S) rfl ?_
        exact hk49 h
    · rw [if_neg zhc1] at h
      refine ip_Ev.steps 1 (pc' := 103) (lv' := [some (.ref 0), some (.int x1), d2, some (.int x3), some (.int x4), some (.int x5), some (.int x6), some (.int x7), some (.ref c8), some (.int x9), some (.int x10)]) (st' := [.ref c8]) (S1 := S) rfl ?_
      refine ip_Ev.gfI rfl rfl hc8 (by decide) ?_
      refine ip_Ev.steps 1 (pc' := 108) (lv' := [some (.ref 0), some (.int x1), d2, some (.int x3), some (.int x4), some (.int x5), some (.int x6), some (.int x7), some (.ref c8), some (.int x9), some (.int x10)]) (st' := [.int x10, .int (S.1 c8 1)]) (S1 := S) rfl ?_
      refine ip_Ev.call (i := 41) (a := [.int (S.1 c8 1), .int x10]) (r := []) rfl (T_A_bit rfl) ?_
      show ip_Ev 87 111 [some (.ref 0), some (.int x1), d2, some (.int x3), some (.int x4), some (.int x5), some (.int x6), some (.int x7), some (.ref c8), some (.int x9), some (.int x10)] [.int (f_A_bit (S.1 c8 1) x10)] S _ _
      refine ip_Ev.iff1 rfl rfl ip_cNe (fun zhc5 => ?_) (fun zhc5 => ?_)
      · rw [if_neg zhc5] at h
        refine ip_Ev.steps 2 (pc' := 94) (lv' := [some (.ref 0), some (.int x1), d2, some (.int x3), some (.int x4), some (.int x5), some (.int x6), some (.int x7), some (.ref c8), some (.int x9), some (.int (x10 + 1))]) (st' := []) (S1 := S) rfl ?_
        exact ih hc8 h
      · rw [if_pos (Decidable.of_not_not zhc5)] at h
        refine ip_Ev.steps 1 (pc' := 116) (lv' := [some (.ref 0), some (.int x1), d2, some (.int x3), some (.int x4), some (.int x5), some (.int x6), some (.int x7), some (.ref c8), some (.int x9), some (.int x10)]) (st' := [.int x4]) (S1 := S) rfl ?_
        refine ip_Ev.call (i := 85) (a := [.int x4]) (r := []) rfl (T_A_nextSeed rfl) ?_
        show ip_Ev 87 119 [some (.ref 0), some (.int x1), d2, some (.int x3), some (.int x4), some (.int x5), some (.int x6), some (.int x7), some (.ref c8), some (.int x9), some (.int x10)] [.int (f_A_nextSeed x4)] S _ _
        refine ip_Ev.steps 4 (pc' := 126) (lv' := [some (.ref 0), some (.int x1), d2, some (.int x3), some (.int (f_A_nextSeed x4)), some (.int x5), some (.int x6), some (.int x7), some (.ref c8), some (.int x9), some (.int x10)]) (st' := [.int 2, .int (f_A_nextSeed x4), .int x9]) (S1 := S) rfl ?_
        obtain ⟨zv7, hzq6, h⟩ := ip_bind h
        refine ip_Ev.call (i := 86) (a := [.int (f_A_nextSeed x4), .int 2]) (r := [.int x9]) rfl (T_A_drawn hzq6) ?_
        show ip_Ev 87 129 [some (.ref 0), some (.int x1), d2, some (.int x3), some (.int (f_A_nextSeed x4)), some (.int x5), some (.int x6), some (.int x7), some (.ref c8), some (.int x9), some (.int x10)] [.int zv7, .int x9] S _ _
        refine ip_Ev.steps 6 (pc' := 94) (lv' := [some (.ref 0), some (.int x1), d2, some (.int x3), some (.int (f_A_nextSeed x4)), some (.int x5), some (.int x6), some (.int x7), some (.ref c8), some (.int (x9 ||| (ip_ishl zv7 x10))), some (.int (x10 + 1))]) (st' := []) (S1 := S) rfl ?_
        exact ih hc8 h
def f_A_assizes_49 : Nat → Int32 → Int32 → Int32 → Int32 → Int32 → Int32 → ip_St → Option (Int32)
  | 0, _, _, _, _, _, _, _ => none
  | n + 1, x1, x3, x4, x5, x6, x7, S => (if x1 ≤ x7 then (if x3 = 0 then some x5 else (if x3 = 1 then some x6 else some x4)) else ((f_A_drawn (f_A_nextSeed x4) (S.1 12 1)).bind fun zv5 => ((ip_aA 13 zv5).bind fun zv6 => (f_A_assizes_94 (f_A_assizes_49 n) ip_FU x1 x3 (f_A_nextSeed x4) x5 x6 x7 zv6 (S.1 zv6 2) 0 S))))
set_option maxRecDepth 10000 in
theorem E_A_assizes_49 : ∀ (n : Nat) {x1 : Int32} {x3 : Int32} {x4 : Int32} {x5 : Int32} {x6 : Int32} {x7 : Int32} {S : ip_St} {r : Int32} {d2 : Option Value} {d8 : Option Value} {d9 : Option Value} {d10 : Option Value}, f_A_assizes_49 n x1 x3 x4 x5 x6 x7 S = some r → ip_Ev 87 49 [some (.ref 0), some (.int x1), d2, some (.int x3), some (.int x4), some (.int x5), some (.int x6), some (.int x7), d8, d9, d10] [] S (some (.int r)) S := by
  intro n
  induction n with
  | zero =>
    intro x1 x3 x4 x5 x6 x7 S r d2 d8 d9 d10 h
    cases h
  | succ n ih =>
    intro x1 x3 x4 x5 x6 x7 S r d2 d8 d9 d10 h
    rw [f_A_assizes_49] at h
    refine ip_Ev.steps 2 (pc' := 52) (lv' := [some (.ref 0), some (.int x1), d2, some (.int x3), some (.int x4), some (.int x5), some (.int x6), some (.int x7), d8, d9, d10]) (st' := [.int x1, .int x7]) (S1 := S) rfl ?_
    refine ip_Ev.iff2 rfl rfl ip_cGe (fun zhc1 => ?_) (fun zhc1 => ?_)
    · rw [if_pos zhc1] at h
      refine ip_Ev.steps 1 (pc' := 191) (lv' := [some (.ref 0), some (.int x1), d2, some (.int x3), some (.int x4), some (.int x5), some (.int x6), some (.int x7), d8, d9, d10]) (st' := [.int x3]) (S1 := S) rfl ?_
      refine ip_Ev.iff1 rfl rfl ip_cNe (fun zhc2 => ?_) (fun zhc2 => ?_)
      · rw [if_neg zhc2] at h
        refine ip_Ev.steps 2 (pc' := 201) (lv' := [some (.ref 0), some (.int x1), d2, some (.int x3), some (.int x4), some (.int x5), some (.int x6), some (.int x7), d8, d9, d10]) (st' := [.int 1, .int x3]) (S1 := S) rfl ?_
        refine ip_Ev.iff2 rfl rfl ip_cNe (fun zhc3 => ?_) (fun zhc3 => ?_)
        · rw [if_neg zhc3] at h
          refine ip_Ev.steps 1 (pc' := 211) (lv' := [some (.ref 0), some (.int x1), d2, some (.int x3), some (.int x4), some (.int x5), some (.int x6), some (.int x7), d8, d9, d10]) (st' := [.int x4]) (S1 := S) rfl ?_
          cases h
          exact ip_Ev.ret rfl
        · rw [if_pos (Decidable.of_not_not zhc3)] at h
          refine ip_Ev.steps 2 (pc' := 211) (lv' := [some (.ref 0), some (.int x1), d2, some (.int x3), some (.int x4), some (.int x5), some (.int x6), some (.int x7), d8, d9, d10]) (st' := [.int x6]) (S1 := S) rfl ?_
          cases h
          exact ip_Ev.ret rfl
      · rw [if_pos (Decidable.of_not_not zhc2)] at h
        refine ip_Ev.steps 2 (pc' := 211) (lv' := [some (.ref 0), some (.int x1), d2, some (.int x3), some (.int x4), some (.int x5), some (.int x6), some (.int x7), d8, d9, d10]) (st' := [.int x5]) (S1 := S) rfl ?_
        cases h
        exact ip_Ev.ret rfl
    · rw [if_neg zhc1] at h
      refine ip_Ev.steps 1 (pc' := 57) (lv' := [some (.ref 0), some (.int x1), d2, some (.int x3), some (.int x4), some (.int x5), some (.int x6), some (.int x7), d8, d9, d10]) (st' := [.int x4]) (S1 := S) rfl ?_
      refine ip_Ev.call (i := 85) (a := [.int x4]) (r := []) rfl (T_A_nextSeed rfl) ?_
      show ip_Ev 87 60 [some (.ref 0), some (.int x1), d2, some (.int x3), some (.int x4), some (.int x5), some (.int x6), some (.int x7), d8, d9, d10] [.int (f_A_nextSeed x4)] S _ _
      refine ip_Ev.steps 8 (pc' := 78) (lv' := [some (.ref 0), some (.int x1), d2, some (.int x3), some (.int (f_A_nextSeed x4)), some (.int x5), some (.int x6), some (.int x7), d8, d9, d10]) (st' := [.int (S.1 12 1), .int (f_A_nextSeed x4), .ref 13]) (S1 := S) rfl ?_
      obtain ⟨zv5, hzq4, h⟩ := ip_bind h
      refine ip_Ev.call (i := 86) (a := [.int (f_A_nextSeed x4), .int (S.1 12 1)]) (r := [.ref 13]) rfl (T_A_drawn hzq4) ?_
      show ip_Ev 87 81 [some (.ref 0), some (.int x1), d2, some (.int x3), some (.int (f_A_nextSeed x4)), some (.int x5), some (.int x6), some (.int x7), d8, d9, d10] [.int zv5, .ref 13] S _ _
      obtain ⟨zv6, hzv6, h⟩ := ip_bind h
      refine ip_Ev.aald rfl hzv6 ?_
      have hozv6 := ip_aA_ob hzv6
      refine ip_Ev.steps 2 (pc' := 86) (lv' := [some (.ref 0), some (.int x1), d2, some (.int x3), some (.int (f_A_nextSeed x4)), some (.int x5), some (.int x6), some (.int x7), some (.ref zv6), d9, d10]) (st' := [.ref zv6]) (S1 := S) rfl ?_
      refine ip_Ev.gfI rfl rfl hozv6 (by decide) ?_
      refine ip_Ev.steps 3 (pc' := 94) (lv' := [some (.ref 0), some (.int x1), d2, some (.int x3), some (.int (f_A_nextSeed x4)), some (.int x5), some (.int x6), some (.int x7), some (.ref zv6), some (.int (S.1 zv6 2)), some (.int 0)]) (st' := []) (S1 := S) rfl ?_
      exact E_A_assizes_94 ih ip_FU hozv6 h
def f_A_assizes (p1 : Int32) (p2 : Int32) (p3 : Int32) (S : ip_St) : Option (Int32) := (if p1 < 1 then some (-102) else (if 60 < p1 then some (-102) else (if p2 < 0 then some (-102) else (if p3 < 0 then some (-102) else (if p3 ≤ 2 then (if (f_A_hasCourt S) = true then (f_A_assizes_49 ip_FU p1 p3 p2 0 0 0 S) else some (-103)) else some (-102))))))
set_option maxRecDepth 10000 in
theorem T_A_assizes {p1 : Int32} {p2 : Int32} {p3 : Int32} {S : ip_St} {r : Int32} (h : f_A_assizes p1 p2 p3 S = some r) : ip_Me 87 [.ref 0, .int p1, .int p2, .int p3] S (some (.int r)) S := by
  unfold f_A_assizes at h
  refine ⟨[some (.ref 0), some (.int p1), some (.int p2), some (.int p3), none, none, none, none, none, none, none], rfl, ?_⟩
  refine ip_Ev.steps 2 (pc' := 2) (lv' := [some (.ref 0), some (.int p1), some (.int p2), some (.int p3), none, none, none, none, none, none, none]) (st' := [.int 1, .int p1]) (S1 := S) rfl ?_
  refine ip_Ev.iff2 rfl rfl ip_cLt (fun zhc1 => ?_) (fun zhc1 => ?_)
  · rw [if_pos zhc1] at h
    refine ip_Ev.steps 1 (pc' := 26) (lv' := [some (.ref 0), some (.int p1), some (.int p2), some (.int p3), none, none, none, none, none, none, none]) (st' := [.int (-102)]) (S1 := S) rfl ?_
    cases h
    exact ip_Ev.ret rfl
  · rw [if_neg zhc1] at h
    refine ip_Ev.steps 2 (pc' := 8) (lv' := [some (.ref 0), some (.int p1), some (.int p2), some (.int p3), none, none, none, none, none, none, none]) (st' := [.int 60, .int p1]) (S1 := S) rfl ?_
    refine ip_Ev.iff2 rfl rfl ip_cGt (fun zhc2 => ?_) (fun zhc2 => ?_)
    · rw [if_pos zhc2] at h
      refine ip_Ev.steps 1 (pc' := 26) (lv' := [some (.ref 0), some (.int p1), some (.int p2), some (.int p3), none, none, none, none, none, none, none]) (st' := [.int (-102)]) (S1 := S) rfl ?_
      cases h
      exact ip_Ev.ret rfl
    · rw [if_neg zhc2] at h
      refine ip_Ev.steps 1 (pc' := 12) (lv' := [some (.ref 0), some (.int p1), some (.int p2), some (.int p3), none, none, none, none, none, none, none]) (st' := [.int p2]) (S1 := S) rfl ?_
      refine ip_Ev.iff1 rfl rfl ip_cLt (fun zhc3 => ?_) (fun zhc3 => ?_)
      · rw [if_pos zhc3] at h
        refine ip_Ev.steps 1 (pc' := 26) (lv' := [some (.ref 0), some (.int p1), some (.int p2), some (.int p3), none, none, none, none, none, none, none]) (st' := [.int (-102)]) (S1 := S) rfl ?_
        cases h
        exact ip_Ev.ret rfl
      · rw [if_neg zhc3] at h
        refine ip_Ev.steps 1 (pc' := 16) (lv' := [some (.ref 0), some (.int p1), some (.int p2), some (.int p3), none, none, none, none, none, none, none]) (st' := [.int p3]) (S1 := S) rfl ?_
        refine ip_Ev.iff1 rfl rfl ip_cLt (fun zhc4 => ?_) (fun zhc4 => ?_)
        · rw [if_pos zhc4] at h
          refine ip_Ev.steps 1 (pc' := 26) (lv' := [some (.ref 0), some (.int p1), some (.int p2), some (.int p3), none, none, none, none, none, none, none]) (st' := [.int (-102)]) (S1 := S) rfl ?_
          cases h
          exact ip_Ev.ret rfl
        · rw [if_neg zhc4] at h
          refine ip_Ev.steps 2 (pc' := 21) (lv' := [some (.ref 0), some (.int p1), some (.int p2), some (.int p3), none, none, none, none, none, none, none]) (st' := [.int 2, .int p3]) (S1 := S) rfl ?_
          refine ip_Ev.iff2 rfl rfl ip_cLe (fun zhc5 => ?_) (fun zhc5 => ?_)
          · rw [if_pos zhc5] at h
            refine ip_Ev.steps 1 (pc' := 28) (lv' := [some (.ref 0), some (.int p1), some (.int p2), some (.int p3), none, none, none, none, none, none, none]) (st' := [.ref 0]) (S1 := S) rfl ?_
            refine ip_Ev.call (i := 30) (a := [.ref 0]) (r := []) rfl (T_A_hasCourt rfl) ?_
            show ip_Ev 87 31 [some (.ref 0), some (.int p1), some (.int p2), some (.int p3), none, none, none, none, none, none, none] [.int (ip_b2i (f_A_hasCourt S))] S _ _
            refine ip_Ev.iff1 rfl rfl ip_bNe (fun zhc6 => ?_) (fun zhc6 => ?_)
            · rw [if_pos zhc6] at h
              refine ip_Ev.steps 8 (pc' := 49) (lv' := [some (.ref 0), some (.int p1), some (.int p2), some (.int p3), some (.int p2), some (.int 0), some (.int 0), some (.int 0), none, none, none]) (st' := []) (S1 := S) rfl ?_
              exact E_A_assizes_49 ip_FU h
            · rw [if_neg zhc6] at h
              refine ip_Ev.steps 1 (pc' := 36) (lv' := [some (.ref 0), some (.int p1), some (.int p2), some (.int p3), none, none, none, none, none, none, none]) (st' := [.int (-103)]) (S1 := S) rfl ?_
              cases h
              exact ip_Ev.ret rfl
          · rw [if_neg zhc5] at h
            refine ip_Ev.steps 1 (pc' := 26) (lv' := [some (.ref 0), some (.int p1), some (.int p2), some (.int p3), none, none, none, none, none, none, none]) (st' := [.int (-102)]) (S1 := S) rfl ?_
            cases h
            exact ip_Ev.ret rfl
