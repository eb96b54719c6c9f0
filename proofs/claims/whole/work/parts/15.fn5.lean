-- M_draw
def f_M_draw (p1 : Int32) (S : ip_St) : Option (Int32 × ip_St) := (if p1 = 0 then none else some ((ip_irem (((ip_upI S 30 31 (Int64.toInt32 (((1103515245 * (Int32.toInt64 (S.1 30 31))) + 12345) &&& 2147483647))).1 30 31) / 65536) p1), (ip_upI S 30 31 (Int64.toInt32 (((1103515245 * (Int32.toInt64 (S.1 30 31))) + 12345) &&& 2147483647)))))
set_option maxRecDepth 10000 in
theorem T_M_draw {p1 : Int32} {S : ip_St} {r : Int32} {S9 : ip_St} (h : f_M_draw p1 S = some (r, S9)) : ip_Me 174 [.ref 30, .int p1] S (some (.int r)) S9 := by
  unfold f_M_draw at h
  refine ⟨[some (.ref 30), some (.int p1)], rfl, ?_⟩
  refine ip_Ev.steps 12 (pc' := 22) (lv' := [some (.ref 30), some (.int p1)]) (st' := []) (S1 := (ip_upI S 30 31 (Int64.toInt32 (((1103515245 * (Int32.toInt64 (S.1 30 31))) + 12345) &&& 2147483647)))) rfl ?_
  refine ip_Ev.steps 3 (pc' := 29) (lv' := [some (.ref 30), some (.int p1)]) (st' := [.int 65536, .int ((ip_upI S 30 31 (Int64.toInt32 (((1103515245 * (Int32.toInt64 (S.1 30 31))) + 12345) &&& 2147483647))).1 30 31)]) (S1 := (ip_upI S 30 31 (Int64.toInt32 (((1103515245 * (Int32.toInt64 (S.1 30 31))) + 12345) &&& 2147483647)))) rfl ?_
  refine ip_Ev.idiv rfl (by decide) ?_
  refine ip_Ev.steps 1 (pc' := 31) (lv' := [some (.ref 30), some (.int p1)]) (st' := [.int p1, .int (((ip_upI S 30 31 (Int64.toInt32 (((1103515245 * (Int32.toInt64 (S.1 30 31))) + 12345) &&& 2147483647))).1 30 31) / 65536)]) (S1 := (ip_upI S 30 31 (Int64.toInt32 (((1103515245 * (Int32.toInt64 (S.1 30 31))) + 12345) &&& 2147483647)))) rfl ?_
  have zhz1 : ¬ p1 = 0 := by
    intro hq
    rw [if_pos hq] at h
    cases h
  rw [if_neg zhz1] at h
  refine ip_Ev.irem rfl zhz1 ?_
  show ip_Ev 174 32 [some (.ref 30), some (.int p1)] [.int (ip_irem (((ip_upI S 30 31 (Int64.toInt32 (((1103515245 * (Int32.toInt64 (S.1 30 31))) + 12345) &&& 2147483647))).1 30 31) / 65536) p1)] (ip_upI S 30 31 (Int64.toInt32 (((1103515245 * (Int32.toInt64 (S.1 30 31))) + 12345) &&& 2147483647))) _ _
  cases h
  exact ip_Ev.ret rfl
-- M_assizes
def f_M_assizes_77 (k55 : Int32 → Int32 → Int32 → Int32 → Int32 → ip_St → Option (Int32 × ip_St)) : Nat → Int32 → Int32 → Int32 → Int32 → Int32 → Int32 → Int32 → Int32 → ip_St → Option (Int32 × ip_St)
  | 0, _, _, _, _, _, _, _, _, _ => none
  | n + 1, x1, x3, x4, x5, x6, x7, x8, x9, S => (if 6 ≤ x9 then ((ip_aI S 42 (2 * x7)).bind fun zv2 => (k55 x1 x3 (x4 + (Int64.toInt32 ((ip_lshr (S.2 30 17) (f_M_saysBy zv2 x8)) &&& 1))) (x5 + x8) (x6 + 1) S)) else ((ip_aI S 43 ((6 * x7) + x9)).bind fun zv3 => (if zv3 = (-1) then ((f_M_draw 2 S).bind fun zq6 => (f_M_assizes_77 k55 n x1 x3 x4 x5 x6 x7 (x8 ||| (ip_ishl zq6.1 x9)) (x9 + 1) zq6.2)) else ((ip_aI S 43 ((6 * x7) + x9)).bind fun zv5 => (f_M_assizes_77 k55 n x1 x3 x4 x5 x6 x7 (x8 ||| (ip_ishl zv5 x9)) (x9 + 1) S)))))
set_option maxRecDepth 10000 in
theorem E_M_assizes_77 {k55 : Int32 → Int32 → Int32 → Int32 → Int32 → ip_St → Option (Int32 × ip_St)} (hk55 : ∀ {x1 : Int32} {x3 : Int32} {x4 : Int32} {x5 : Int32} {x6 : Int32} {S : ip_St} {r : Int32} {S9 : ip_St} {d2 : Option Value} {d7 : Option Value} {d8 : Option Value} {d9 : Option Value} {d10 : Option Value}, k55 x1 x3 x4 x5 x6 S = some (r, S9) → ip_Ev 175 55 [some (.ref 30), some (.int x1), d2, some (.int x3), some (.int x4), some (.int x5), some (.int x6), d7, d8, d9, d10] [] S (some (.int r)) S9) : ∀ (n : Nat) {x1 : Int32} {x3 : Int32} {x4 : Int32} {x5 : Int32} {x6 : Int32} {x7 : Int32} {x8 : Int32} {x9 : Int32} {S : ip_St} {r : Int32} {S9 : ip_St} {d2 : Option Value} {d10 : Option Value}, f_M_assizes_77 k55 n x1 x3 x4 x5 x6 x7 x8 x9 S = some (r, S9) → ip_Ev 175 77 [some (.ref 30), some (.int x1), d2, some (.int x3), some (.int x4), some (.int x5), some (.int x6), some (.int x7), some (.int x8), some (.int x9), d10] [] S (some (.int r)) S9 := by
  intro n
  induction n with
  | zero =>
    intro x1 x3 x4 x5 x6 x7 x8 x9 S r S9 d2 d10 h
    cases h
  | succ n ih =>
    intro x1 x3 x4 x5 x6 x7 x8 x9 S r S9 d2 d10 h
    rw [f_M_assizes_77] at h
    refine ip_Ev.steps 2 (pc' := 81) (lv' := [some (.ref 30), some (.int x1), d2, some (.int x3), some (.int x4), some (.int x5), some (.int x6), some (.int x7), some (.int x8), some (.int x9), d10]) (st' := [.int 6, .int x9]) (S1 := S) rfl ?_
    refine ip_Ev.iff2 rfl rfl ip_cGe (fun zhc1 => ?_) (fun zhc1 => ?_)
    · rw [if_pos zhc1] at h
      refine ip_Ev.steps 8 (pc' := 154) (lv' := [some (.ref 30), some (.int x1), d2, some (.int x3), some (.int x4), some (.int x5), some (.int x6), some (.int x7), some (.int x8), some (.int x9), d10]) (st' := [.int (2 * x7), .ref 42, .long (S.2 30 17), .int x4]) (S1 := S) rfl ?_
      obtain ⟨zv2, hzv2, h⟩ := ip_bind h
      refine ip_Ev.iald rfl hzv2 ?_
      refine ip_Ev.steps 1 (pc' := 157) (lv' := [some (.ref 30), some (.int x1), d2, some (.int x3), some (.int x4), some (.int x5), some (.int x6), some (.int x7), some (.int x8), some (.int x9), d10]) (st' := [.int x8, .int zv2, .long (S.2 30 17), .int x4]) (S1 := S) rfl ?_
      refine ip_Ev.call (i := 99) (a := [.int zv2, .int x8]) (r := [.long (S.2 30 17), .int x4]) rfl (T_M_saysBy rfl) ?_
      show ip_Ev 175 160 [some (.ref 30), some (.int x1), d2, some (.int x3), some (.int x4), some (.int x5), some (.int x6), some (.int x7), some (.int x8), some (.int x9), d10] [.int (f_M_saysBy zv2 x8), .long (S.2 30 17), .int x4] S _ _
      refine ip_Ev.steps 12 (pc' := 55) (lv' := [some (.ref 30), some (.int x1), d2, some (.int x3), some (.int (x4 + (Int64.toInt32 ((ip_lshr (S.2 30 17) (f_M_saysBy zv2 x8)) &&& 1)))), some (.int (x5 + x8)), some (.int (x6 + 1)), some (.int x7), some (.int x8), some (.int x9), d10]) (st' := []) (S1 := S) rfl ?_
      exact hk55 h
    · rw [if_neg zhc1] at h
      refine ip_Ev.steps 7 (pc' := 96) (lv' := [some (.ref 30), some (.int x1), d2, some (.int x3), some (.int x4), some (.int x5), some (.int x6), some (.int x7), some (.int x8), some (.int x9), d10]) (st' := [.int ((6 * x7) + x9), .ref 43]) (S1 := S) rfl ?_
      obtain ⟨zv3, hzv3, h⟩ := ip_bind h
      refine ip_Ev.iald rfl hzv3 ?_
      refine ip_Ev.steps 1 (pc' := 98) (lv' := [some (.ref 30), some (.int x1), d2, some (.int x3), some (.int x4), some (.int x5), some (.int x6), some (.int x7), some (.int x8), some (.int x9), d10]) (st' := [.int (-1), .int zv3]) (S1 := S) rfl ?_
      refine ip_Ev.iff2 rfl rfl ip_cNe (fun zhc4 => ?_) (fun zhc4 => ?_)
      · rw [if_neg zhc4] at h
        refine ip_Ev.steps 7 (pc' := 121) (lv' := [some (.ref 30), some (.int x1), d2, some (.int x3), some (.int x4), some (.int x5), some (.int x6), some (.int x7), some (.int x8), some (.int x9), d10]) (st' := [.int ((6 * x7) + x9), .ref 43]) (S1 := S) rfl ?_
        obtain ⟨zv5, hzv5, h⟩ := ip_bind h
        refine ip_Ev.iald rfl hzv5 ?_
        refine ip_Ev.steps 9 (pc' := 77) (lv' := [some (.ref 30), some (.int x1), d2, some (.int x3), some (.int x4), some (.int x5), some (.int x6), some (.int x7), some (.int (x8 ||| (ip_ishl zv5 x9))), some (.int (x9 + 1)), some (.int zv5)]) (st' := []) (S1 := S) rfl ?_
        exact ih h
      · rw [if_pos (Decidable.of_not_not zhc4)] at h
        refine ip_Ev.steps 2 (pc' := 103) (lv' := [some (.ref 30), some (.int x1), d2, some (.int x3), some (.int x4), some (.int x5), some (.int x6), some (.int x7), some (.int x8), some (.int x9), d10]) (st' := [.int 2, .ref 30]) (S1 := S) rfl ?_
        obtain ⟨⟨zv7, zS8⟩, hzq6, h⟩ := ip_bind h
        dsimp only at h
        refine ip_Ev.call (i := 174) (a := [.ref 30, .int 2]) (r := []) rfl (T_M_draw hzq6) ?_
        show ip_Ev 175 106 [some (.ref 30), some (.int x1), d2, some (.int x3), some (.int x4), some (.int x5), some (.int x6), some (.int x7), some (.int x8), some (.int x9), d10] [.int zv7] zS8 _ _
        refine ip_Ev.steps 10 (pc' := 77) (lv' := [some (.ref 30), some (.int x1), d2, some (.int x3), some (.int x4), some (.int x5), some (.int x6), some (.int x7), some (.int (x8 ||| (ip_ishl zv7 x9))), some (.int (x9 + 1)), some (.int zv7)]) (st' := []) (S1 := zS8) rfl ?_
        exact ih h
def f_M_assizes_55 : Nat → Int32 → Int32 → Int32 → Int32 → Int32 → ip_St → Option (Int32 × ip_St)
  | 0, _, _, _, _, _, _ => none
  | n + 1, x1, x3, x4, x5, x6, S => (if x1 ≤ x6 then (if x3 = 0 then some (x4, S) else (if x3 = 1 then some (x5, S) else some ((S.1 30 31), S))) else ((f_M_draw (S.1 30 18) S).bind fun zq4 => (f_M_assizes_77 (f_M_assizes_55 n) ip_FU x1 x3 x4 x5 x6 zq4.1 0 0 zq4.2)))
set_option maxRecDepth 10000 in
theorem E_M_assizes_55 : ∀ (n : Nat) {x1 : Int32} {x3 : Int32} {x4 : Int32} {x5 : Int32} {x6 : Int32} {S : ip_St} {r : Int32} {S9 : ip_St} {d2 : Option Value} {d7 : Option Value} {d8 : Option Value} {d9 : Option Value} {d10 : Option Value}, f_M_assizes_55 n x1 x3 x4 x5 x6 S = some (r, S9) → ip_Ev 175 55 [some (.ref 30), some (.int x1), d2, some (.int x3), some (.int x4), some (.int x5), some (.int x6), d7, d8, d9, d10] [] S (some (.int r)) S9 := by
  intro n
  induction n with
  | zero =>
    intro x1 x3 x4 x5 x6 S r S9 d2 d7 d8 d9 d10 h
    cases h
  | succ n ih =>
    intro x1 x3 x4 x5 x6 S r S9 d2 d7 d8 d9 d10 h
    rw [f_M_assizes_55] at h
    refine ip_Ev.steps 2 (pc' := 58) (lv' := [some (.ref 30), some (.int x1), d2, some (.int x3), some (.int x4), some (.int x5), some (.int x6), d7, d8, d9, d10]) (st' := [.int x1, .int x6]) (S1 := S) rfl ?_
    refine ip_Ev.iff2 rfl rfl ip_cGe (fun zhc1 => ?_) (fun zhc1 => ?_)
    · rw [if_pos zhc1] at h
      refine ip_Ev.steps 1 (pc' := 181) (lv' := [some (.ref 30), some (.int x1), d2, some (.int x3), some (.int x4), some (.int x5), some (.int x6), d7, d8, d9, d10]) (st' := [.int x3]) (S1 := S) rfl ?_
      refine ip_Ev.iff1 rfl rfl ip_cNe (fun zhc2 => ?_) (fun zhc2 => ?_)
      · rw [if_neg zhc2] at h
        refine ip_Ev.steps 2 (pc' := 191) (lv' := [some (.ref 30), some (.int x1), d2, some (.int x3), some (.int x4), some (.int x5), some (.int x6), d7, d8, d9, d10]) (st' := [.int 1, .int x3]) (S1 := S) rfl ?_
        refine ip_Ev.iff2 rfl rfl ip_cNe (fun zhc3 => ?_) (fun zhc3 => ?_)
        · rw [if_neg zhc3] at h
          refine ip_Ev.steps 2 (pc' := 203) (lv' := [some (.ref 30), some (.int x1), d2, some (.int x3), some (.int x4), some (.int x5), some (.int x6), d7, d8, d9, d10]) (st' := [.int (S.1 30 31)]) (S1 := S) rfl ?_
          cases h
          exact ip_Ev.ret rfl
        · rw [if_pos (Decidable.of_not_not zhc3)] at h
          refine ip_Ev.steps 2 (pc' := 203) (lv' := [some (.ref 30), some (.int x1), d2, some (.int x3), some (.int x4), some (.int x5), some (.int x6), d7, d8, d9, d10]) (st' := [.int x5]) (S1 := S) rfl ?_
          cases h
          exact ip_Ev.ret rfl
      · rw [if_pos (Decidable.of_not_not zhc2)] at h
        refine ip_Ev.steps 2 (pc' := 203) (lv' := [some (.ref 30), some (.int x1), d2, some (.int x3), some (.int x4), some (.int x5), some (.int x6), d7, d8, d9, d10]) (st' := [.int x4]) (S1 := S) rfl ?_
        cases h
        exact ip_Ev.ret rfl
    · rw [if_neg zhc1] at h
      refine ip_Ev.steps 3 (pc' := 66) (lv' := [some (.ref 30), some (.int x1), d2, some (.int x3), some (.int x4), some (.int x5), some (.int x6), d7, d8, d9, d10]) (st' := [.int (S.1 30 18), .ref 30]) (S1 := S) rfl ?_
      obtain ⟨⟨zv5, zS6⟩, hzq4, h⟩ := ip_bind h
      dsimp only at h
      refine ip_Ev.call (i := 174) (a := [.ref 30, .int (S.1 30 18)]) (r := []) rfl (T_M_draw hzq4) ?_
      show ip_Ev 175 69 [some (.ref 30), some (.int x1), d2, some (.int x3), some (.int x4), some (.int x5), some (.int x6), d7, d8, d9, d10] [.int zv5] zS6 _ _
      refine ip_Ev.steps 5 (pc' := 77) (lv' := [some (.ref 30), some (.int x1), d2, some (.int x3), some (.int x4), some (.int x5), some (.int x6), some (.int zv5), some (.int 0), some (.int 0), d10]) (st' := []) (S1 := zS6) rfl ?_
      exact E_M_assizes_77 ih ip_FU h
def f_M_assizes (p1 : Int32) (p2 : Int32) (p3 : Int32) (S : ip_St) : Option (Int32 × ip_St) := (if (f_M_in (Int32.toInt64 p1) 1 60) = false then some ((-102), S) else (if p2 < 0 then some ((-102), S) else (if (f_M_in (Int32.toInt64 p3) 0 2) = true then (if (f_M_lacks S) = false then (f_M_assizes_55 ip_FU p1 p3 0 0 0 (ip_upI S 30 31 p2)) else some ((-103), S)) else some ((-102), S))))
set_option maxRecDepth 10000 in
theorem T_M_assizes {p1 : Int32} {p2 : Int32} {p3 : Int32} {S : ip_St} {r : Int32} {S9 : ip_St} (h : f_M_assizes p1 p2 p3 S = some (r, S9)) : ip_Me 175 [.ref 30, .int p1, .int p2, .int p3] S (some (.int r)) S9 := by
  unfold f_M_assizes at h
  refine ⟨[some (.ref 30), some (.int p1), some (.int p2), some (.int p3), none, none, none, none, none, none, none], rfl, ?_⟩
  refine ip_Ev.steps 4 (pc' := 6) (lv' := [some (.ref 30), some (.int p1), some (.int p2), some (.int p3), none, none, none, none, none, none, none]) (st' := [.long 60, .long 1, .long (Int32.toInt64 p1)]) (S1 := S) rfl ?_
  refine ip_Ev.call (i := 101) (a := [.long (Int32.toInt64 p1), .long 1, .long 60]) (r := []) rfl (T_M_in rfl) ?_
  show ip_Ev 175 9 [some (.ref 30), some (.int p1), some (.int p2), some (.int p3), none, none, none, none, none, none, none] [.int (ip_b2i (f_M_in (Int32.toInt64 p1) 1 60))] S _ _
  refine ip_Ev.iff1 rfl rfl ip_bEq (fun zhc1 => ?_) (fun zhc1 => ?_)
  · rw [if_pos zhc1] at h
    refine ip_Ev.steps 1 (pc' := 30) (lv' := [some (.ref 30), some (.int p1), some (.int p2), some (.int p3), none, none, none, none, none, none, none]) (st' := [.int (-102)]) (S1 := S) rfl ?_
    cases h
    exact ip_Ev.ret rfl
  · rw [if_neg zhc1] at h
    refine ip_Ev.steps 1 (pc' := 13) (lv' := [some (.ref 30), some (.int p1), some (.int p2), some (.int p3), none, none, none, none, none, none, none]) (st' := [.int p2]) (S1 := S) rfl ?_
    refine ip_Ev.iff1 rfl rfl ip_cLt (fun zhc2 => ?_) (fun zhc2 => ?_)
    · rw [if_pos zhc2] at h
      refine ip_Ev.steps 1 (pc' := 30) (lv' := [some (.ref 30), some (.int p1), some (.int p2), some (.int p3), none, none, none, none, none, none, none]) (st' := [.int (-102)]) (S1 := S) rfl ?_
      cases h
      exact ip_Ev.ret rfl
    · rw [if_neg zhc2] at h
      refine ip_Ev.steps 4 (pc' := 22) (lv' := [some (.ref 30), some (.int p1), some (.int p2), some (.int p3), none, none, none, none, none, none, none]) (st' := [.long 2, .long 0, .long (Int32.toInt64 p3)]) (S1 := S) rfl ?_
      refine ip_Ev.call (i := 101) (a := [.long (Int32.toInt64 p3), .long 0, .long 2]) (r := []) rfl (T_M_in rfl) ?_
      show ip_Ev 175 25 [some (.ref 30), some (.int p1), some (.int p2), some (.int p3), none, none, none, none, none, none, none] [.int (ip_b2i (f_M_in (Int32.toInt64 p3) 0 2))] S _ _
      refine ip_Ev.iff1 rfl rfl ip_bNe (fun zhc3 => ?_) (fun zhc3 => ?_)
      · rw [if_pos zhc3] at h
        refine ip_Ev.steps 1 (pc' := 32) (lv' := [some (.ref 30), some (.int p1), some (.int p2), some (.int p3), none, none, none, none, none, none, none]) (st' := [.ref 30]) (S1 := S) rfl ?_
        refine ip_Ev.call (i := 126) (a := [.ref 30]) (r := []) rfl (T_M_lacks rfl) ?_
        show ip_Ev 175 35 [some (.ref 30), some (.int p1), some (.int p2), some (.int p3), none, none, none, none, none, none, none] [.int (ip_b2i (f_M_lacks S))] S _ _
        refine ip_Ev.iff1 rfl rfl ip_bEq (fun zhc4 => ?_) (fun zhc4 => ?_)
        · rw [if_pos zhc4] at h
          refine ip_Ev.steps 9 (pc' := 55) (lv' := [some (.ref 30), some (.int p1), some (.int p2), some (.int p3), some (.int 0), some (.int 0), some (.int 0), none, none, none, none]) (st' := []) (S1 := (ip_upI S 30 31 p2)) rfl ?_
          exact E_M_assizes_55 ip_FU h
        · rw [if_neg zhc4] at h
          refine ip_Ev.steps 1 (pc' := 40) (lv' := [some (.ref 30), some (.int p1), some (.int p2), some (.int p3), none, none, none, none, none, none, none]) (st' := [.int (-103)]) (S1 := S) rfl ?_
          cases h
          exact ip_Ev.ret rfl
      · rw [if_neg zhc3] at h
        refine ip_Ev.steps 1 (pc' := 30) (lv' := [some (.ref 30), some (.int p1), some (.int p2), some (.int p3), none, none, none, none, none, none, none]) (st' := [.int (-102)]) (S1 := S) rfl ?_
        cases h
        exact ip_Ev.ret rfl
-- J_take
def f_J_take (p0 : Nat) (p1 : Nat) (S : ip_St) : Option (ip_St) := (cond (ip_isB ((ip_upI (ip_upI (ip_upI (ip_upI (ip_upI S p0 0 (S.1 p1 0)) p0 1 ((ip_upI S p0 0 (S.1 p1 0)).1 p1 1)) p0 2 ((ip_upI (ip_upI S p0 0 (S.1 p1 0)) p0 1 ((ip_upI S p0 0 (S.1 p1 0)).1 p1 1)).1 p1 2)) p0 3 ((ip_upI (ip_upI (ip_upI S p0 0 (S.1 p1 0)) p0 1 ((ip_upI S p0 0 (S.1 p1 0)).1 p1 1)) p0 2 ((ip_upI (ip_upI S p0 0 (S.1 p1 0)) p0 1 ((ip_upI S p0 0 (S.1 p1 0)).1 p1 1)).1 p1 2)).1 p1 3)) p0 4 ((ip_upI (ip_upI (ip_upI (ip_upI S p0 0 (S.1 p1 0)) p0 1 ((ip_upI S p0 0 (S.1 p1 0)).1 p1 1)) p0 2 ((ip_upI (ip_upI S p0 0 (S.1 p1 0)) p0 1 ((ip_upI S p0 0 (S.1 p1 0)).1 p1 1)).1 p1 2)) p0 3 ((ip_upI (ip_upI (ip_upI S p0 0 (S.1 p1 0)) p0 1 ((ip_upI S p0 0 (S.1 p1 0)).1 p1 1)) p0 2 ((ip_upI (ip_upI S p0 0 (S.1 p1 0)) p0 1 ((ip_upI S p0 0 (S.1 p1 0)).1 p1 1)).1 p1 2)).1 p1 3)).1 p1 4)).1 p1 5)) (some (ip_upI (ip_upI (ip_upI (ip_upI (ip_upI (ip_upI S p0 0 (S.1 p1 0)) p0 1 ((ip_upI S p0 0 (S.1 p1 0)).1 p1 1)) p0 2 ((ip_upI (ip_upI S p0 0 (S.1 p1 0)) p0 1 ((ip_upI S p0 0 (S.1 p1 0)).1 p1 1)).1 p1 2)) p0 3 ((ip_upI (ip_upI (ip_upI S p0 0 (S.1 p1 0)) p0 1 ((ip_upI S p0 0 (S.1 p1 0)).1 p1 1)) p0 2 ((ip_upI (ip_upI S p0 0 (S.1 p1 0)) p0 1 ((ip_upI S p0 0 (S.1 p1 0)).1 p1 1)).1 p1 2)).1 p1 3)) p0 4 ((ip_upI (ip_upI (ip_upI (ip_upI S p0 0 (S.1 p1 0)) p0 1 ((ip_upI S p0 0 (S.1 p1 0)).1 p1 1)) p0 2 ((ip_upI (ip_upI S p0 0 (S.1 p1 0)) p0 1 ((ip_upI S p0 0 (S.1 p1 0)).1 p1 1)).1 p1 2)) p0 3 ((ip_upI (ip_upI (ip_upI S p0 0 (S.1 p1 0)) p0 1 ((ip_upI S p0 0 (S.1 p1 0)).1 p1 1)) p0 2 ((ip_upI (ip_upI S p0 0 (S.1 p1 0)) p0 1 ((ip_upI S p0 0 (S.1 p1 0)).1 p1 1)).1 p1 2)).1 p1 3)).1 p1 4)) p0 5 ((ip_upI (ip_upI (ip_upI (ip_upI (ip_upI S p0 0 (S.1 p1 0)) p0 1 ((ip_upI S p0 0 (S.1 p1 0)).1 p1 1)) p0 2 ((ip_upI (ip_upI S p0 0 (S.1 p1 0)) p0 1 ((ip_upI S p0 0 (S.1 p1 0)).1 p1 1)).1 p1 2)) p0 3 ((ip_upI (ip_upI (ip_upI S p0 0 (S.1 p1 0)) p0 1 ((ip_upI S p0 0 (S.1 p1 0)).1 p1 1)) p0 2 ((ip_upI (ip_upI S p0 0 (S.1 p1 0)) p0 1 ((ip_upI S p0 0 (S.1 p1 0)).1 p1 1)).1 p1 2)).1 p1 3)) p0 4 ((ip_upI (ip_upI (ip_upI (ip_upI S p0 0 (S.1 p1 0)) p0 1 ((ip_upI S p0 0 (S.1 p1 0)).1 p1 1)) p0 2 ((ip_upI (ip_upI S p0 0 (S.1 p1 0)) p0 1 ((ip_upI S p0 0 (S.1 p1 0)).1 p1 1)).1 p1 2)) p0 3 ((ip_upI (ip_upI (ip_upI S p0 0 (S.1 p1 0)) p0 1 ((ip_upI S p0 0 (S.1 p1 0)).1 p1 1)) p0 2 ((ip_upI (ip_upI S p0 0 (S.1 p1 0)) p0 1 ((ip_upI S p0 0 (S.1 p1 0)).1 p1 1)).1 p1 2)).1 p1 3)).1 p1 4)).1 p1 5))) none)
set_option maxRecDepth 10000 in
theorem T_J_take {p0 : Nat} {p1 : Nat} {S : ip_St} {S9 : ip_St} (hp0 : ip_ob p0 = some 1) (hp1 : ip_ob p1 = some 1) (h : f_J_take p0 p1 S = some S9) : ip_Me 88 [.ref p0, .ref p1] S none S9 := by
  unfold f_J_take at h
  refine ⟨[some (.ref p0), some (.ref p1)], rfl, ?_⟩
  refine ip_Ev.steps 2 (pc' := 2) (lv' := [some (.ref p0), some (.ref p1)]) (st' := [.ref p1, .ref p0]) (S1 := S) rfl ?_
  refine ip_Ev.gfI rfl rfl hp1 (by decide) ?_
  refine ip_Ev.pfI rfl rfl hp0 rfl ?_
  refine ip_Ev.steps 2 (pc' := 10) (lv' := [some (.ref p0), some (.ref p1)]) (st' := [.ref p1, .ref p0]) (S1 := (ip_upI S p0 0 (S.1 p1 0))) rfl ?_
  refine ip_Ev.gfI rfl rfl hp1 (by decide) ?_
  refine ip_Ev.pfI rfl rfl hp0 rfl ?_
  refine ip_Ev.steps 2 (pc' := 18) (lv' := [some (.ref p0), some (.ref p1)]) (st' := [.ref p1, .ref p0]) (S1 := (ip_upI (ip_upI S p0 0 (S.1 p1 0)) p0 1 ((ip_upI S p0 0 (S.1 p1 0)).1 p1 1))) rfl ?_
  refine ip_Ev.gfI rfl rfl hp1 (by decide) ?_
  refine ip_Ev.pfI rfl rfl hp0 rfl ?_
  refine ip_Ev.steps 2 (pc' := 26) (lv' := [some (.ref p0), some (.ref p1)]) (st' := [.ref p1, .ref p0]) (S1 := (ip_upI (ip_upI (ip_upI S p0 0 (S.1 p1 0)) p0 1 ((ip_upI S p0 0 (S.1 p1 0)).1 p1 1)) p0 2 ((ip_upI (ip_upI S p0 0 (S.1 p1 0)) p0 1 ((ip_upI S p0 0 (S.1 p1 0)).1 p1 1)).1 p1 2))) rfl ?_
  refine ip_Ev.gfI rfl rfl hp1 (by decide) ?_
  refine ip_Ev.pfI rfl rfl hp0 rfl ?_
  refine ip_Ev.steps 2 (pc' := 34) (lv' := [some (.ref p0), some (.ref p1)]) (st' := [.ref p1, .ref p0]) (S1 := (ip_upI (ip_upI (ip_upI (ip_upI S p0 0 (S.1 p1 0)) p0 1 ((ip_upI S p0 0 (S.1 p1 0)).1 p1 1)) p0 2 ((ip_upI (ip_upI S p0 0 (S.1 p1 0)) p0 1 ((ip_upI S p0 0 (S.1 p1 0)).1 p1 1)).1 p1 2)) p0 3 ((ip_upI (ip_upI (ip_upI S p0 0 (S.1 p1 0)) p0 1 ((ip_upI S p0 0 (S.1 p1 0)).1 p1 1)) p0 2 ((ip_upI (ip_upI S p0 0 (S.1 p1 0)) p0 1 ((ip_upI S p0 0 (S.1 p1 0)).1 p1 1)).1 p1 2)).1 p1 3))) rfl ?_
  refine ip_Ev.gfI rfl rfl hp1 (by decide) ?_
  refine ip_Ev.pfI rfl rfl hp0 rfl ?_
  refine ip_Ev.steps 2 (pc' := 42) (lv' := [some (.ref p0), some (.ref p1)]) (st' := [.ref p1, .ref p0]) (S1 := (ip_upI (ip_upI (ip_upI (ip_upI (ip_upI S p0 0 (S.1 p1 0)) p0 1 ((ip_upI S p0 0 (S.1 p1 0)).1 p1 1)) p0 2 ((ip_upI (ip_upI S p0 0 (S.1 p1 0)) p0 1 ((ip_upI S p0 0 (S.1 p1 0)).1 p1 1)).1 p1 2)) p0 3 ((ip_upI (ip_upI (ip_upI S p0 0 (S.1 p1 0)) p0 1 ((ip_upI S p0 0 (S.1 p1 0)).1 p1 1)) p0 2 ((ip_upI (ip_upI S p0 0 (S.1 p1 0)) p0 1 ((ip_upI S p0 0 (S.1 p1 0)).1 p1 1)).1 p1 2)).1 p1 3)) p0 4 ((ip_upI (ip_upI (ip_upI (ip_upI S p0 0 (S.1 p1 0)) p0 1 ((ip_upI S p0 0 (S.1 p1 0)).1 p1 1)) p0 2 ((ip_upI (ip_upI S p0 0 (S.1 p1 0)) p0 1 ((ip_upI S p0 0 (S.1 p1 0)).1 p1 1)).1 p1 2)) p0 3 ((ip_upI (ip_upI (ip_upI S p0 0 (S.1 p1 0)) p0 1 ((ip_upI S p0 0 (S.1 p1 0)).1 p1 1)) p0 2 ((ip_upI (ip_upI S p0 0 (S.1 p1 0)) p0 1 ((ip_upI S p0 0 (S.1 p1 0)).1 p1 1)).1 p1 2)).1 p1 3)).1 p1 4))) rfl ?_
  refine ip_Ev.gfI rfl rfl hp1 (by decide) ?_
  have zhb1 : ip_isB ((ip_upI (ip_upI (ip_upI (ip_upI (ip_upI S p0 0 (S.1 p1 0)) p0 1 ((ip_upI S p0 0 (S.1 p1 0)).1 p1 1)) p0 2 ((ip_upI (ip_upI S p0 0 (S.1 p1 0)) p0 1 ((ip_upI S p0 0 (S.1 p1 0)).1 p1 1)).1 p1 2)) p0 3 ((ip_upI (ip_upI (ip_upI S p0 0 (S.1 p1 0)) p0 1 ((ip_upI S p0 0 (S.1 p1 0)).1 p1 1)) p0 2 ((ip_upI (ip_upI S p0 0 (S.1 p1 0)) p0 1 ((ip_upI S p0 0 (S.1 p1 0)).1 p1 1)).1 p1 2)).1 p1 3)) p0 4 ((ip_upI (ip_upI (ip_upI (ip_upI S p0 0 (S.1 p1 0)) p0 1 ((ip_upI S p0 0 (S.1 p1 0)).1 p1 1)) p0 2 ((ip_upI (ip_upI S p0 0 (S.1 p1 0)) p0 1 ((ip_upI S p0 0 (S.1 p1 0)).1 p1 1)).1 p1 2)) p0 3 ((ip_upI (ip_upI (ip_upI S p0 0 (S.1 p1 0)) p0 1 ((ip_upI S p0 0 (S.1 p1 0)).1 p1 1)) p0 2 ((ip_upI (ip_upI S p0 0 (S.1 p1 0)) p0 1 ((ip_upI S p0 0 (S.1 p1 0)).1 p1 1)).1 p1 2)).1 p1 3)).1 p1 4)).1 p1 5) = true := by
    cases hz : ip_isB ((ip_upI (ip_upI (ip_upI (ip_upI (ip_upI S p0 0 (S.1 p1 0)) p0 1 ((ip_upI S p0 0 (S.1 p1 0)).1 p1 1)) p0 2 ((ip_upI (ip_upI S p0 0 (S.1 p1 0)) p0 1 ((ip_upI S p0 0 (S.1 p1 0)).1 p1 1)).1 p1 2)) p0 3 ((ip_upI (ip_upI (ip_upI S p0 0 (S.1 p1 0)) p0 1 ((ip_upI S p0 0 (S.1 p1 0)).1 p1 1)) p0 2 ((ip_upI (ip_upI S p0 0 (S.1 p1 0)) p0 1 ((ip_upI S p0 0 (S.1 p1 0)).1 p1 1)).1 p1 2)).1 p1 3)) p0 4 ((ip_upI (ip_upI (ip_upI (ip_upI S p0 0 (S.1 p1 0)) p0 1 ((ip_upI S p0 0 (S.1 p1 0)).1 p1 1)) p0 2 ((ip_upI (ip_upI S p0 0 (S.1 p1 0)) p0 1 ((ip_upI S p0 0 (S.1 p1 0)).1 p1 1)).1 p1 2)) p0 3 ((ip_upI (ip_upI (ip_upI S p0 0 (S.1 p1 0)) p0 1 ((ip_upI S p0 0 (S.1 p1 0)).1 p1 1)) p0 2 ((ip_upI (ip_upI S p0 0 (S.1 p1 0)) p0 1 ((ip_upI S p0 0 (S.1 p1 0)).1 p1 1)).1 p1 2)).1 p1 3)).1 p1 4)).1 p1 5) with
    | true => rfl
    | false => rw [hz] at h; cases h
  rw [zhb1] at h
  dsimp only [cond] at h
  refine ip_Ev.pfZ rfl rfl hp0 rfl zhb1 ?_
  cases h
  exact ip_Ev.ret rfl
-- L_take_24_17
def f_L_take_24_17  (S : ip_St) : ip_St := (ip_upI (ip_upI (ip_upI (ip_upI (ip_upL S 24 0 (S.2 17 0)) 24 1 ((ip_upL S 24 0 (S.2 17 0)).1 17 1)) 24 2 ((ip_upI (ip_upL S 24 0 (S.2 17 0)) 24 1 ((ip_upL S 24 0 (S.2 17 0)).1 17 1)).1 17 2)) 24 3 ((ip_upI (ip_upI (ip_upL S 24 0 (S.2 17 0)) 24 1 ((ip_upL S 24 0 (S.2 17 0)).1 17 1)) 24 2 ((ip_upI (ip_upL S 24 0 (S.2 17 0)) 24 1 ((ip_upL S 24 0 (S.2 17 0)).1 17 1)).1 17 2)).1 17 3)) 24 4 ((ip_upI (ip_upI (ip_upI (ip_upL S 24 0 (S.2 17 0)) 24 1 ((ip_upL S 24 0 (S.2 17 0)).1 17 1)) 24 2 ((ip_upI (ip_upL S 24 0 (S.2 17 0)) 24 1 ((ip_upL S 24 0 (S.2 17 0)).1 17 1)).1 17 2)) 24 3 ((ip_upI (ip_upI (ip_upL S 24 0 (S.2 17 0)) 24 1 ((ip_upL S 24 0 (S.2 17 0)).1 17 1)) 24 2 ((ip_upI (ip_upL S 24 0 (S.2 17 0)) 24 1 ((ip_upL S 24 0 (S.2 17 0)).1 17 1)).1 17 2)).1 17 3)).1 17 4))
set_option maxRecDepth 10000 in
theorem T_L_take_24_17  {S : ip_St} {S9 : ip_St} (h : f_L_take_24_17 S = S9) : ip_Me 28 [.ref 24, .ref 17] S none S9 := by
  unfold f_L_take_24_17 at h
  refine ⟨[some (.ref 24), some (.ref 17)], rfl, ?_⟩
  refine ip_Ev.steps 12 (pc' := 24) (lv' := [some (.ref 24), some (.ref 17)]) (st' := []) (S1 := (ip_upI (ip_upI (ip_upL S 24 0 (S.2 17 0)) 24 1 ((ip_upL S 24 0 (S.2 17 0)).1 17 1)) 24 2 ((ip_upI (ip_upL S 24 0 (S.2 17 0)) 24 1 ((ip_upL S 24 0 (S.2 17 0)).1 17 1)).1 17 2))) rfl ?_
  refine ip_Ev.steps 8 (pc' := 40) (lv' := [some (.ref 24), some (.ref 17)]) (st' := []) (S1 := (ip_upI (ip_upI (ip_upI (ip_upI (ip_upL S 24 0 (S.2 17 0)) 24 1 ((ip_upL S 24 0 (S.2 17 0)).1 17 1)) 24 2 ((ip_upI (ip_upL S 24 0 (S.2 17 0)) 24 1 ((ip_upL S 24 0 (S.2 17 0)).1 17 1)).1 17 2)) 24 3 ((ip_upI (ip_upI (ip_upL S 24 0 (S.2 17 0)) 24 1 ((ip_upL S 24 0 (S.2 17 0)).1 17 1)) 24 2 ((ip_upI (ip_upL S 24 0 (S.2 17 0)) 24 1 ((ip_upL S 24 0 (S.2 17 0)).1 17 1)).1 17 2)).1 17 3)) 24 4 ((ip_upI (ip_upI (ip_upI (ip_upL S 24 0 (S.2 17 0)) 24 1 ((ip_upL S 24 0 (S.2 17 0)).1 17 1)) 24 2 ((ip_upI (ip_upL S 24 0 (S.2 17 0)) 24 1 ((ip_upL S 24 0 (S.2 17 0)).1 17 1)).1 17 2)) 24 3 ((ip_upI (ip_upI (ip_upL S 24 0 (S.2 17 0)) 24 1 ((ip_upL S 24 0 (S.2 17 0)).1 17 1)) 24 2 ((ip_upI (ip_upL S 24 0 (S.2 17 0)) 24 1 ((ip_upL S 24 0 (S.2 17 0)).1 17 1)).1 17 2)).1 17 3)).1 17 4))) rfl ?_
  cases h
  exact ip_Ev.ret rfl
-- D_take_19_12
def f_D_take_19_12_65 : Nat → Int32 → ip_St → Option (ip_St)
  | 0, _, _ => none
  | n + 1, x2, S => (if 8 ≤ x2 then some (ip_upI S 19 6 (S.1 12 6)) else ((ip_aI S 18 x2).bind fun zv2 => ((ip_wI S 25 x2 zv2).bind fun zS3 => (f_D_take_19_12_65 n (x2 + 1) zS3))))
set_option maxRecDepth 10000 in
theorem E_D_take_19_12_65 : ∀ (n : Nat) {x2 : Int32} {S : ip_St} {S9 : ip_St}, f_D_take_19_12_65 n x2 S = some S9 → ip_Ev 89 65 [some (.ref 19), some (.ref 12), some (.int x2)] [] S none S9 := by
  intro n
  induction n with
  | zero =>
    intro x2 S S9 h
    cases h
  | succ n ih =>
    intro x2 S S9 h
    rw [f_D_take_19_12_65] at h
    refine ip_Ev.steps 2 (pc' := 68) (lv' := [some (.ref 19), some (.ref 12), some (.int x2)]) (st' := [.int 8, .int x2]) (S1 := S) rfl ?_
    refine ip_Ev.iff2 rfl rfl ip_cGe (fun zhc1 => ?_) (fun zhc1 => ?_)
    · rw [if_pos zhc1] at h
      refine ip_Ev.steps 4 (pc' := 97) (lv' := [some (.ref 19), some (.ref 12), some (.int x2)]) (st' := []) (S1 := (ip_upI S 19 6 (S.1 12 6))) rfl ?_
      cases h
      exact ip_Ev.ret rfl
    · rw [if_neg zhc1] at h
      refine ip_Ev.steps 6 (pc' := 81) (lv' := [some (.ref 19), some (.ref 12), some (.int x2)]) (st' := [.int x2, .ref 18, .int x2, .ref 25]) (S1 := S) rfl ?_
      obtain ⟨zv2, hzv2, h⟩ := ip_bind h
      refine ip_Ev.iald rfl hzv2 ?_
      obtain ⟨zS3, hzS3, h⟩ := ip_bind h
      refine ip_Ev.iast rfl hzS3 ?_
      refine ip_Ev.steps 2 (pc' := 65) (lv' := [some (.ref 19), some (.ref 12), some (.int (x2 + 1))]) (st' := []) (S1 := zS3) rfl ?_
      exact ih h
def f_D_take_19_12_2 : Nat → Int32 → ip_St → Option (ip_St)
  | 0, _, _ => none
  | n + 1, x2, S => (if 3 ≤ x2 then (f_D_take_19_12_65 ip_FU 0 (ip_upI (ip_upI (f_L_take_24_17 (ip_upI S 19 1 (S.1 12 1))) 19 3 ((f_L_take_24_17 (ip_upI S 19 1 (S.1 12 1))).1 12 3)) 19 4 ((ip_upI (f_L_take_24_17 (ip_upI S 19 1 (S.1 12 1))) 19 3 ((f_L_take_24_17 (ip_upI S 19 1 (S.1 12 1))).1 12 3)).1 12 4))) else ((ip_aA 20 x2).bind fun zv2 => ((ip_aA 13 x2).bind fun zv3 => ((f_J_take zv2 zv3 S).bind fun zS5 => (f_D_take_19_12_2 n (x2 + 1) zS5)))))
set_option maxRecDepth 10000 in
theorem E_D_take_19_12_2 : ∀ (n : Nat) {x2 : Int32} {S : ip_St} {S9 : ip_St}, f_D_take_19_12_2 n x2 S = some S9 → ip_Ev 89 2 [some (.ref 19), some (.ref 12), some (.int x2)] [] S none S9 := by
  intro n
  induction n with
  | zero =>
    intro x2 S S9 h
    cases h
  | succ n ih =>
    intro x2 S S9 h
    rw [f_D_take_19_12_2] at h
    refine ip_Ev.steps 2 (pc' := 4) (lv' := [some (.ref 19), some (.ref 12), some (.int x2)]) (st' := [.int 3, .int x2]) (S1 := S) rfl ?_
    refine ip_Ev.iff2 rfl rfl ip_cGe (fun zhc1 => ?_) (fun zhc1 => ?_)
    · rw [if_pos zhc1] at h
      refine ip_Ev.steps 8 (pc' := 44) (lv' := [some (.ref 19), some (.ref 12), some (.int x2)]) (st' := [.ref 17, .ref 24]) (S1 := (ip_upI S 19 1 (S.1 12 1))) rfl ?_
      refine ip_Ev.call (i := 28) (a := [.ref 24, .ref 17]) (r := []) rfl (T_L_take_24_17 rfl) ?_
      show ip_Ev 89 47 [some (.ref 19), some (.ref 12), some (.int x2)] [] (f_L_take_24_17 (ip_upI S 19 1 (S.1 12 1))) _ _
      refine ip_Ev.steps 10 (pc' := 65) (lv' := [some (.ref 19), some (.ref 12), some (.int 0)]) (st' := []) (S1 := (ip_upI (ip_upI (f_L_take_24_17 (ip_upI S 19 1 (S.1 12 1))) 19 3 ((f_L_take_24_17 (ip_upI S 19 1 (S.1 12 1))).1 12 3)) 19 4 ((ip_upI (f_L_take_24_17 (ip_upI S 19 1 (S.1 12 1))) 19 3 ((f_L_take_24_17 (ip_upI S 19 1 (S.1 12 1))).1 12 3)).1 12 4))) rfl ?_
      exact E_D_take_19_12_65 ip_FU h
    · rw [if_neg zhc1] at h
      refine ip_Ev.steps 3 (pc' := 12) (lv' := [some (.ref 19), some (.ref 12), some (.int x2)]) (st' := [.int x2, .ref 20]) (S1 := S) rfl ?_
      obtain ⟨zv2, hzv2, h⟩ := ip_bind h
      refine ip_Ev.aald rfl hzv2 ?_
      have hozv2 := ip_aA_ob hzv2
      refine ip_Ev.steps 3 (pc' := 18) (lv' := [some (.ref 19), some (.ref 12), some (.int x2)]) (st' := [.int x2, .ref 13, .ref zv2]) (S1 := S) rfl ?_
      obtain ⟨zv3, hzv3, h⟩ := ip_bind h
      refine ip_Ev.aald rfl hzv3 ?_
      have hozv3 := ip_aA_ob hzv3
      obtain ⟨zS5, hzq4, h⟩ := ip_bind h
      refine ip_Ev.callJ (i := 88) (b := zv2) (a := [.ref zv3]) (r := []) rfl rfl rfl rfl hozv2 rfl rfl (T_J_take hozv2 hozv3 hzq4) ?_
      show ip_Ev 89 22 [some (.ref 19), some (.ref 12), some (.int x2)] [] zS5 _ _
      refine ip_Ev.steps 2 (pc' := 2) (lv' := [some (.ref 19), some (.ref 12), some (.int (x2 + 1))]) (st' := []) (S1 := zS5) rfl ?_
      exact ih h
def f_D_take_19_12  (S : ip_St) : Option (ip_St) := (f_D_take_19_12_2 ip_FU 0 S)
set_option maxRecDepth 10000 in
theorem T_D_take_19_12  {S : ip_St} {S9 : ip_St} (h : f_D_take_19_12 S = some S9) : ip_Me 89 [.ref 19, .ref 12] S none S9 := by
  unfold f_D_take_19_12 at h
  refine ⟨[some (.ref 19), some (.ref 12), none], rfl, ?_⟩
  refine ip_Ev.steps 2 (pc' := 2) (lv' := [some (.ref 19), some (.ref 12), some (.int 0)]) (st' := []) (S1 := S) rfl ?_
  exact E_D_take_19_12_2 ip_FU h
-- A_image
def f_A_image  (S : ip_St) : Option (Int32 × ip_St) := (if (f_A_hasCourt S) = true then ((f_D_take_19_12 S).bind fun zS3 => some (((ip_upI zS3 0 6 1).1 12 4), (ip_upI zS3 0 6 1))) else some ((-103), S))
set_option maxRecDepth 10000 in
theorem T_A_image  {S : ip_St} {r : Int32} {S9 : ip_St} (h : f_A_image S = some (r, S9)) : ip_Me 90 [.ref 0] S (some (.int r)) S9 := by
  unfold f_A_image at h
  refine ⟨[some (.ref 0)], rfl, ?_⟩
  refine ip_Ev.steps 1 (pc' := 1) (lv' := [some (.ref 0)]) (st' := [.ref 0]) (S1 := S) rfl ?_
  refine ip_Ev.call (i := 30) (a := [.ref 0]) (r := []) rfl (T_A_hasCourt rfl) ?_
  show ip_Ev 90 4 [some (.ref 0)] [.int (ip_b2i (f_A_hasCourt S))] S _ _
  refine ip_Ev.iff1 rfl rfl ip_bNe (fun zhc1 => ?_) (fun zhc1 => ?_)
  · rw [if_pos zhc1] at h
    refine ip_Ev.steps 4 (pc' := 18) (lv' := [some (.ref 0)]) (st' := [.ref 12, .ref 19]) (S1 := S) rfl ?_
    obtain ⟨zS3, hzq2, h⟩ := ip_bind h
    refine ip_Ev.call (i := 89) (a := [.ref 19, .ref 12]) (r := []) rfl (T_D_take_19_12 hzq2) ?_
    show ip_Ev 90 21 [some (.ref 0)] [] zS3 _ _
    refine ip_Ev.steps 6 (pc' := 33) (lv' := [some (.ref 0)]) (st' := [.int ((ip_upI zS3 0 6 1).1 12 4)]) (S1 := (ip_upI zS3 0 6 1)) rfl ?_
    cases h
    exact ip_Ev.ret rfl
  · rw [if_neg zhc1] at h
    refine ip_Ev.steps 1 (pc' := 9) (lv' := [some (.ref 0)]) (st' := [.int (-103)]) (S1 := S) rfl ?_
    cases h
    exact ip_Ev.ret rfl
-- M_copy_41_50
def f_M_copy_41_50_2 : Nat → Int32 → ip_St → Option (ip_St)
  | 0, _, _ => none
  | n + 1, x2, S => (if 56 ≤ x2 then some S else ((ip_aI S 41 x2).bind fun zv2 => ((ip_wI S 50 x2 zv2).bind fun zS3 => (f_M_copy_41_50_2 n (x2 + 1) zS3))))
set_option maxRecDepth 10000 in
theorem E_M_copy_41_50_2 : ∀ (n : Nat) {x2 : Int32} {S : ip_St} {S9 : ip_St}, f_M_copy_41_50_2 n x2 S = some S9 → ip_Ev 176 2 [some (.ref 41), some (.ref 50), some (.int x2)] [] S none S9 := by
  intro n
  induction n with
  | zero =>
    intro x2 S S9 h
    cases h
  | succ n ih =>
    intro x2 S S9 h
    rw [f_M_copy_41_50_2] at h
    refine ip_Ev.steps 3 (pc' := 5) (lv' := [some (.ref 41), some (.ref 50), some (.int x2)]) (st' := [.int 56, .int x2]) (S1 := S) rfl ?_
    refine ip_Ev.iff2 rfl rfl ip_cGe (fun zhc1 => ?_) (fun zhc1 => ?_)
    · rw [if_pos zhc1] at h
      cases h
      exact ip_Ev.ret rfl
    · rw [if_neg zhc1] at h
      refine ip_Ev.steps 4 (pc' := 12) (lv' := [some (.ref 41), some (.ref 50), some (.int x2)]) (st' := [.int x2, .ref 41, .int x2, .ref 50]) (S1 := S) rfl ?_
      obtain ⟨zv2, hzv2, h⟩ := ip_bind h
      refine ip_Ev.iald rfl hzv2 ?_
      obtain ⟨zS3, hzS3, h⟩ := ip_bind h
      refine ip_Ev.iast rfl hzS3 ?_
      refine ip_Ev.steps 2 (pc' := 2) (lv' := [some (.ref 41), some (.ref 50), some (.int (x2 + 1))]) (st' := []) (S1 := zS3) rfl ?_
      exact ih h
def f_M_copy_41_50  (S : ip_St) : Option (ip_St) := (f_M_copy_41_50_2 ip_FU 0 S)
set_option maxRecDepth 10000 in
theorem T_M_copy_41_50  {S : ip_St} {S9 : ip_St} (h : f_M_copy_41_50 S = some S9) : ip_Me 176 [.ref 41, .ref 50] S none S9 := by
  unfold f_M_copy_41_50 at h
  refine ⟨[some (.ref 41), some (.ref 50), none], rfl, ?_⟩
  refine ip_Ev.steps 2 (pc' := 2) (lv' := [some (.ref 41), some (.ref 50), some (.int 0)]) (st' := []) (S1 := S) rfl ?_
  exact E_M_copy_41_50_2 ip_FU h
-- M_copy_42_51
def f_M_copy_42_51_2 : Nat → Int32 → ip_St → Option (ip_St)
  | 0, _, _ => none
  | n + 1, x2, S => (if 6 ≤ x2 then some S else ((ip_aI S 42 x2).bind fun zv2 => ((ip_wI S 51 x2 zv2).bind fun zS3 => (f_M_copy_42_51_2 n (x2 + 1) zS3))))
set_option maxRecDepth 10000 in
theorem E_M_copy_42_51_2 : ∀ (n : Nat) {x2 : Int32} {S : ip_St} {S9 : ip_St}, f_M_copy_42_51_2 n x2 S = some S9 → ip_Ev 176 2 [some (.ref 42), some (.ref 51), some (.int x2)] [] S none S9 := by
  intro n
  induction n with
  | zero =>
    intro x2 S S9 h
    cases h
  | succ n ih =>
    intro x2 S S9 h
    rw [f_M_copy_42_51_2] at h
    refine ip_Ev.steps 3 (pc' := 5) (lv' := [some (.ref 42), some (.ref 51), some (.int x2)]) (st' := [.int 6, .int x2]) (S1 := S) rfl ?_
    refine ip_Ev.iff2 rfl rfl ip_cGe (fun zhc1 => ?_) (fun zhc1 => ?_)
    · rw [if_pos zhc1] at h
      cases h
      exact ip_Ev.ret rfl
    · rw [if_neg zhc1] at h
      refine ip_Ev.steps 4 (pc' := 12) (lv' := [some (.ref 42), some (.ref 51), some (.int x2)]) (st' := [.int x2, .ref 42, .int x2, .ref 51]) (S1 := S) rfl ?_
      obtain ⟨zv2, hzv2, h⟩ := ip_bind h
      refine ip_Ev.iald rfl hzv2 ?_
      obtain ⟨zS3, hzS3, h⟩ := ip_bind h
      refine ip_Ev.iast rfl hzS3 ?_
      refine ip_Ev.steps 2 (pc' := 2) (lv' := [some (.ref 42), some (.ref 51), some (.int (x2 + 1))]) (st' := []) (S1 := zS3) rfl ?_
      exact ih h
def f_M_copy_42_51  (S : ip_St) : Option (ip_St) := (f_M_copy_42_51_2 ip_FU 0 S)
set_option maxRecDepth 10000 in
theorem T_M_copy_42_51  {S : ip_St} {S9 : ip_St} (h : f_M_copy_42_51 S = some S9) : ip_Me 176 [.ref 42, .ref 51] S none S9 := by
  unfold f_M_copy_42_51 at h
  refine ⟨[some (.ref 42), some (.ref 51), none], rfl, ?_⟩
  refine ip_Ev.steps 2 (pc' := 2) (lv' := [some (.ref 42), some (.ref 51), some (.int 0)]) (st' := []) (S1 := S) rfl ?_
  exact E_M_copy_42_51_2 ip_FU h
-- M_copy_43_52
def f_M_copy_43_52_2 : Nat → Int32 → ip_St → Option (ip_St)
  | 0, _, _ => none
  | n + 1, x2, S => (if 18 ≤ x2 then some S else ((ip_aI S 43 x2).bind fun zv2 => ((ip_wI S 52 x2 zv2).bind fun zS3 => (f_M_copy_43_52_2 n (x2 + 1) zS3))))
set_option maxRecDepth 10000 in
theorem E_M_copy_43_52_2 : ∀ (n : Nat) {x2 : Int32} {S : ip_St} {S9 : ip_St}, f_M_copy_43_52_2 n x2 S = some S9 → ip_Ev 176 2 [some (.ref 43), some (.ref 52), some (.int x2)] [] S none S9 := by
  intro n
  induction n with
  | zero =>
    intro x2 S S9 h
    cases h
  | succ n ih =>
    intro x2 S S9 h
    rw [f_M_copy_43_52_2] at h
    refine ip_Ev.steps 3 (pc' := 5) (lv' := [some (.ref 43), some (.ref 52), some (.int x2)]) (st' := [.int 18, .int x2]) (S1 := S) rfl ?_
    refine ip_Ev.iff2 rfl rfl ip_cGe (fun zhc1 => ?_) (fun zhc1 => ?_)
    · rw [if_pos zhc1] at h
      cases h
      exact ip_Ev.ret rfl
    · rw [if_neg zhc1] at h
      refine ip_Ev.steps 4 (pc' := 12) (lv' := [some (.ref 43), some (.ref 52), some (.int x2)]) (st' := [.int x2, .ref 43, .int x2, .ref 52]) (S1 := S) rfl ?_
      obtain ⟨zv2, hzv2, h⟩ := ip_bind h
      refine ip_Ev.iald rfl hzv2 ?_
      obtain ⟨zS3, hzS3, h⟩ := ip_bind h
      refine ip_Ev.iast rfl hzS3 ?_
      refine ip_Ev.steps 2 (pc' := 2) (lv' := [some (.ref 43), some (.ref 52), some (.int (x2 + 1))]) (st' := []) (S1 := zS3) rfl ?_
      exact ih h
def f_M_copy_43_52  (S : ip_St) : Option (ip_St) := (f_M_copy_43_52_2 ip_FU 0 S)
set_option maxRecDepth 10000 in
theorem T_M_copy_43_52  {S : ip_St} {S9 : ip_St} (h : f_M_copy_43_52 S = some S9) : ip_Me 176 [.ref 43, .ref 52] S none S9 := by
  unfold f_M_copy_43_52 at h
  refine ⟨[some (.ref 43), some (.ref 52), none], rfl, ?_⟩
  refine ip_Ev.steps 2 (pc' := 2) (lv' := [some (.ref 43), some (.ref 52), some (.int 0)]) (st' := []) (S1 := S) rfl ?_
  exact E_M_copy_43_52_2 ip_FU h
-- M_copy_44_53
def f_M_copy_44_53_2 : Nat → Int32 → ip_St → Option (ip_St)
  | 0, _, _ => none
  | n + 1, x2, S => (if 18 ≤ x2 then some S else ((ip_aI S 44 x2).bind fun zv2 => ((ip_wI S 53 x2 zv2).bind fun zS3 => (f_M_copy_44_53_2 n (x2 + 1) zS3))))
set_option maxRecDepth 10000 in
theorem E_M_copy_44_53_2 : ∀ (n : Nat) {x2 : Int32} {S : ip_St} {S9 : ip_St}, f_M_copy_44_53_2 n x2 S = some S9 → ip_Ev 176 2 [some (.ref 44), some (.ref 53), some (.int x2)] [] S none S9 := by
  intro n
  induction n with
  | zero =>
    intro x2 S S9 h
    cases h
  | succ n ih =>
    intro x2 S S9 h
    rw [f_M_copy_44_53_2] at h
    refine ip_Ev.steps 3 (pc' := 5) (lv' := [some (.ref 44), some (.ref 53), some (.int x2)]) (st' := [.int 18, .int x2]) (S1 := S) rfl ?_
    refine ip_Ev.iff2 rfl rfl ip_cGe (fun zhc1 => ?_) (fun zhc1 => ?_)
    · rw [if_pos zhc1] at h
      cases h
      exact ip_Ev.ret rfl
    · rw [if_neg zhc1] at h
      refine ip_Ev.steps 4 (pc' := 12) (lv' := [some (.ref 44), some (.ref 53), some (.int x2)]) (st' := [.int x2, .ref 44, .int x2, .ref 53]) (S1 := S) rfl ?_
      obtain ⟨zv2, hzv2, h⟩ := ip_bind h
      refine ip_Ev.iald rfl hzv2 ?_
      obtain ⟨zS3, hzS3, h⟩ := ip_bind h
      refine ip_Ev.iast rfl hzS3 ?_
      refine ip_Ev.steps 2 (pc' := 2) (lv' := [some (.ref 44), some (.ref 53), some (.int (x2 + 1))]) (st' := []) (S1 := zS3) rfl ?_
      exact ih h
def f_M_copy_44_53  (S : ip_St) : Option (ip_St) := (f_M_copy_44_53_2 ip_FU 0 S)
set_option maxRecDepth 10000 in
theorem T_M_copy_44_53  {S : ip_St} {S9 : ip_St} (h : f_M_copy_44_53 S = some S9) : ip_Me 176 [.ref 44, .ref 53] S none S9 := by
  unfold f_M_copy_44_53 at h
  refine ⟨[some (.ref 44), some (.ref 53), none], rfl, ?_⟩
  refine ip_Ev.steps 2 (pc' := 2) (lv' := [some (.ref 44), some (.ref 53), some (.int 0)]) (st' := []) (S1 := S) rfl ?_
  exact E_M_copy_44_53_2 ip_FU h
-- M_copy_49_54
def f_M_copy_49_54_2 : Nat → Int32 → ip_St → Option (ip_St)
  | 0, _, _ => none
  | n + 1, x2, S => (if 32 ≤ x2 then some S else ((ip_aI S 49 x2).bind fun zv2 => ((ip_wI S 54 x2 zv2).bind fun zS3 => (f_M_copy_49_54_2 n (x2 + 1) zS3))))
set_option maxRecDepth 10000 in
theorem E_M_copy_49_54_2 : ∀ (n : Nat) {x2 : Int32} {S : ip_St} {S9 : ip_St}, f_M_copy_49_54_2 n x2 S = some S9 → ip_Ev 176 2 [some (.ref 49), some (.ref 54), some (.int x2)] [] S none S9 := by
  intro n
  induction n with
  | zero =>
    intro x2 S S9 h
    cases h
  | succ n ih =>
    intro x2 S S9 h
    rw [f_M_copy_49_54_2] at h
    refine ip_Ev.steps 3 (pc' := 5) (lv' := [some (.ref 49), some (.ref 54), some (.int x2)]) (st' := [.int 32, .int x2]) (S1 := S) rfl ?_
    refine ip_Ev.iff2 rfl rfl ip_cGe (fun zhc1 => ?_) (fun zhc1 => ?_)
    · rw [if_pos zhc1] at h
      cases h
      exact ip_Ev.ret rfl
    · rw [if_neg zhc1] at h
      refine ip_Ev.steps 4 (pc' := 12) (lv' := [some (.ref 49), some (.ref 54), some (.int x2)]) (st' := [.int x2, .ref 49, .int x2, .ref 54]) (S1 := S) rfl ?_
      obtain ⟨zv2, hzv2, h⟩ := ip_bind h
      refine ip_Ev.iald rfl hzv2 ?_
      obtain ⟨zS3, hzS3, h⟩ := ip_bind h
      refine ip_Ev.iast rfl hzS3 ?_
      refine ip_Ev.steps 2 (pc' := 2) (lv' := [some (.ref 49), some (.ref 54), some (.int (x2 + 1))]) (st' := []) (S1 := zS3) rfl ?_
      exact ih h
def f_M_copy_49_54  (S : ip_St) : Option (ip_St) := (f_M_copy_49_54_2 ip_FU 0 S)
set_option maxRecDepth 10000 in
theorem T_M_copy_49_54  {S : ip_St} {S9 : ip_St} (h : f_M_copy_49_54 S = some S9) : ip_Me 176 [.ref 49, .ref 54] S none S9 := by
  unfold f_M_copy_49_54 at h
  refine ⟨[some (.ref 49), some (.ref 54), none], rfl, ?_⟩
  refine ip_Ev.steps 2 (pc' := 2) (lv' := [some (.ref 49), some (.ref 54), some (.int 0)]) (st' := []) (S1 := S) rfl ?_
  exact E_M_copy_49_54_2 ip_FU h
-- M_image
def f_M_image  (S : ip_St) : Option (Int32 × ip_St) := (if (f_M_lacks S) = false then ((f_M_copy_41_50 S).bind fun zS3 => ((f_M_copy_42_51 zS3).bind fun zS5 => ((f_M_copy_43_52 zS5).bind fun zS7 => ((f_M_copy_44_53 zS7).bind fun zS9 => ((f_M_copy_49_54 zS9).bind fun zS11 => some (((ip_upI (ip_upI (ip_upI (ip_upI (ip_upL (ip_upI zS11 30 36 (zS11.1 30 16)) 30 37 ((ip_upI zS11 30 36 (zS11.1 30 16)).2 30 17)) 30 33 ((ip_upL (ip_upI zS11 30 36 (zS11.1 30 16)) 30 37 ((ip_upI zS11 30 36 (zS11.1 30 16)).2 30 17)).1 30 19)) 30 34 ((ip_upI (ip_upL (ip_upI zS11 30 36 (zS11.1 30 16)) 30 37 ((ip_upI zS11 30 36 (zS11.1 30 16)).2 30 17)) 30 33 ((ip_upL (ip_upI zS11 30 36 (zS11.1 30 16)) 30 37 ((ip_upI zS11 30 36 (zS11.1 30 16)).2 30 17)).1 30 19)).1 30 20)) 30 35 ((ip_upI (ip_upI (ip_upL (ip_upI zS11 30 36 (zS11.1 30 16)) 30 37 ((ip_upI zS11 30 36 (zS11.1 30 16)).2 30 17)) 30 33 ((ip_upL (ip_upI zS11 30 36 (zS11.1 30 16)) 30 37 ((ip_upI zS11 30 36 (zS11.1 30 16)).2 30 17)).1 30 19)) 30 34 ((ip_upI (ip_upL (ip_upI zS11 30 36 (zS11.1 30 16)) 30 37 ((ip_upI zS11 30 36 (zS11.1 30 16)).2 30 17)) 30 33 ((ip_upL (ip_upI zS11 30 36 (zS11.1 30 16)) 30 37 ((ip_upI zS11 30 36 (zS11.1 30 16)).2 30 17)).1 30 19)).1 30 20)).1 30 29)) 30 32 ((ip_upI (ip_upI (ip_upI (ip_upL (ip_upI zS11 30 36 (zS11.1 30 16)) 30 37 ((ip_upI zS11 30 36 (zS11.1 30 16)).2 30 17)) 30 33 ((ip_upL (ip_upI zS11 30 36 (zS11.1 30 16)) 30 37 ((ip_upI zS11 30 36 (zS11.1 30 16)).2 30 17)).1 30 19)) 30 34 ((ip_upI (ip_upL (ip_upI zS11 30 36 (zS11.1 30 16)) 30 37 ((ip_upI zS11 30 36 (zS11.1 30 16)).2 30 17)) 30 33 ((ip_upL (ip_upI zS11 30 36 (zS11.1 30 16)) 30 37 ((ip_upI zS11 30 36 (zS11.1 30 16)).2 30 17)).1 30 19)).1 30 20)) 30 35 ((ip_upI (ip_upI (ip_upL (ip_upI zS11 30 36 (zS11.1 30 16)) 30 37 ((ip_upI zS11 30 36 (zS11.1 30 16)).2 30 17)) 30 33 ((ip_upL (ip_upI zS11 30 36 (zS11.1 30 16)) 30 37 ((ip_upI zS11 30 36 (zS11.1 30 16)).2 30 17)).1 30 19)) 30 34 ((ip_upI (ip_upL (ip_upI zS11 30 36 (zS11.1 30 16)) 30 37 ((ip_upI zS11 30 36 (zS11.1 30 16)).2 30 17)) 30 33 ((ip_upL (ip_upI zS11 30 36 (zS11.1 30 16)) 30 37 ((ip_upI zS11 30 36 (zS11.1 30 16)).2 30 17)).1 30 19)).1 30 20)).1 30 29)).1 30 21)).1 30 19), (ip_upI (ip_upI (ip_upI (ip_upI (ip_upL (ip_upI zS11 30 36 (zS11.1 30 16)) 30 37 ((ip_upI zS11 30 36 (zS11.1 30 16)).2 30 17)) 30 33 ((ip_upL (ip_upI zS11 30 36 (zS11.1 30 16)) 30 37 ((ip_upI zS11 30 36 (zS11.1 30 16)).2 30 17)).1 30 19)) 30 34 ((ip_upI (ip_upL (ip_upI zS11 30 36 (zS11.1 30 16)) 30 37 ((ip_upI zS11 30 36 (zS11.1 30 16)).2 30 17)) 30 33 ((ip_upL (ip_upI zS11 30 36 (zS11.1 30 16)) 30 37 ((ip_upI zS11 30 36 (zS11.1 30 16)).2 30 17)).1 30 19)).1 30 20)) 30 35 ((ip_upI (ip_upI (ip_upL (ip_upI zS11 30 36 (zS11.1 30 16)) 30 37 ((ip_upI zS11 30 36 (zS11.1 30 16)).2 30 17)) 30 33 ((ip_upL (ip_upI zS11 30 36 (zS11.1 30 16)) 30 37 ((ip_upI zS11 30 36 (zS11.1 30 16)).2 30 17)).1 30 19)) 30 34 ((ip_upI (ip_upL (ip_upI zS11 30 36 (zS11.1 30 16)) 30 37 ((ip_upI zS11 30 36 (zS11.1 30 16)).2 30 17)) 30 33 ((ip_upL (ip_upI zS11 30 36 (zS11.1 30 16)) 30 37 ((ip_upI zS11 30 36 (zS11.1 30 16)).2 30 17)).1 30 19)).1 30 20)).1 30 29)) 30 32 ((ip_upI (ip_upI (ip_upI (ip_upL (ip_upI zS11 30 36 (zS11.1 30 16)) 30 37 ((ip_upI zS11 30 36 (zS11.1 30 16)).2 30 17)) 30 33 ((ip_upL (ip_upI zS11 30 36 (zS11.1 30 16)) 30 37 ((ip_upI zS11 30 36 (zS11.1 30 16)).2 30 17)).1 30 19)) 30 34 ((ip_upI (ip_upL (ip_upI zS11 30 36 (zS11.1 30 16)) 30 37 ((ip_upI zS11 30 36 (zS11.1 30 16)).2 30 17)) 30 33 ((ip_upL (ip_upI zS11 30 36 (zS11.1 30 16)) 30 37 ((ip_upI zS11 30 36 (zS11.1 30 16)).2 30 17)).1 30 19)).1 30 20)) 30 35 ((ip_upI (ip_upI (ip_upL (ip_upI zS11 30 36 (zS11.1 30 16)) 30 37 ((ip_upI zS11 30 36 (zS11.1 30 16)).2 30 17)) 30 33 ((ip_upL (ip_upI zS11 30 36 (zS11.1 30 16)) 30 37 ((ip_upI zS11 30 36 (zS11.1 30 16)).2 30 17)).1 30 19)) 30 34 ((ip_upI (ip_upL (ip_upI zS11 30 36 (zS11.1 30 16)) 30 37 ((ip_upI zS11 30 36 (zS11.1 30 16)).2 30 17)) 30 33 ((ip_upL (ip_upI zS11 30 36 (zS11.1 30 16)) 30 37 ((ip_upI zS11 30 36 (zS11.1 30 16)).2 30 17)).1 30 19)).1 30 20)).1 30 29)).1 30 21)))))))) else some ((-103), S))
set_option maxRecDepth 10000 in
theorem T_M_image  {S : ip_St} {r : Int32} {S9 : ip_St} (h : f_M_image S = some (r, S9)) : ip_Me 177 [.ref 30] S (some (.int r)) S9 := by
  unfold f_M_image at h
  refine ⟨[some (.ref 30)], rfl, ?_⟩
  refine ip_Ev.steps 1 (pc' := 1) (lv' := [some (.ref 30)]) (st' := [.ref 30]) (S1 := S) rfl ?_
  refine ip_Ev.call (i := 126) (a := [.ref 30]) (r := []) rfl (T_M_lacks rfl) ?_
  show ip_Ev 177 4 [some (.ref 30)] [.int (ip_b2i (f_M_lacks S))] S _ _
  refine ip_Ev.iff1 rfl rfl ip_bEq (fun zhc1 => ?_) (fun zhc1 => ?_)
  · rw [if_pos zhc1] at h
    refine ip_Ev.steps 4 (pc' := 18) (lv' := [some (.ref 30)]) (st' := [.ref 50, .ref 41]) (S1 := S) rfl ?_
    obtain ⟨zS3, hzq2, h⟩ := ip_bind h
    refine ip_Ev.call (i := 176) (a := [.ref 41, .ref 50]) (r := []) rfl (T_M_copy_41_50 hzq2) ?_
    show ip_Ev 177 21 [some (.ref 30)] [] zS3 _ _
    refine ip_Ev.steps 4 (pc' := 29) (lv' := [some (.ref 30)]) (st' := [.ref 51, .ref 42]) (S1 := zS3) rfl ?_
    obtain ⟨zS5, hzq4, h⟩ := ip_bind h
    refine ip_Ev.call (i := 176) (a := [.ref 42, .ref 51]) (r := []) rfl (T_M_copy_42_51 hzq4) ?_
    show ip_Ev 177 32 [some (.ref 30)] [] zS5 _ _
    refine ip_Ev.steps 4 (pc' := 40) (lv' := [some (.ref 30)]) (st' := [.ref 52, .ref 43]) (S1 := zS5) rfl ?_
    obtain ⟨zS7, hzq6, h⟩ := ip_bind h
    refine ip_Ev.call (i := 176) (a := [.ref 43, .ref 52]) (r := []) rfl (T_M_copy_43_52 hzq6) ?_
    show ip_Ev 177 43 [some (.ref 30)] [] zS7 _ _
    refine ip_Ev.steps 4 (pc' := 51) (lv' := [some (.ref 30)]) (st' := [.ref 53, .ref 44]) (S1 := zS7) rfl ?_
    obtain ⟨zS9, hzq8, h⟩ := ip_bind h
    refine ip_Ev.call (i := 176) (a := [.ref 44, .ref 53]) (r := []) rfl (T_M_copy_44_53 hzq8) ?_
    show ip_Ev 177 54 [some (.ref 30)] [] zS9 _ _
    refine ip_Ev.steps 4 (pc' := 62) (lv' := [some (.ref 30)]) (st' := [.ref 54, .ref 49]) (S1 := zS9) rfl ?_
    obtain ⟨zS11, hzq10, h⟩ := ip_bind h
    refine ip_Ev.call (i := 176) (a := [.ref 49, .ref 54]) (r := []) rfl (T_M_copy_49_54 hzq10) ?_
    show ip_Ev 177 65 [some (.ref 30)] [] zS11 _ _
    refine ip_Ev.steps 12 (pc' := 89) (lv' := [some (.ref 30)]) (st' := []) (S1 := (ip_upI (ip_upL (ip_upI zS11 30 36 (zS11.1 30 16)) 30 37 ((ip_upI zS11 30 36 (zS11.1 30 16)).2 30 17)) 30 33 ((ip_upL (ip_upI zS11 30 36 (zS11.1 30 16)) 30 37 ((ip_upI zS11 30 36 (zS11.1 30 16)).2 30 17)).1 30 19))) rfl ?_
    refine ip_Ev.steps 12 (pc' := 113) (lv' := [some (.ref 30)]) (st' := []) (S1 := (ip_upI (ip_upI (ip_upI (ip_upI (ip_upL (ip_upI zS11 30 36 (zS11.1 30 16)) 30 37 ((ip_upI zS11 30 36 (zS11.1 30 16)).2 30 17)) 30 33 ((ip_upL (ip_upI zS11 30 36 (zS11.1 30 16)) 30 37 ((ip_upI zS11 30 36 (zS11.1 30 16)).2 30 17)).1 30 19)) 30 34 ((ip_upI (ip_upL (ip_upI zS11 30 36 (zS11.1 30 16)) 30 37 ((ip_upI zS11 30 36 (zS11.1 30 16)).2 30 17)) 30 33 ((ip_upL (ip_upI zS11 30 36 (zS11.1 30 16)) 30 37 ((ip_upI zS11 30 36 (zS11.1 30 16)).2 30 17)).1 30 19)).1 30 20)) 30 35 ((ip_upI (ip_upI (ip_upL (ip_upI zS11 30 36 (zS11.1 30 16)) 30 37 ((ip_upI zS11 30 36 (zS11.1 30 16)).2 30 17)) 30 33 ((ip_upL (ip_upI zS11 30 36 (zS11.1 30 16)) 30 37 ((ip_upI zS11 30 36 (zS11.1 30 16)).2 30 17)).1 30 19)) 30 34 ((ip_upI (ip_upL (ip_upI zS11 30 36 (zS11.1 30 16)) 30 37 ((ip_upI zS11 30 36 (zS11.1 30 16)).2 30 17)) 30 33 ((ip_upL (ip_upI zS11 30 36 (zS11.1 30 16)) 30 37 ((ip_upI zS11 30 36 (zS11.1 30 16)).2 30 17)).1 30 19)).1 30 20)).1 30 29)) 30 32 ((ip_upI (ip_upI (ip_upI (ip_upL (ip_upI zS11 30 36 (zS11.1 30 16)) 30 37 ((ip_upI zS11 30 36 (zS11.1 30 16)).2 30 17)) 30 33 ((ip_upL (ip_upI zS11 30 36 (zS11.1 30 16)) 30 37 ((ip_upI zS11 30 36 (zS11.1 30 16)).2 30 17)).1 30 19)) 30 34 ((ip_upI (ip_upL (ip_upI zS11 30 36 (zS11.1 30 16)) 30 37 ((ip_upI zS11 30 36 (zS11.1 30 16)).2 30 17)) 30 33 ((ip_upL (ip_upI zS11 30 36 (zS11.1 30 16)) 30 37 ((ip_upI zS11 30 36 (zS11.1 30 16)).2 30 17)).1 30 19)).1 30 20)) 30 35 ((ip_upI (ip_upI (ip_upL (ip_upI zS11 30 36 (zS11.1 30 16)) 30 37 ((ip_upI zS11 30 36 (zS11.1 30 16)).2 30 17)) 30 33 ((ip_upL (ip_upI zS11 30 36 (zS11.1 30 16)) 30 37 ((ip_upI zS11 30 36 (zS11.1 30 16)).2 30 17)).1 30 19)) 30 34 ((ip_upI (ip_upL (ip_upI zS11 30 36 (zS11.1 30 16)) 30 37 ((ip_upI zS11 30 36 (zS11.1 30 16)).2 30 17)) 30 33 ((ip_upL (ip_upI zS11 30 36 (zS11.1 30 16)) 30 37 ((ip_upI zS11 30 36 (zS11.1 30 16)).2 30 17)).1 30 19)).1 30 20)).1 30 29)).1 30 21))) rfl ?_
    refine ip_Ev.steps 2 (pc' := 117) (lv' := [some (.ref 30)]) (st' := [.int ((ip_upI (ip_upI (ip_upI (ip_upI (ip_upL (ip_upI zS11 30 36 (zS11.1 30 16)) 30 37 ((ip_upI zS11 30 36 (zS11.1 30 16)).2 30 17)) 30 33 ((ip_upL (ip_upI zS11 30 36 (zS11.1 30 16)) 30 37 ((ip_upI zS11 30 36 (zS11.1 30 16)).2 30 17)).1 30 19)) 30 34 ((ip_upI (ip_upL (ip_upI zS11 30 36 (zS11.1 30 16)) 30 37 ((ip_upI zS11 30 36 (zS11.1 30 16)).2 30 17)) 30 33 ((ip_upL (ip_upI zS11 30 36 (zS11.1 30 16)) 30 37 ((ip_upI zS11 30 36 (zS11.1 30 16)).2 30 17)).1 30 19)).1 30 20)) 30 35 ((ip_upI (ip_upI (ip_upL (ip_upI zS11 30 36 (zS11.1 30 16)) 30 37 ((ip_upI zS11 30 36 (zS11.1 30 16)).2 30 17)) 30 33 ((ip_upL (ip_upI zS11 30 36 (zS11.1 30 16)) 30 37 ((ip_upI zS11 30 36 (zS11.1 30 16)).2 30 17)).1 30 19)) 30 34 ((ip_upI (ip_upL (ip_upI zS11 30 36 (zS11.1 30 16)) 30 37 ((ip_upI zS11 30 36 (zS11.1 30 16)).2 30 17)) 30 33 ((ip_upL (ip_upI zS11 30 36 (zS11.1 30 16)) 30 37 ((ip_upI zS11 30 36 (zS11.1 30 16)).2 30 17)).1 30 19)).1 30 20)).1 30 29)) 30 32 ((ip_upI (ip_upI (ip_upI (ip_upL (ip_upI zS11 30 36 (zS11.1 30 16)) 30 37 ((ip_upI zS11 30 36 (zS11.1 30 16)).2 30 17)) 30 33 ((ip_upL (ip_upI zS11 30 36 (zS11.1 30 16)) 30 37 ((ip_upI zS11 30 36 (zS11.1 30 16)).2 30 17)).1 30 19)) 30 34 ((ip_upI (ip_upL (ip_upI zS11 30 36 (zS11.1 30 16)) 30 37 ((ip_upI zS11 30 36 (zS11.1 30 16)).2 30 17)) 30 33 ((ip_upL (ip_upI zS11 30 36 (zS11.1 30 16)) 30 37 ((ip_upI zS11 30 36 (zS11.1 30 16)).2 30 17)).1 30 19)).1 30 20)) 30 35 ((ip_upI (ip_upI (ip_upL (ip_upI zS11 30 36 (zS11.1 30 16)) 30 37 ((ip_upI zS11 30 36 (zS11.1 30 16)).2 30 17)) 30 33 ((ip_upL (ip_upI zS11 30 36 (zS11.1 30 16)) 30 37 ((ip_upI zS11 30 36 (zS11.1 30 16)).2 30 17)).1 30 19)) 30 34 ((ip_upI (ip_upL (ip_upI zS11 30 36 (zS11.1 30 16)) 30 37 ((ip_upI zS11 30 36 (zS11.1 30 16)).2 30 17)) 30 33 ((ip_upL (ip_upI zS11 30 36 (zS11.1 30 16)) 30 37 ((ip_upI zS11 30 36 (zS11.1 30 16)).2 30 17)).1 30 19)).1 30 20)).1 30 29)).1 30 21)).1 30 19)]) (S1 := (ip_upI (ip_upI (ip_upI (ip_upI (ip_upL (ip_upI zS11 30 36 (zS11.1 30 16)) 30 37 ((ip_upI zS11 30 36 (zS11.1 30 16)).2 30 17)) 30 33 ((ip_upL (ip_upI zS11 30 36 (zS11.1 30 16)) 30 37 ((ip_upI zS11 30 36 (zS11.1 30 16)).2 30 17)).1 30 19)) 30 34 ((ip_upI (ip_upL (ip_upI zS11 30 36 (zS11.1 30 16)) 30 37 ((ip_upI zS11 30 36 (zS11.1 30 16)).2 30 17)) 30 33 ((ip_upL (ip_upI zS11 30 36 (zS11.1 30 16)) 30 37 ((ip_upI zS11 30 36 (zS11.1 30 16)).2 30 17)).1 30 19)).1 30 20)) 30 35 ((ip_upI (ip_upI (ip_upL (ip_upI zS11 30 36 (zS11.1 30 16)) 30 37 ((ip_upI zS11 30 36 (zS11.1 30 16)).2 30 17)) 30 33 ((ip_upL (ip_upI zS11 30 36 (zS11.1 30 16)) 30 37 ((ip_upI zS11 30 36 (zS11.1 30 16)).2 30 17)).1 30 19)) 30 34 ((ip_upI (ip_upL (ip_upI zS11 30 36 (zS11.1 30 16)) 30 37 ((ip_upI zS11 30 36 (zS11.1 30 16)).2 30 17)) 30 33 ((ip_upL (ip_upI zS11 30 36 (zS11.1 30 16)) 30 37 ((ip_upI zS11 30 36 (zS11.1 30 16)).2 30 17)).1 30 19)).1 30 20)).1 30 29)) 30 32 ((ip_upI (ip_upI (ip_upI (ip_upL (ip_upI zS11 30 36 (zS11.1 30 16)) 30 37 ((ip_upI zS11 30 36 (zS11.1 30 16)).2 30 17)) 30 33 ((ip_upL (ip_upI zS11 30 36 (zS11.1 30 16)) 30 37 ((ip_upI zS11 30 36 (zS11.1 30 16)).2 30 17)).1 30 19)) 30 34 ((ip_upI (ip_upL (ip_upI zS11 30 36 (zS11.1 30 16)) 30 37 ((ip_upI zS11 30 36 (zS11.1 30 16)).2 30 17)) 30 33 ((ip_upL (ip_upI zS11 30 36 (zS11.1 30 16)) 30 37 ((ip_upI zS11 30 36 (zS11.1 30 16)).2 30 17)).1 30 19)).1 30 20)) 30 35 ((ip_upI (ip_upI (ip_upL (ip_upI zS11 30 36 (zS11.1 30 16)) 30 37 ((ip_upI zS11 30 36 (zS11.1 30 16)).2 30 17)) 30 33 ((ip_upL (ip_upI zS11 30 36 (zS11.1 30 16)) 30 37 ((ip_upI zS11 30 36 (zS11.1 30 16)).2 30 17)).1 30 19)) 30 34 ((ip_upI (ip_upL (ip_upI zS11 30 36 (zS11.1 30 16)) 30 37 ((ip_upI zS11 30 36 (zS11.1 30 16)).2 30 17)) 30 33 ((ip_upL (ip_upI zS11 30 36 (zS11.1 30 16)) 30 37 ((ip_upI zS11 30 36 (zS11.1 30 16)).2 30 17)).1 30 19)).1 30 20)).1 30 29)).1 30 21))) rfl ?_
    cases h
    exact ip_Ev.ret rfl
  · rw [if_neg zhc1] at h
    refine ip_Ev.steps 1 (pc' := 9) (lv' := [some (.ref 30)]) (st' := [.int (-103)]) (S1 := S) rfl ?_
    cases h
    exact ip_Ev.ret rfl
-- L_take_17_24
def f_L_take_17_24  (S : ip_St) : ip_St := (ip_upI (ip_upI (ip_upI (ip_upI (ip_upL S 17 0 (S.2 24 0)) 17 1 ((ip_upL S 17 0 (S.2 24 0)).1 24 1)) 17 2 ((ip_upI (ip_upL S 17 0 (S.2 24 0)) 17 1 ((ip_upL S 17 0 (S.2 24 0)).1 24 1)).1 24 2)) 17 3 ((ip_upI (ip_upI (ip_upL S 17 0 (S.2 24 0)) 17 1 ((ip_upL S 17 0 (S.2 24 0)).1 24 1)) 17 2 ((ip_upI (ip_upL S 17 0 (S.2 24 0)) 17 1 ((ip_upL S 17 0 (S.2 24 0)).1 24 1)).1 24 2)).1 24 3)) 17 4 ((ip_upI (ip_upI (ip_upI (ip_upL S 17 0 (S.2 24 0)) 17 1 ((ip_upL S 17 0 (S.2 24 0)).1 24 1)) 17 2 ((ip_upI (ip_upL S 17 0 (S.2 24 0)) 17 1 ((ip_upL S 17 0 (S.2 24 0)).1 24 1)).1 24 2)) 17 3 ((ip_upI (ip_upI (ip_upL S 17 0 (S.2 24 0)) 17 1 ((ip_upL S 17 0 (S.2 24 0)).1 24 1)) 17 2 ((ip_upI (ip_upL S 17 0 (S.2 24 0)) 17 1 ((ip_upL S 17 0 (S.2 24 0)).1 24 1)).1 24 2)).1 24 3)).1 24 4))
set_option maxRecDepth 10000 in
theorem T_L_take_17_24  {S : ip_St} {S9 : ip_St} (h : f_L_take_17_24 S = S9) : ip_Me 28 [.ref 17, .ref 24] S none S9 := by
  unfold f_L_take_17_24 at h
  refine ⟨[some (.ref 17), some (.ref 24)], rfl, ?_⟩
  refine ip_Ev.steps 12 (pc' := 24) (lv' := [some (.ref 17), some (.ref 24)]) (st' := []) (S1 := (ip_upI (ip_upI (ip_upL S 17 0 (S.2 24 0)) 17 1 ((ip_upL S 17 0 (S.2 24 0)).1 24 1)) 17 2 ((ip_upI (ip_upL S 17 0 (S.2 24 0)) 17 1 ((ip_upL S 17 0 (S.2 24 0)).1 24 1)).1 24 2))) rfl ?_
  refine ip_Ev.steps 8 (pc' := 40) (lv' := [some (.ref 17), some (.ref 24)]) (st' := []) (S1 := (ip_upI (ip_upI (ip_upI (ip_upI (ip_upL S 17 0 (S.2 24 0)) 17 1 ((ip_upL S 17 0 (S.2 24 0)).1 24 1)) 17 2 ((ip_upI (ip_upL S 17 0 (S.2 24 0)) 17 1 ((ip_upL S 17 0 (S.2 24 0)).1 24 1)).1 24 2)) 17 3 ((ip_upI (ip_upI (ip_upL S 17 0 (S.2 24 0)) 17 1 ((ip_upL S 17 0 (S.2 24 0)).1 24 1)) 17 2 ((ip_upI (ip_upL S 17 0 (S.2 24 0)) 17 1 ((ip_upL S 17 0 (S.2 24 0)).1 24 1)).1 24 2)).1 24 3)) 17 4 ((ip_upI (ip_upI (ip_upI (ip_upL S 17 0 (S.2 24 0)) 17 1 ((ip_upL S 17 0 (S.2 24 0)).1 24 1)) 17 2 ((ip_upI (ip_upL S 17 0 (S.2 24 0)) 17 1 ((ip_upL S 17 0 (S.2 24 0)).1 24 1)).1 24 2)) 17 3 ((ip_upI (ip_upI (ip_upL S 17 0 (S.2 24 0)) 17 1 ((ip_upL S 17 0 (S.2 24 0)).1 24 1)) 17 2 ((ip_upI (ip_upL S 17 0 (S.2 24 0)) 17 1 ((ip_upL S 17 0 (S.2 24 0)).1 24 1)).1 24 2)).1 24 3)).1 24 4))) rfl ?_
  cases h
  exact ip_Ev.ret rfl
-- D_take_12_19
def f_D_take_12_19_65 : Nat → Int32 → ip_St → Option (ip_St)
  | 0, _, _ => none
  | n + 1, x2, S => (if 8 ≤ x2 then some (ip_upI S 12 6 (S.1 19 6)) else ((ip_aI S 25 x2).bind fun zv2 => ((ip_wI S 18 x2 zv2).bind fun zS3 => (f_D_take_12_19_65 n (x2 + 1) zS3))))
set_option maxRecDepth 10000 in
theorem E_D_take_12_19_65 : ∀ (n : Nat) {x2 : Int32} {S : ip_St} {S9 : ip_St}, f_D_take_12_19_65 n x2 S = some S9 → ip_Ev 89 65 [some (.ref 12), some (.ref 19), some (.int x2)] [] S none S9 := by
  intro n
  induction n with
  | zero =>
    intro x2 S S9 h
    cases h
  | succ n ih =>
    intro x2 S S9 h
    rw [f_D_take_12_19_65] at h
    refine ip_Ev.steps 2 (pc' := 68) (lv' := [some (.ref 12), some (.ref 19), some (.int x2)]) (st' := [.int 8, .int x2]) (S1 := S) rfl ?_
    refine ip_Ev.iff2 rfl rfl ip_cGe (fun zhc1 => ?_) (fun zhc1 => ?_)
    · rw [if_pos zhc1] at h
      refine ip_Ev.steps 4 (pc' := 97) (lv' := [some (.ref 12), some (.ref 19), some (.int x2)]) (st' := []) (S1 := (ip_upI S 12 6 (S.1 19 6))) rfl ?_
      cases h
      exact ip_Ev.ret rfl
    · rw [if_neg zhc1] at h
      refine ip_Ev.steps 6 (pc' := 81) (lv' := [some (.ref 12), some (.ref 19), some (.int x2)]) (st' := [.int x2, .ref 25, .int x2, .ref 18]) (S1 := S) rfl ?_
      obtain ⟨zv2, hzv2, h⟩ := ip_bind h
      refine ip_Ev.iald rfl hzv2 ?_
      obtain ⟨zS3, hzS3, h⟩ := ip_bind h
      refine ip_Ev.iast rfl hzS3 ?_
      refine ip_Ev.steps 2 (pc' := 65) (lv' := [some (.ref 12), some (.ref 19), some (.int (x2 + 1))]) (st' := []) (S1 := zS3) rfl ?_
      exact ih h
def f_D_take_12_19_2 : Nat → Int32 → ip_St → Option (ip_St)
  | 0, _, _ => none
  | n + 1, x2, S => (if 3 ≤ x2 then (f_D_take_12_19_65 ip_FU 0 (ip_upI (ip_upI (f_L_take_17_24 (ip_upI S 12 1 (S.1 19 1))) 12 3 ((f_L_take_17_24 (ip_upI S 12 1 (S.1 19 1))).1 19 3)) 12 4 ((ip_upI (f_L_take_17_24 (ip_upI S 12 1 (S.1 19 1))) 12 3 ((f_L_take_17_24 (ip_upI S 12 1 (S.1 19 1))).1 19 3)).1 19 4))) else ((ip_aA 13 x2).bind fun zv2 => ((ip_aA 20 x2).bind fun zv3 => ((f_J_take zv2 zv3 S).bind fun zS5 => (f_D_take_12_19_2 n (x2 + 1) zS5)))))
set_option maxRecDepth 10000 in
theorem E_D_take_12_19_2 : ∀ (n : Nat) {x2 : Int32} {S : ip_St} {S9 : ip_St}, f_D_take_12_19_2 n x2 S = some S9 → ip_Ev 89 2 [some (.ref 12), some (.ref 19), some (.int x2)] [] S none S9 := by
  intro n
  induction n with
  | zero =>
    intro x2 S S9 h
    cases h
  | succ n ih =>
    intro x2 S S9 h
    rw [f_D_take_12_19_2] at h
    refine ip_Ev.steps 2 (pc' := 4) (lv' := [some (.ref 12), some (.ref 19), some (.int x2)]) (st' := [.int 3, .int x2]) (S1 := S) rfl ?_
    refine ip_Ev.iff2 rfl rfl ip_cGe (fun zhc1 => ?_) (fun zhc1 => ?_)
    · rw [if_pos zhc1] at h
      refine ip_Ev.steps 8 (pc' := 44) (lv' := [some (.ref 12), some (.ref 19), some (.int x2)]) (st' := [.ref 24, .ref 17]) (S1 := (ip_upI S 12 1 (S.1 19 1))) rfl ?_
      refine ip_Ev.call (i := 28) (a := [.ref 17, .ref 24]) (r := []) rfl (T_L_take_17_24 rfl) ?_
      show ip_Ev 89 47 [some (.ref 12), some (.ref 19), some (.int x2)] [] (f_L_take_17_24 (ip_upI S 12 1 (S.1 19 1))) _ _
      refine ip_Ev.steps 10 (pc' := 65) (lv' := [some (.ref 12), some (.ref 19), some (.int 0)]) (st' := []) (S1 := (ip_upI (ip_upI (f_L_take_17_24 (ip_upI S 12 1 (S.1 19 1))) 12 3 ((f_L_take_17_24 (ip_upI S 12 1 (S.1 19 1))).1 19 3)) 12 4 ((ip_upI (f_L_take_17_24 (ip_upI S 12 1 (S.1 19 1))) 12 3 ((f_L_take_17_24 (ip_upI S 12 1 (S.1 19 1))).1 19 3)).1 19 4))) rfl ?_
      exact E_D_take_12_19_65 ip_FU h
    · rw [if_neg zhc1] at h
      refine ip_Ev.steps 3 (pc' := 12) (lv' := [some (.ref 12), some (.ref 19), some (.int x2)]) (st' := [.int x2, .ref 13]) (S1 := S) rfl ?_
      obtain ⟨zv2, hzv2, h⟩ := ip_bind h
      refine ip_Ev.aald rfl hzv2 ?_
      have hozv2 := ip_aA_ob hzv2
      refine ip_Ev.steps 3 (pc' := 18) (lv' := [some (.ref 12), some (.ref 19), some (.int x2)]) (st' := [.int x2, .ref 20, .ref zv2]) (S1 := S) rfl ?_
      obtain ⟨zv3, hzv3, h⟩ := ip_bind h
      refine ip_Ev.aald rfl hzv3 ?_
      have hozv3 := ip_aA_ob hzv3
      obtain ⟨zS5, hzq4, h⟩ := ip_bind h
      refine ip_Ev.callJ (i := 88) (b := zv2) (a := [.ref zv3]) (r := []) rfl rfl rfl rfl hozv2 rfl rfl (T_J_take hozv2 hozv3 hzq4) ?_
      show ip_Ev 89 22 [some (.ref 12), some (.ref 19), some (.int x2)] [] zS5 _ _
      refine ip_Ev.steps 2 (pc' := 2) (lv' := [some (.ref 12), some (.ref 19), some (.int (x2 + 1))]) (st' := []) (S1 := zS5) rfl ?_
      exact ih h
def f_D_take_12_19  (S : ip_St) : Option (ip_St) := (f_D_take_12_19_2 ip_FU 0 S)
set_option maxRecDepth 10000 in
theorem T_D_take_12_19  {S : ip_St} {S9 : ip_St} (h : f_D_take_12_19 S = some S9) : ip_Me 89 [.ref 12, .ref 19] S none S9 := by
  unfold f_D_take_12_19 at h
  refine ⟨[some (.ref 12), some (.ref 19), none], rfl, ?_⟩
  refine ip_Ev.steps 2 (pc' := 2) (lv' := [some (.ref 12), some (.ref 19), some (.int 0)]) (st' := []) (S1 := S) rfl ?_
  exact E_D_take_12_19_2 ip_FU h
-- A_restore
def f_A_restore  (S : ip_St) : Option (Int32 × ip_St) := (if (S.1 0 6) = 0 then some ((-103), S) else ((f_D_take_12_19 S).bind fun zS3 => some ((zS3.1 12 4), zS3)))
set_option maxRecDepth 10000 in
theorem T_A_restore  {S : ip_St} {r : Int32} {S9 : ip_St} (h : f_A_restore S = some (r, S9)) : ip_Me 91 [.ref 0] S (some (.int r)) S9 := by
  unfold f_A_restore at h
  refine ⟨[some (.ref 0)], rfl, ?_⟩
  refine ip_Ev.steps 2 (pc' := 4) (lv' := [some (.ref 0)]) (st' := [.int (S.1 0 6)]) (S1 := S) rfl ?_
  refine ip_Ev.iff1 rfl rfl ip_cNe (fun zhc1 => ?_) (fun zhc1 => ?_)
  · rw [if_neg zhc1] at h
    refine ip_Ev.steps 4 (pc' := 18) (lv' := [some (.ref 0)]) (st' := [.ref 19, .ref 12]) (S1 := S) rfl ?_
    obtain ⟨zS3, hzq2, h⟩ := ip_bind h
    refine ip_Ev.call (i := 89) (a := [.ref 12, .ref 19]) (r := []) rfl (T_D_take_12_19 hzq2) ?_
    show ip_Ev 91 21 [some (.ref 0)] [] zS3 _ _
    refine ip_Ev.steps 3 (pc' := 28) (lv' := [some (.ref 0)]) (st' := [.int (zS3.1 12 4)]) (S1 := zS3) rfl ?_
    cases h
    exact ip_Ev.ret rfl
  · rw [if_pos (Decidable.of_not_not zhc1)] at h
    refine ip_Ev.steps 1 (pc' := 9) (lv' := [some (.ref 0)]) (st' := [.int (-103)]) (S1 := S) rfl ?_
    cases h
    exact ip_Ev.ret rfl
-- M_copy_50_41
def f_M_copy_50_41_2 : Nat → Int32 → ip_St → Option (ip_St)
  | 0, _, _ => none
  | n + 1, x2, S => (if 56 ≤ x2 then some S else ((ip_aI S 50 x2).bind fun zv2 => ((ip_wI S 41 x2 zv2).bind fun zS3 => (f_M_copy_50_41_2 n (x2 + 1) zS3))))
set_option maxRecDepth 10000 in
theorem E_M_copy_50_41_2 : ∀ (n : Nat) {x2 : Int32} {S : ip_St} {S9 : ip_St}, f_M_copy_50_41_2 n x2 S = some S9 → ip_Ev 176 2 [some (.ref 50), some (.ref 41), some (.int x2)] [] S none S9 := by
  intro n
  induction n with
  | zero =>
    intro x2 S S9 h
    cases h
  | succ n ih =>
    intro x2 S S9 h
    rw [f_M_copy_50_41_2] at h
    refine ip_Ev.steps 3 (pc' := 5) (lv' := [some (.ref 50), some (.ref 41), some (.int x2)]) (st' := [.int 56, .int x2]) (S1 := S) rfl ?_
    refine ip_Ev.iff2 rfl rfl ip_cGe (fun zhc1 => ?_) (fun zhc1 => ?_)
    · rw [if_pos zhc1] at h
      cases h
      exact ip_Ev.ret rfl
    · rw [if_neg zhc1] at h
      refine ip_Ev.steps 4 (pc' := 12) (lv' := [some (.ref 50), some (.ref 41), some (.int x2)]) (st' := [.int x2, .ref 50, .int x2, .ref 41]) (S1 := S) rfl ?_
      obtain ⟨zv2, hzv2, h⟩ := ip_bind h
      refine ip_Ev.iald rfl hzv2 ?_
      obtain ⟨zS3, hzS3, h⟩ := ip_bind h
      refine ip_Ev.iast rfl hzS3 ?_
      refine ip_Ev.steps 2 (pc' := 2) (lv' := [some (.ref 50), some (.ref 41), some (.int (x2 + 1))]) (st' := []) (S1 := zS3) rfl ?_
      exact ih h
def f_M_copy_50_41  (S : ip_St) : Option (ip_St) := (f_M_copy_50_41_2 ip_FU 0 S)
set_option maxRecDepth 10000 in
theorem T_M_copy_50_41  {S : ip_St} {S9 : ip_St} (h : f_M_copy_50_41 S = some S9) : ip_Me 176 [.ref 50, .ref 41] S none S9 := by
  unfold f_M_copy_50_41 at h
  refine ⟨[some (.ref 50), some (.ref 41), none], rfl, ?_⟩
  refine ip_Ev.steps 2 (pc' := 2) (lv' := [some (.ref 50), some (.ref 41), some (.int 0)]) (st' := []) (S1 := S) rfl ?_
  exact E_M_copy_50_41_2 ip_FU h
-- M_copy_51_42
def f_M_copy_51_42_2 : Nat → Int32 → ip_St → Option (ip_St)
  | 0, _, _ => none
  | n + 1, x2, S => (if 6 ≤ x2 then some S else ((ip_aI S 51 x2).bind fun zv2 => ((ip_wI S 42 x2 zv2).bind fun zS3 => (f_M_copy_51_42_2 n (x2 + 1) zS3))))
set_option maxRecDepth 10000 in
theorem E_M_copy_51_42_2 : ∀ (n : Nat) {x2 : Int32} {S : ip_St} {S9 : ip_St}, f_M_copy_51_42_2 n x2 S = some S9 → ip_Ev 176 2 [some (.ref 51), some (.ref 42), some (.int x2)] [] S none S9 := by
  intro n
  induction n with
  | zero =>
    intro x2 S S9 h
    cases h
  | succ n ih =>
    intro x2 S S9 h
    rw [f_M_copy_51_42_2] at h
    refine ip_Ev.steps 3 (pc' := 5) (lv' := [some (.ref 51), some (.ref 42), some (.int x2)]) (st' := [.int 6, .int x2]) (S1 := S) rfl ?_
    refine ip_Ev.iff2 rfl rfl ip_cGe (fun zhc1 => ?_) (fun zhc1 => ?_)
    · rw [if_pos zhc1] at h
      cases h
      exact ip_Ev.ret rfl
    · rw [if_neg zhc1] at h
      refine ip_Ev.steps 4 (pc' := 12) (lv' := [some (.ref 51), some (.ref 42), some (.int x2)]) (st' := [.int x2, .ref 51, .int x2, .ref 42]) (S1 := S) rfl ?_
      obtain ⟨zv2, hzv2, h⟩ := ip_bind h
      refine ip_Ev.iald rfl hzv2 ?_
      obtain ⟨zS3, hzS3, h⟩ := ip_bind h
      refine ip_Ev.iast rfl hzS3 ?_
      refine ip_Ev.steps 2 (pc' := 2) (lv' := [some (.ref 51), some (.ref 42), some (.int (x2 + 1))]) (st' := []) (S1 := zS3) rfl ?_
      exact ih h
def f_M_copy_51_42  (S : ip_St) : Option (ip_St) := (f_M_copy_51_42_2 ip_FU 0 S)
set_option maxRecDepth 10000 in
theorem T_M_copy_51_42  {S : ip_St} {S9 : ip_St} (h : f_M_copy_51_42 S = some S9) : ip_Me 176 [.ref 51, .ref 42] S none S9 := by
  unfold f_M_copy_51_42 at h
  refine ⟨[some (.ref 51), some (.ref 42), none], rfl, ?_⟩
  refine ip_Ev.steps 2 (pc' := 2) (lv' := [some (.ref 51), some (.ref 42), some (.int 0)]) (st' := []) (S1 := S) rfl ?_
  exact E_M_copy_51_42_2 ip_FU h
-- M_copy_52_43
def f_M_copy_52_43_2 : Nat → Int32 → ip_St → Option (ip_St)
  | 0, _, _ => none
  | n + 1, x2, S => (if 18 ≤ x2 then some S else ((ip_aI S 52 x2).bind fun zv2 => ((ip_wI S 43 x2 zv2).bind fun zS3 => (f_M_copy_52_43_2 n (x2 + 1) zS3))))
set_option maxRecDepth 10000 in
theorem E_M_copy_52_43_2 : ∀ (n : Nat) {x2 : Int32} {S : ip_St} {S9 : ip_St}, f_M_copy_52_43_2 n x2 S = some S9 → ip_Ev 176 2 [some (.ref 52), some (.ref 43), some (.int x2)] [] S none S9 := by
  intro n
  induction n with
  | zero =>
    intro x2 S S9 h
    cases h
  | succ n ih =>
    intro x2 S S9 h
    rw [f_M_copy_52_43_2] at h
    refine ip_Ev.steps 3 (pc' := 5) (lv' := [some (.ref 52), some (.ref 43), some (.int x2)]) (st' := [.int 18, .int x2]) (S1 := S) rfl ?_
    refine ip_Ev.iff2 rfl rfl ip_cGe (fun zhc1 => ?_) (fun zhc1 => ?_)
    · rw [if_pos zhc1] at h
      cases h
      exact ip_Ev.ret rfl
    · rw [if_neg zhc1] at h
      refine ip_Ev.steps 4 (pc' := 12) (lv' := [some (.ref 52), some (.ref 43), some (.int x2)]) (st' := [.int x2, .ref 52, .int x2, .ref 43]) (S1 := S) rfl ?_
      obtain ⟨zv2, hzv2, h⟩ := ip_bind h
      refine ip_Ev.iald rfl hzv2 ?_
      obtain ⟨zS3, hzS3, h⟩ := ip_bind h
      refine ip_Ev.iast rfl hzS3 ?_
      refine ip_Ev.steps 2 (pc' := 2) (lv' := [some (.ref 52), some (.ref 43), some (.int (x2 + 1))]) (st' := []) (S1 := zS3) rfl ?_
      exact ih h
def f_M_copy_52_43  (S : ip_St) : Option (ip_St) := (f_M_copy_52_43_2 ip_FU 0 S)
set_option maxRecDepth 10000 in
theorem T_M_copy_52_43  {S : ip_St} {S9 : ip_St} (h : f_M_copy_52_43 S = some S9) : ip_Me 176 [.ref 52, .ref 43] S none S9 := by
  unfold f_M_copy_52_43 at h
  refine ⟨[some (.ref 52), some (.ref 43), none], rfl, ?_⟩
  refine ip_Ev.steps 2 (pc' := 2) (lv' := [some (.ref 52), some (.ref 43), some (.int 0)]) (st' := []) (S1 := S) rfl ?_
  exact E_M_copy_52_43_2 ip_FU h
-- M_copy_53_44
def f_M_copy_53_44_2 : Nat → Int32 → ip_St → Option (ip_St)
  | 0, _, _ => none
  | n + 1, x2, S => (if 18 ≤ x2 then some S else ((ip_aI S 53 x2).bind fun zv2 => ((ip_wI S 44 x2 zv2).bind fun zS3 => (f_M_copy_53_44_2 n (x2 + 1) zS3))))
set_option maxRecDepth 10000 in
theorem E_M_copy_53_44_2 : ∀ (n : Nat) {x2 : Int32} {S : ip_St} {S9 : ip_St}, f_M_copy_53_44_2 n x2 S = some S9 → ip_Ev 176 2 [some (.ref 53), some (.ref 44), some (.int x2)] [] S none S9 := by
  intro n
  induction n with
  | zero =>
    intro x2 S S9 h
    cases h
  | succ n ih =>
    intro x2 S S9 h
    rw [f_M_copy_53_44_2] at h
    refine ip_Ev.steps 3 (pc' := 5) (lv' := [some (.ref 53), some (.ref 44), some (.int x2)]) (st' := [.int 18, .int x2]) (S1 := S) rfl ?_
    refine ip_Ev.iff2 rfl rfl ip_cGe (fun zhc1 => ?_) (fun zhc1 => ?_)
    · rw [if_pos zhc1] at h
      cases h
      exact ip_Ev.ret rfl
    · rw [if_neg zhc1] at h
      refine ip_Ev.steps 4 (pc' := 12) (lv' := [some (.ref 53), some (.ref 44), some (.int x2)]) (st' := [.int x2, .ref 53, .int x2, .ref 44]) (S1 := S) rfl ?_
      obtain ⟨zv2, hzv2, h⟩ := ip_bind h
      refine ip_Ev.iald rfl hzv2 ?_
      obtain ⟨zS3, hzS3, h⟩ := ip_bind h
      refine ip_Ev.iast rfl hzS3 ?_
      refine ip_Ev.steps 2 (pc' := 2) (lv' := [some (.ref 53), some (.ref 44), some (.int (x2 + 1))]) (st' := []) (S1 := zS3) rfl ?_
      exact ih h
def f_M_copy_53_44  (S : ip_St) : Option (ip_St) := (f_M_copy_53_44_2 ip_FU 0 S)
set_option maxRecDepth 10000 in
theorem T_M_copy_53_44  {S : ip_St} {S9 : ip_St} (h : f_M_copy_53_44 S = some S9) : ip_Me 176 [.ref 53, .ref 44] S none S9 := by
  unfold f_M_copy_53_44 at h
  refine ⟨[some (.ref 53), some (.ref 44), none], rfl, ?_⟩
  refine ip_Ev.steps 2 (pc' := 2) (lv' := [some (.ref 53), some (.ref 44), some (.int 0)]) (st' := []) (S1 := S) rfl ?_
  exact E_M_copy_53_44_2 ip_FU h
-- M_copy_54_49
def f_M_copy_54_49_2 : Nat → Int32 → ip_St → Option (ip_St)
  | 0, _, _ => none
  | n + 1, x2, S => (if 32 ≤ x2 then some S else ((ip_aI S 54 x2).bind fun zv2 => ((ip_wI S 49 x2 zv2).bind fun zS3 => (f_M_copy_54_49_2 n (x2 + 1) zS3))))
set_option maxRecDepth 10000 in
theorem E_M_copy_54_49_2 : ∀ (n : Nat) {x2 : Int32} {S : ip_St} {S9 : ip_St}, f_M_copy_54_49_2 n x2 S = some S9 → ip_Ev 176 2 [some (.ref 54), some (.ref 49), some (.int x2)] [] S none S9 := by
  intro n
  induction n with
  | zero =>
    intro x2 S S9 h
    cases h
  | succ n ih =>
    intro x2 S S9 h
    rw [f_M_copy_54_49_2] at h
    refine ip_Ev.steps 3 (pc' := 5) (lv' := [some (.ref 54), some (.ref 49), some (.int x2)]) (st' := [.int 32, .int x2]) (S1 := S) rfl ?_
    refine ip_Ev.iff2 rfl rfl ip_cGe (fun zhc1 => ?_) (fun zhc1 => ?_)
    · rw [if_pos zhc1] at h
      cases h
      exact ip_Ev.ret rfl
    · rw [if_neg zhc1] at h
      refine ip_Ev.steps 4 (pc' := 12) (lv' := [some (.ref 54), some (.ref 49), some (.int x2)]) (st' := [.int x2, .ref 54, .int x2, .ref 49]) (S1 := S) rfl ?_
      obtain ⟨zv2, hzv2, h⟩ := ip_bind h
      refine ip_Ev.iald rfl hzv2 ?_
      obtain ⟨zS3, hzS3, h⟩ := ip_bind h
      refine ip_Ev.iast rfl hzS3 ?_
      refine ip_Ev.steps 2 (pc' := 2) (lv' := [some (.ref 54), some (.ref 49), some (.int (x2 + 1))]) (st' := []) (S1 := zS3) rfl ?_
      exact ih h
def f_M_copy_54_49  (S : ip_St) : Option (ip_St) := (f_M_copy_54_49_2 ip_FU 0 S)
set_option maxRecDepth 10000 in
theorem T_M_copy_54_49  {S : ip_St} {S9 : ip_St} (h : f_M_copy_54_49 S = some S9) : ip_Me 176 [.ref 54, .ref 49] S none S9 := by
  unfold f_M_copy_54_49 at h
  refine ⟨[some (.ref 54), some (.ref 49), none], rfl, ?_⟩
  refine ip_Ev.steps 2 (pc' := 2) (lv' := [some (.ref 54), some (.ref 49), some (.int 0)]) (st' := []) (S1 := S) rfl ?_
  exact E_M_copy_54_49_2 ip_FU h
-- M_restore
def f_M_restore  (S : ip_St) : Option (Int32 × ip_St) := (if (S.1 30 32) = (S.1 30 21) then ((f_M_copy_50_41 S).bind fun zS3 => ((f_M_copy_51_42 zS3).bind fun zS5 => ((f_M_copy_52_43 zS5).bind fun zS7 => ((f_M_copy_53_44 zS7).bind fun zS9 => ((f_M_copy_54_49 zS9).bind fun zS11 => some (((ip_upI (ip_upI (ip_upI (ip_upL (ip_upI zS11 30 16 (zS11.1 30 36)) 30 17 ((ip_upI zS11 30 16 (zS11.1 30 36)).2 30 37)) 30 19 ((ip_upL (ip_upI zS11 30 16 (zS11.1 30 36)) 30 17 ((ip_upI zS11 30 16 (zS11.1 30 36)).2 30 37)).1 30 33)) 30 20 ((ip_upI (ip_upL (ip_upI zS11 30 16 (zS11.1 30 36)) 30 17 ((ip_upI zS11 30 16 (zS11.1 30 36)).2 30 37)) 30 19 ((ip_upL (ip_upI zS11 30 16 (zS11.1 30 36)) 30 17 ((ip_upI zS11 30 16 (zS11.1 30 36)).2 30 37)).1 30 33)).1 30 34)) 30 29 ((ip_upI (ip_upI (ip_upL (ip_upI zS11 30 16 (zS11.1 30 36)) 30 17 ((ip_upI zS11 30 16 (zS11.1 30 36)).2 30 37)) 30 19 ((ip_upL (ip_upI zS11 30 16 (zS11.1 30 36)) 30 17 ((ip_upI zS11 30 16 (zS11.1 30 36)).2 30 37)).1 30 33)) 30 20 ((ip_upI (ip_upL (ip_upI zS11 30 16 (zS11.1 30 36)) 30 17 ((ip_upI zS11 30 16 (zS11.1 30 36)).2 30 37)) 30 19 ((ip_upL (ip_upI zS11 30 16 (zS11.1 30 36)) 30 17 ((ip_upI zS11 30 16 (zS11.1 30 36)).2 30 37)).1 30 33)).1 30 34)).1 30 35)).1 30 19), (ip_upI (ip_upI (ip_upI (ip_upL (ip_upI zS11 30 16 (zS11.1 30 36)) 30 17 ((ip_upI zS11 30 16 (zS11.1 30 36)).2 30 37)) 30 19 ((ip_upL (ip_upI zS11 30 16 (zS11.1 30 36)) 30 17 ((ip_upI zS11 30 16 (zS11.1 30 36)).2 30 37)).1 30 33)) 30 20 ((ip_upI (ip_upL (ip_upI zS11 30 16 (zS11.1 30 36)) 30 17 ((ip_upI zS11 30 16 (zS11.1 30 36)).2 30 37)) 30 19 ((ip_upL (ip_upI zS11 30 16 (zS11.1 30 36)) 30 17 ((ip_upI zS11 30 16 (zS11.1 30 36)).2 30 37)).1 30 33)).1 30 34)) 30 29 ((ip_upI (ip_upI (ip_upL (ip_upI zS11 30 16 (zS11.1 30 36)) 30 17 ((ip_upI zS11 30 16 (zS11.1 30 36)).2 30 37)) 30 19 ((ip_upL (ip_upI zS11 30 16 (zS11.1 30 36)) 30 17 ((ip_upI zS11 30 16 (zS11.1 30 36)).2 30 37)).1 30 33)) 30 20 ((ip_upI (ip_upL (ip_upI zS11 30 16 (zS11.1 30 36)) 30 17 ((ip_upI zS11 30 16 (zS11.1 30 36)).2 30 37)) 30 19 ((ip_upL (ip_upI zS11 30 16 (zS11.1 30 36)) 30 17 ((ip_upI zS11 30 16 (zS11.1 30 36)).2 30 37)).1 30 33)).1 30 34)).1 30 35)))))))) else some ((-103), S))
set_option maxRecDepth 10000 in
theorem T_M_restore  {S : ip_St} {r : Int32} {S9 : ip_St} (h : f_M_restore S = some (r, S9)) : ip_Me 178 [.ref 30] S (some (.int r)) S9 := by
  unfold f_M_restore at h
  refine ⟨[some (.ref 30)], rfl, ?_⟩
  refine ip_Ev.steps 4 (pc' := 8) (lv' := [some (.ref 30)]) (st' := [.int (S.1 30 21), .int (S.1 30 32)]) (S1 := S) rfl ?_
  refine ip_Ev.iff2 rfl rfl ip_cEq (fun zhc1 => ?_) (fun zhc1 => ?_)
  · rw [if_pos zhc1] at h
    refine ip_Ev.steps 4 (pc' := 22) (lv' := [some (.ref 30)]) (st' := [.ref 41, .ref 50]) (S1 := S) rfl ?_
    obtain ⟨zS3, hzq2, h⟩ := ip_bind h
    refine ip_Ev.call (i := 176) (a := [.ref 50, .ref 41]) (r := []) rfl (T_M_copy_50_41 hzq2) ?_
    show ip_Ev 178 25 [some (.ref 30)] [] zS3 _ _
    refine ip_Ev.steps 4 (pc' := 33) (lv' := [some (.ref 30)]) (st' := [.ref 42, .ref 51]) (S1 := zS3) rfl ?_
    obtain ⟨zS5, hzq4, h⟩ := ip_bind h
    refine ip_Ev.call (i := 176) (a := [.ref 51, .ref 42]) (r := []) rfl (T_M_copy_51_42 hzq4) ?_
    show ip_Ev 178 36 [some (.ref 30)] [] zS5 _ _
    refine ip_Ev.steps 4 (pc' := 44) (lv' := [some (.ref 30)]) (st' := [.ref 43, .ref 52]) (S1 := zS5) rfl ?_
    obtain ⟨zS7, hzq6, h⟩ := ip_bind h
    refine ip_Ev.call (i := 176) (a := [.ref 52, .ref 43]) (r := []) rfl (T_M_copy_52_43 hzq6) ?_
    show ip_Ev 178 47 [some (.ref 30)] [] zS7 _ _
    refine ip_Ev.steps 4 (pc' := 55) (lv' := [some (.ref 30)]) (st' := [.ref 44, .ref 53]) (S1 := zS7) rfl ?_
    obtain ⟨zS9, hzq8, h⟩ := ip_bind h
    refine ip_Ev.call (i := 176) (a := [.ref 53, .ref 44]) (r := []) rfl (T_M_copy_53_44 hzq8) ?_
    show ip_Ev 178 58 [some (.ref 30)] [] zS9 _ _
    refine ip_Ev.steps 4 (pc' := 66) (lv' := [some (.ref 30)]) (st' := [.ref 49, .ref 54]) (S1 := zS9) rfl ?_
    obtain ⟨zS11, hzq10, h⟩ := ip_bind h
    refine ip_Ev.call (i := 176) (a := [.ref 54, .ref 49]) (r := []) rfl (T_M_copy_54_49 hzq10) ?_
    show ip_Ev 178 69 [some (.ref 30)] [] zS11 _ _
    refine ip_Ev.steps 12 (pc' := 93) (lv' := [some (.ref 30)]) (st' := []) (S1 := (ip_upI (ip_upL (ip_upI zS11 30 16 (zS11.1 30 36)) 30 17 ((ip_upI zS11 30 16 (zS11.1 30 36)).2 30 37)) 30 19 ((ip_upL (ip_upI zS11 30 16 (zS11.1 30 36)) 30 17 ((ip_upI zS11 30 16 (zS11.1 30 36)).2 30 37)).1 30 33))) rfl ?_
    refine ip_Ev.steps 10 (pc' := 113) (lv' := [some (.ref 30)]) (st' := [.int ((ip_upI (ip_upI (ip_upI (ip_upL (ip_upI zS11 30 16 (zS11.1 30 36)) 30 17 ((ip_upI zS11 30 16 (zS11.1 30 36)).2 30 37)) 30 19 ((ip_upL (ip_upI zS11 30 16 (zS11.1 30 36)) 30 17 ((ip_upI zS11 30 16 (zS11.1 30 36)).2 30 37)).1 30 33)) 30 20 ((ip_upI (ip_upL (ip_upI zS11 30 16 (zS11.1 30 36)) 30 17 ((ip_upI zS11 30 16 (zS11.1 30 36)).2 30 37)) 30 19 ((ip_upL (ip_upI zS11 30 16 (zS11.1 30 36)) 30 17 ((ip_upI zS11 30 16 (zS11.1 30 36)).2 30 37)).1 30 33)).1 30 34)) 30 29 ((ip_upI (ip_upI (ip_upL (ip_upI zS11 30 16 (zS11.1 30 36)) 30 17 ((ip_upI zS11 30 16 (zS11.1 30 36)).2 30 37)) 30 19 ((ip_upL (ip_upI zS11 30 16 (zS11.1 30 36)) 30 17 ((ip_upI zS11 30 16 (zS11.1 30 36)).2 30 37)).1 30 33)) 30 20 ((ip_upI (ip_upL (ip_upI zS11 30 16 (zS11.1 30 36)) 30 17 ((ip_upI zS11 30 16 (zS11.1 30 36)).2 30 37)) 30 19 ((ip_upL (ip_upI zS11 30 16 (zS11.1 30 36)) 30 17 ((ip_upI zS11 30 16 (zS11.1 30 36)).2 30 37)).1 30 33)).1 30 34)).1 30 35)).1 30 19)]) (S1 := (ip_upI (ip_upI (ip_upI (ip_upL (ip_upI zS11 30 16 (zS11.1 30 36)) 30 17 ((ip_upI zS11 30 16 (zS11.1 30 36)).2 30 37)) 30 19 ((ip_upL (ip_upI zS11 30 16 (zS11.1 30 36)) 30 17 ((ip_upI zS11 30 16 (zS11.1 30 36)).2 30 37)).1 30 33)) 30 20 ((ip_upI (ip_upL (ip_upI zS11 30 16 (zS11.1 30 36)) 30 17 ((ip_upI zS11 30 16 (zS11.1 30 36)).2 30 37)) 30 19 ((ip_upL (ip_upI zS11 30 16 (zS11.1 30 36)) 30 17 ((ip_upI zS11 30 16 (zS11.1 30 36)).2 30 37)).1 30 33)).1 30 34)) 30 29 ((ip_upI (ip_upI (ip_upL (ip_upI zS11 30 16 (zS11.1 30 36)) 30 17 ((ip_upI zS11 30 16 (zS11.1 30 36)).2 30 37)) 30 19 ((ip_upL (ip_upI zS11 30 16 (zS11.1 30 36)) 30 17 ((ip_upI zS11 30 16 (zS11.1 30 36)).2 30 37)).1 30 33)) 30 20 ((ip_upI (ip_upL (ip_upI zS11 30 16 (zS11.1 30 36)) 30 17 ((ip_upI zS11 30 16 (zS11.1 30 36)).2 30 37)) 30 19 ((ip_upL (ip_upI zS11 30 16 (zS11.1 30 36)) 30 17 ((ip_upI zS11 30 16 (zS11.1 30 36)).2 30 37)).1 30 33)).1 30 34)).1 30 35))) rfl ?_
    cases h
    exact ip_Ev.ret rfl
  · rw [if_neg zhc1] at h
    refine ip_Ev.steps 1 (pc' := 13) (lv' := [some (.ref 30)]) (st' := [.int (-103)]) (S1 := S) rfl ?_
    cases h
    exact ip_Ev.ret rfl
-- A_sumKnown
def f_A_sumKnown_4 : Nat → Int32 → Int32 → ip_St → Option (Int32)
  | 0, _, _, _ => none
  | n + 1, x1, x2, S => (if (S.1 12 1) ≤ x2 then some x1 else ((ip_aA 13 x2).bind fun zv2 => (f_A_sumKnown_4 n (x1 + (f_I_bitCount (S.1 zv2 1))) (x2 + 1) S)))
set_option maxRecDepth 10000 in
theorem E_A_sumKnown_4 : ∀ (n : Nat) {x1 : Int32} {x2 : Int32} {S : ip_St} {r : Int32}, f_A_sumKnown_4 n x1 x2 S = some r → ip_Ev 95 4 [some (.ref 0), some (.int x1), some (.int x2)] [] S (some (.int r)) S := by
  intro n
  induction n with
  | zero =>
    intro x1 x2 S r h
    cases h
  | succ n ih =>
    intro x1 x2 S r h
    rw [f_A_sumKnown_4] at h
    refine ip_Ev.steps 4 (pc' := 12) (lv' := [some (.ref 0), some (.int x1), some (.int x2)]) (st' := [.int (S.1 12 1), .int x2]) (S1 := S) rfl ?_
    refine ip_Ev.iff2 rfl rfl ip_cGe (fun zhc1 => ?_) (fun zhc1 => ?_)
    · rw [if_pos zhc1] at h
      refine ip_Ev.steps 1 (pc' := 40) (lv' := [some (.ref 0), some (.int x1), some (.int x2)]) (st' := [.int x1]) (S1 := S) rfl ?_
      cases h
      exact ip_Ev.ret rfl
    · rw [if_neg zhc1] at h
      refine ip_Ev.steps 5 (pc' := 24) (lv' := [some (.ref 0), some (.int x1), some (.int x2)]) (st' := [.int x2, .ref 13, .int x1]) (S1 := S) rfl ?_
      obtain ⟨zv2, hzv2, h⟩ := ip_bind h
      refine ip_Ev.aald rfl hzv2 ?_
      have hozv2 := ip_aA_ob hzv2
      refine ip_Ev.gfI rfl rfl hozv2 (by decide) ?_
      refine ip_Ev.call (i := 58) (a := [.int (S.1 zv2 1)]) (r := [.int x1]) rfl (T_I_bitCount rfl) ?_
      show ip_Ev 95 31 [some (.ref 0), some (.int x1), some (.int x2)] [.int (f_I_bitCount (S.1 zv2 1)), .int x1] S _ _
      refine ip_Ev.steps 4 (pc' := 4) (lv' := [some (.ref 0), some (.int (x1 + (f_I_bitCount (S.1 zv2 1)))), some (.int (x2 + 1))]) (st' := []) (S1 := S) rfl ?_
      exact ih h
def f_A_sumKnown  (S : ip_St) : Option (Int32) := (f_A_sumKnown_4 ip_FU 0 0 S)
set_option maxRecDepth 10000 in
theorem T_A_sumKnown  {S : ip_St} {r : Int32} (h : f_A_sumKnown S = some r) : ip_Me 95 [.ref 0] S (some (.int r)) S := by
  unfold f_A_sumKnown at h
  refine ⟨[some (.ref 0), none, none], rfl, ?_⟩
  refine ip_Ev.steps 4 (pc' := 4) (lv' := [some (.ref 0), some (.int 0), some (.int 0)]) (st' := []) (S1 := S) rfl ?_
  exact E_A_sumKnown_4 ip_FU h
-- A_sumHeard
def f_A_sumHeard_4 : Nat → Int32 → Int32 → ip_St → Option (Int32)
  | 0, _, _, _ => none
  | n + 1, x1, x2, S => (if (S.1 12 1) ≤ x2 then some x1 else ((ip_aA 13 x2).bind fun zv2 => (f_A_sumHeard_4 n (x1 + (f_I_bitCount (S.1 zv2 3))) (x2 + 1) S)))
set_option maxRecDepth 10000 in
theorem E_A_sumHeard_4 : ∀ (n : Nat) {x1 : Int32} {x2 : Int32} {S : ip_St} {r : Int32}, f_A_sumHeard_4 n x1 x2 S = some r → ip_Ev 94 4 [some (.ref 0), some (.int x1), some (.int x2)] [] S (some (.int r)) S := by
  intro n
  induction n with
  | zero =>
    intro x1 x2 S r h
    cases h
  | succ n ih =>
    intro x1 x2 S r h
    rw [f_A_sumHeard_4] at h
    refine ip_Ev.steps 4 (pc' := 12) (lv' := [some (.ref 0), some (.int x1), some (.int x2)]) (st' := [.int (S.1 12 1), .int x2]) (S1 := S) rfl ?_
    refine ip_Ev.iff2 rfl rfl ip_cGe (fun zhc1 => ?_) (fun zhc1 => ?_)
    · rw [if_pos zhc1] at h
      refine ip_Ev.steps 1 (pc' := 40) (lv' := [some (.ref 0), some (.int x1), some (.int x2)]) (st' := [.int x1]) (S1 := S) rfl ?_
      cases h
      exact ip_Ev.ret rfl
    · rw [if_neg zhc1] at h
      refine ip_Ev.steps 5 (pc' := 24) (lv' := [some (.ref 0), some (.int x1), some (.int x2)]) (st' := [.int x2, .ref 13, .int x1]) (S1 := S) rfl ?_
      obtain ⟨zv2, hzv2, h⟩ := ip_bind h
      refine ip_Ev.aald rfl hzv2 ?_
      have hozv2 := ip_aA_ob hzv2
      refine ip_Ev.gfI rfl rfl hozv2 (by decide) ?_
      refine ip_Ev.call (i := 58) (a := [.int (S.1 zv2 3)]) (r := [.int x1]) rfl (T_I_bitCount rfl) ?_
      show ip_Ev 94 31 [some (.ref 0), some (.int x1), some (.int x2)] [.int (f_I_bitCount (S.1 zv2 3)), .int x1] S _ _
      refine ip_Ev.steps 4 (pc' := 4) (lv' := [some (.ref 0), some (.int (x1 + (f_I_bitCount (S.1 zv2 3)))), some (.int (x2 + 1))]) (st' := []) (S1 := S) rfl ?_
      exact ih h
def f_A_sumHeard  (S : ip_St) : Option (Int32) := (f_A_sumHeard_4 ip_FU 0 0 S)
set_option maxRecDepth 10000 in
theorem T_A_sumHeard  {S : ip_St} {r : Int32} (h : f_A_sumHeard S = some r) : ip_Me 94 [.ref 0] S (some (.int r)) S := by
  unfold f_A_sumHeard at h
  refine ⟨[some (.ref 0), none, none], rfl, ?_⟩
  refine ip_Ev.steps 4 (pc' := 4) (lv' := [some (.ref 0), some (.int 0), some (.int 0)]) (st' := []) (S1 := S) rfl ?_
  exact E_A_sumHeard_4 ip_FU h
-- A_countVerdicts
def f_A_countVerdicts_4 : Nat → Int32 → Int32 → Int32 → ip_St → Option (Int32)
  | 0, _, _, _, _ => none
  | n + 1, x1, x2, x3, S => (if (S.1 12 1) ≤ x3 then some x2 else ((ip_aA 13 x3).bind fun zv2 => ((f_A_verdict zv2 S).bind fun zv4 => (if zv4 = x1 then (f_A_countVerdicts_4 n x1 (x2 + 1) (x3 + 1) S) else (f_A_countVerdicts_4 n x1 (x2 + 0) (x3 + 1) S)))))
set_option maxRecDepth 10000 in
theorem E_A_countVerdicts_4 : ∀ (n : Nat) {x1 : Int32} {x2 : Int32} {x3 : Int32} {S : ip_St} {r : Int32}, f_A_countVerdicts_4 n x1 x2 x3 S = some r → ip_Ev 93 4 [some (.ref 0), some (.int x1), some (.int x2), some (.int x3)] [] S (some (.int r)) S := by
  intro n
  induction n with
  | zero =>
    intro x1 x2 x3 S r h
    cases h
  | succ n ih =>
    intro x1 x2 x3 S r h
    rw [f_A_countVerdicts_4] at h
    refine ip_Ev.steps 4 (pc' := 12) (lv' := [some (.ref 0), some (.int x1), some (.int x2), some (.int x3)]) (st' := [.int (S.1 12 1), .int x3]) (S1 := S) rfl ?_
    refine ip_Ev.iff2 rfl rfl ip_cGe (fun zhc1 => ?_) (fun zhc1 => ?_)
    · rw [if_pos zhc1] at h
      refine ip_Ev.steps 1 (pc' := 47) (lv' := [some (.ref 0), some (.int x1), some (.int x2), some (.int x3)]) (st' := [.int x2]) (S1 := S) rfl ?_
      cases h
      exact ip_Ev.ret rfl
    · rw [if_neg zhc1] at h
      refine ip_Ev.steps 6 (pc' := 25) (lv' := [some (.ref 0), some (.int x1), some (.int x2), some (.int x3)]) (st' := [.int x3, .ref 13, .ref 0, .int x2]) (S1 := S) rfl ?_
      obtain ⟨zv2, hzv2, h⟩ := ip_bind h
      refine ip_Ev.aald rfl hzv2 ?_
      have hozv2 := ip_aA_ob hzv2
      obtain ⟨zv4, hzq3, h⟩ := ip_bind h
      refine ip_Ev.call (i := 49) (a := [.ref 0, .ref zv2]) (r := [.int x2]) rfl (T_A_verdict hozv2 hzq3) ?_
      show ip_Ev 93 29 [some (.ref 0), some (.int x1), some (.int x2), some (.int x3)] [.int zv4, .int x2] S _ _
      refine ip_Ev.steps 1 (pc' := 30) (lv' := [some (.ref 0), some (.int x1), some (.int x2), some (.int x3)]) (st' := [.int x1, .int zv4, .int x2]) (S1 := S) rfl ?_
      refine ip_Ev.iff2 rfl rfl ip_cNe (fun zhc5 => ?_) (fun zhc5 => ?_)
      · rw [if_neg zhc5] at h
        refine ip_Ev.steps 5 (pc' := 4) (lv' := [some (.ref 0), some (.int x1), some (.int (x2 + 0)), some (.int (x3 + 1))]) (st' := []) (S1 := S) rfl ?_
        exact ih h
      · rw [if_pos (Decidable.of_not_not zhc5)] at h
        refine ip_Ev.steps 6 (pc' := 4) (lv' := [some (.ref 0), some (.int x1), some (.int (x2 + 1)), some (.int (x3 + 1))]) (st' := []) (S1 := S) rfl ?_
        exact ih h
def f_A_countVerdicts (p1 : Int32) (S : ip_St) : Option (Int32) := (f_A_countVerdicts_4 ip_FU p1 0 0 S)
set_option maxRecDepth 10000 in
theorem T_A_countVerdicts {p1 : Int32} {S : ip_St} {r : Int32} (h : f_A_countVerdicts p1 S = some r) : ip_Me 93 [.ref 0, .int p1] S (some (.int r)) S := by
  unfold f_A_countVerdicts at h
  refine ⟨[some (.ref 0), some (.int p1), none, none], rfl, ?_⟩
  refine ip_Ev.steps 4 (pc' := 4) (lv' := [some (.ref 0), some (.int p1), some (.int 0), some (.int 0)]) (st' := []) (S1 := S) rfl ?_
  exact E_A_countVerdicts_4 ip_FU h
-- A_sumWays
def f_A_sumWays_4 : Nat → Int32 → Int32 → ip_St → Option (Int32)
  | 0, _, _, _ => none
  | n + 1, x1, x2, S => (if (S.1 12 1) ≤ x2 then some x1 else ((ip_aA 13 x2).bind fun zv2 => ((f_J_worlds zv2 S).bind fun zv4 => (f_A_sumWays_4 n (x1 + (f_G_bitCount zv4)) (x2 + 1) S))))
set_option maxRecDepth 10000 in
theorem E_A_sumWays_4 : ∀ (n : Nat) {x1 : Int32} {x2 : Int32} {S : ip_St} {r : Int32}, f_A_sumWays_4 n x1 x2 S = some r → ip_Ev 92 4 [some (.ref 0), some (.int x1), some (.int x2)] [] S (some (.int r)) S := by
  intro n
  induction n with
  | zero =>
    intro x1 x2 S r h
    cases h
  | succ n ih =>
    intro x1 x2 S r h
    rw [f_A_sumWays_4] at h
    refine ip_Ev.steps 4 (pc' := 12) (lv' := [some (.ref 0), some (.int x1), some (.int x2)]) (st' := [.int (S.1 12 1), .int x2]) (S1 := S) rfl ?_
    refine ip_Ev.iff2 rfl rfl ip_cGe (fun zhc1 => ?_) (fun zhc1 => ?_)
    · rw [if_pos zhc1] at h
      refine ip_Ev.steps 1 (pc' := 40) (lv' := [some (.ref 0), some (.int x1), some (.int x2)]) (st' := [.int x1]) (S1 := S) rfl ?_
      cases h
      exact ip_Ev.ret rfl
    · rw [if_neg zhc1] at h
      refine ip_Ev.steps 5 (pc' := 24) (lv' := [some (.ref 0), some (.int x1), some (.int x2)]) (st' := [.int x2, .ref 13, .int x1]) (S1 := S) rfl ?_
      obtain ⟨zv2, hzv2, h⟩ := ip_bind h
      refine ip_Ev.aald rfl hzv2 ?_
      have hozv2 := ip_aA_ob hzv2
      obtain ⟨zv4, hzq3, h⟩ := ip_bind h
      refine ip_Ev.callJ (i := 45) (b := zv2) (a := []) (r := [.int x1]) rfl rfl rfl rfl hozv2 rfl rfl (T_J_worlds hozv2 hzq3) ?_
      show ip_Ev 92 28 [some (.ref 0), some (.int x1), some (.int x2)] [.long zv4, .int x1] S _ _
      refine ip_Ev.call (i := 31) (a := [.long zv4]) (r := [.int x1]) rfl (T_G_bitCount rfl) ?_
      show ip_Ev 92 31 [some (.ref 0), some (.int x1), some (.int x2)] [.int (f_G_bitCount zv4), .int x1] S _ _
      refine ip_Ev.steps 4 (pc' := 4) (lv' := [some (.ref 0), some (.int (x1 + (f_G_bitCount zv4))), some (.int (x2 + 1))]) (st' := []) (S1 := S) rfl ?_
      exact ih h
def f_A_sumWays  (S : ip_St) : Option (Int32) := (f_A_sumWays_4 ip_FU 0 0 S)
set_option maxRecDepth 10000 in
theorem T_A_sumWays  {S : ip_St} {r : Int32} (h : f_A_sumWays S = some r) : ip_Me 92 [.ref 0] S (some (.int r)) S := by
  unfold f_A_sumWays at h
  refine ⟨[some (.ref 0), none, none], rfl, ?_⟩
  refine ip_Ev.steps 4 (pc' := 4) (lv' := [some (.ref 0), some (.int 0), some (.int 0)]) (st' := []) (S1 := S) rfl ?_
  exact E_A_sumWays_4 ip_FU h
-- A_count
def f_A_count (p1 : Int32) (S : ip_St) : Option (Int32) := (if p1 = 0 then some (S.1 12 1) else (if p1 = 1 then (if (f_A_hasCourt S) = false then some 0 else some (f_G_bitCount (S.2 17 0))) else (if p1 = 2 then ((f_A_sumWays S).bind fun zv4 => some zv4) else (if p1 = 3 then ((f_A_countVerdicts 1 S).bind fun zv6 => some zv6) else (if p1 = 4 then ((f_A_countVerdicts 2 S).bind fun zv8 => some zv8) else (if p1 = 5 then some (S.1 12 4) else (if p1 = 6 then ((f_A_sumHeard S).bind fun zv10 => some zv10) else (if p1 = 7 then ((f_A_sumKnown S).bind fun zv12 => some zv12) else (if p1 = 8 then some (S.1 12 6) else (if p1 = 9 then some (S.1 0 1) else (if p1 = 10 then some (S.1 0 7) else (if p1 = 11 then some (S.1 12 3) else some (-102)))))))))))))
set_option maxRecDepth 10000 in
theorem T_A_count {p1 : Int32} {S : ip_St} {r : Int32} (h : f_A_count p1 S = some r) : ip_Me 96 [.ref 0, .int p1] S (some (.int r)) S := by
  unfold f_A_count at h
  refine ⟨[some (.ref 0), some (.int p1)], rfl, ?_⟩
  refine ip_Ev.steps 1 (pc' := 1) (lv' := [some (.ref 0), some (.int p1)]) (st' := [.int p1]) (S1 := S) rfl ?_
  by_cases zhs1_0 : p1 = 0
  · rw [if_pos zhs1_0] at h
    refine ip_Ev.ts (off := 63) rfl (by rw [zhs1_0]; rfl) rfl ?_
    refine ip_Ev.steps 3 (pc' := 71) (lv' := [some (.ref 0), some (.int p1)]) (st' := [.int (S.1 12 1)]) (S1 := S) rfl ?_
    cases h
    exact ip_Ev.ret rfl
  rw [if_neg zhs1_0] at h
  by_cases zhs1_1 : p1 = 1
  · rw [if_pos zhs1_1] at h
    refine ip_Ev.ts (off := 71) rfl (by rw [zhs1_1]; rfl) rfl ?_
    refine ip_Ev.steps 1 (pc' := 73) (lv' := [some (.ref 0), some (.int p1)]) (st' := [.ref 0]) (S1 := S) rfl ?_
    refine ip_Ev.call (i := 30) (a := [.ref 0]) (r := []) rfl (T_A_hasCourt rfl) ?_
    show ip_Ev 96 76 [some (.ref 0), some (.int p1)] [.int (ip_b2i (f_A_hasCourt S))] S _ _
    refine ip_Ev.iff1 rfl rfl ip_bEq (fun zhc2 => ?_) (fun zhc2 => ?_)
    · rw [if_pos zhc2] at h
      refine ip_Ev.steps 1 (pc' := 96) (lv' := [some (.ref 0), some (.int p1)]) (st' := [.int 0]) (S1 := S) rfl ?_
      cases h
      exact ip_Ev.ret rfl
    · rw [if_neg zhc2] at h
      refine ip_Ev.steps 4 (pc' := 89) (lv' := [some (.ref 0), some (.int p1)]) (st' := [.long (S.2 17 0)]) (S1 := S) rfl ?_
      refine ip_Ev.call (i := 31) (a := [.long (S.2 17 0)]) (r := []) rfl (T_G_bitCount rfl) ?_
      show ip_Ev 96 92 [some (.ref 0), some (.int p1)] [.int (f_G_bitCount (S.2 17 0))] S _ _
      refine ip_Ev.steps 1 (pc' := 96) (lv' := [some (.ref 0), some (.int p1)]) (st' := [.int (f_G_bitCount (S.2 17 0))]) (S1 := S) rfl ?_
      cases h
      exact ip_Ev.ret rfl
  rw [if_neg zhs1_1] at h
  by_cases zhs1_2 : p1 = 2
  · rw [if_pos zhs1_2] at h
    refine ip_Ev.ts (off := 96) rfl (by rw [zhs1_2]; rfl) rfl ?_
    refine ip_Ev.steps 1 (pc' := 98) (lv' := [some (.ref 0), some (.int p1)]) (st' := [.ref 0]) (S1 := S) rfl ?_
    obtain ⟨zv4, hzq3, h⟩ := ip_bind h
    refine ip_Ev.call (i := 92) (a := [.ref 0]) (r := []) rfl (T_A_sumWays hzq3) ?_
    show ip_Ev 96 101 [some (.ref 0), some (.int p1)] [.int zv4] S _ _
    cases h
    exact ip_Ev.ret rfl
  rw [if_neg zhs1_2] at h
  by_cases zhs1_3 : p1 = 3
  · rw [if_pos zhs1_3] at h
    refine ip_Ev.ts (off := 101) rfl (by rw [zhs1_3]; rfl) rfl ?_
    refine ip_Ev.steps 2 (pc' := 104) (lv' := [some (.ref 0), some (.int p1)]) (st' := [.int 1, .ref 0]) (S1 := S) rfl ?_
    obtain ⟨zv6, hzq5, h⟩ := ip_bind h
    refine ip_Ev.call (i := 93) (a := [.ref 0, .int 1]) (r := []) rfl (T_A_countVerdicts hzq5) ?_
    show ip_Ev 96 107 [some (.ref 0), some (.int p1)] [.int zv6] S _ _
    cases h
    exact ip_Ev.ret rfl
  rw [if_neg zhs1_3] at h
  by_cases zhs1_4 : p1 = 4
  · rw [if_pos zhs1_4] at h
    refine ip_Ev.ts (off := 107) rfl (by rw [zhs1_4]; rfl) rfl ?_
    refine ip_Ev.steps 2 (pc' := 110) (lv' := [some (.ref 0), some (.int p1)]) (st' := [.int 2, .ref 0]) (S1 := S) rfl ?_
    obtain ⟨zv8, hzq7, h⟩ := ip_bind h
    refine ip_Ev.call (i := 93) (a := [.ref 0, .int 2]) (r := []) rfl (T_A_countVerdicts hzq7) ?_
    show ip_Ev 96 113 [some (.ref 0), some (.int p1)] [.int zv8] S _ _
    cases h
    exact ip_Ev.ret rfl
  rw [if_neg zhs1_4] at h
  by_cases zhs1_5 : p1 = 5
  · rw [if_pos zhs1_5] at h
    refine ip_Ev.ts (off := 113) rfl (by rw [zhs1_5]; rfl) rfl ?_
    refine ip_Ev.steps 3 (pc' := 121) (lv' := [some (.ref 0), some (.int p1)]) (st' := [.int (S.1 12 4)]) (S1 := S) rfl ?_
    cases h
    exact ip_Ev.ret rfl
  rw [if_neg zhs1_5] at h
  by_cases zhs1_6 : p1 = 6
  · rw [if_pos zhs1_6] at h
    refine ip_Ev.ts (off := 121) rfl (by rw [zhs1_6]; rfl) rfl ?_
    refine ip_Ev.steps 1 (pc' := 123) (lv' := [some (.ref 0), some (.int p1)]) (st' := [.ref 0]) (S1 := S) rfl ?_
    obtain ⟨zv10, hzq9, h⟩ := ip_bind h
    refine ip_Ev.call (i := 94) (a := [.ref 0]) (r := []) rfl (T_A_sumHeard hzq9) ?_
    show ip_Ev 96 126 [some (.ref 0), some (.int p1)] [.int zv10] S _ _
    cases h
    exact ip_Ev.ret rfl
  rw [if_neg zhs1_6] at h
  by_cases zhs1_7 : p1 = 7
  · rw [if_pos zhs1_7] at h
    refine ip_Ev.ts (off := 126) rfl (by rw [zhs1_7]; rfl) rfl ?_
    refine ip_Ev.steps 1 (pc' := 128) (lv' := [some (.ref 0), some (.int p1)]) (st' := [.ref 0]) (S1 := S) rfl ?_
    obtain ⟨zv12, hzq11, h⟩ := ip_bind h
    refine ip_Ev.call (i := 95) (a := [.ref 0]) (r := []) rfl (T_A_sumKnown hzq11) ?_
    show ip_Ev 96 131 [some (.ref 0), some (.int p1)] [.int zv12] S _ _
    cases h
    exact ip_Ev.ret rfl
  rw [if_neg zhs1_7] at h
  by_cases zhs1_8 : p1 = 8
  · rw [if_pos zhs1_8] at h
    refine ip_Ev.ts (off := 131) rfl (by rw [zhs1_8]; rfl) rfl ?_
    refine ip_Ev.steps 3 (pc' := 139) (lv' := [some (.ref 0), some (.int p1)]) (st' := [.int (S.1 12 6)]) (S1 := S) rfl ?_
    cases h
    exact ip_Ev.ret rfl
  rw [if_neg zhs1_8] at h
  by_cases zhs1_9 : p1 = 9
  · rw [if_pos zhs1_9] at h
    refine ip_Ev.ts (off := 139) rfl (by rw [zhs1_9]; rfl) rfl ?_
    refine ip_Ev.steps 2 (pc' := 144) (lv' := [some (.ref 0), some (.int p1)]) (st' := [.int (S.1 0 1)]) (S1 := S) rfl ?_
    cases h
    exact ip_Ev.ret rfl
  rw [if_neg zhs1_9] at h
  by_cases zhs1_10 : p1 = 10
  · rw [if_pos zhs1_10] at h
    refine ip_Ev.ts (off := 144) rfl (by rw [zhs1_10]; rfl) rfl ?_
    refine ip_Ev.steps 2 (pc' := 149) (lv' := [some (.ref 0), some (.int p1)]) (st' := [.int (S.1 0 7)]) (S1 := S) rfl ?_
    cases h
    exact ip_Ev.ret rfl
  rw [if_neg zhs1_10] at h
  by_cases zhs1_11 : p1 = 11
  · rw [if_pos zhs1_11] at h
    refine ip_Ev.ts (off := 149) rfl (by rw [zhs1_11]; rfl) rfl ?_
    refine ip_Ev.steps 3 (pc' := 157) (lv' := [some (.ref 0), some (.int p1)]) (st' := [.int (S.1 12 3)]) (S1 := S) rfl ?_
    cases h
    exact ip_Ev.ret rfl
  rw [if_neg zhs1_11] at h
  have zhs1_0n : ¬ Int32.toInt p1 = 0 := fun q => zhs1_0 (Int32.toInt_inj.mp q)
  have zhs1_1n : ¬ Int32.toInt p1 = 1 := fun q => zhs1_1 (Int32.toInt_inj.mp q)
  have zhs1_2n : ¬ Int32.toInt p1 = 2 := fun q => zhs1_2 (Int32.toInt_inj.mp q)
  have zhs1_3n : ¬ Int32.toInt p1 = 3 := fun q => zhs1_3 (Int32.toInt_inj.mp q)
  have zhs1_4n : ¬ Int32.toInt p1 = 4 := fun q => zhs1_4 (Int32.toInt_inj.mp q)
  have zhs1_5n : ¬ Int32.toInt p1 = 5 := fun q => zhs1_5 (Int32.toInt_inj.mp q)
  have zhs1_6n : ¬ Int32.toInt p1 = 6 := fun q => zhs1_6 (Int32.toInt_inj.mp q)
  have zhs1_7n : ¬ Int32.toInt p1 = 7 := fun q => zhs1_7 (Int32.toInt_inj.mp q)
  have zhs1_8n : ¬ Int32.toInt p1 = 8 := fun q => zhs1_8 (Int32.toInt_inj.mp q)
  have zhs1_9n : ¬ Int32.toInt p1 = 9 := fun q => zhs1_9 (Int32.toInt_inj.mp q)
  have zhs1_10n : ¬ Int32.toInt p1 = 10 := fun q => zhs1_10 (Int32.toInt_inj.mp q)
  have zhs1_11n : ¬ Int32.toInt p1 = 11 := fun q => zhs1_11 (Int32.toInt_inj.mp q)
  refine ip_Ev.ts (off := 157) rfl (ip_tsO_out (by omega)) rfl ?_
  refine ip_Ev.steps 1 (pc' := 160) (lv' := [some (.ref 0), some (.int p1)]) (st' := [.int (-102)]) (S1 := S) rfl ?_
  cases h
  exact ip_Ev.ret rfl
-- M_knownMany
def f_M_knownMany_4 : Nat → Int32 → Int32 → Int32 → ip_St → Option (Int32)
  | 0, _, _, _, _ => none
  | n + 1, x1, x2, x3, S => (if 6 ≤ x3 then some x2 else ((ip_aI S 43 ((6 * x1) + x3)).bind fun zv2 => (if zv2 = (-1) then (f_M_knownMany_4 n x1 (x2 + 0) (x3 + 1) S) else (f_M_knownMany_4 n x1 (x2 + 1) (x3 + 1) S))))
set_option maxRecDepth 10000 in
theorem E_M_knownMany_4 : ∀ (n : Nat) {x1 : Int32} {x2 : Int32} {x3 : Int32} {S : ip_St} {r : Int32}, f_M_knownMany_4 n x1 x2 x3 S = some r → ip_Ev 182 4 [some (.ref 30), some (.int x1), some (.int x2), some (.int x3)] [] S (some (.int r)) S := by
  intro n
  induction n with
  | zero =>
    intro x1 x2 x3 S r h
    cases h
  | succ n ih =>
    intro x1 x2 x3 S r h
    rw [f_M_knownMany_4] at h
    refine ip_Ev.steps 2 (pc' := 7) (lv' := [some (.ref 30), some (.int x1), some (.int x2), some (.int x3)]) (st' := [.int 6, .int x3]) (S1 := S) rfl ?_
    refine ip_Ev.iff2 rfl rfl ip_cGe (fun zhc1 => ?_) (fun zhc1 => ?_)
    · rw [if_pos zhc1] at h
      refine ip_Ev.steps 1 (pc' := 40) (lv' := [some (.ref 30), some (.int x1), some (.int x2), some (.int x3)]) (st' := [.int x2]) (S1 := S) rfl ?_
      cases h
      exact ip_Ev.ret rfl
    · rw [if_neg zhc1] at h
      refine ip_Ev.steps 8 (pc' := 21) (lv' := [some (.ref 30), some (.int x1), some (.int x2), some (.int x3)]) (st' := [.int ((6 * x1) + x3), .ref 43, .int x2]) (S1 := S) rfl ?_
      obtain ⟨zv2, hzv2, h⟩ := ip_bind h
      refine ip_Ev.iald rfl hzv2 ?_
      refine ip_Ev.steps 1 (pc' := 23) (lv' := [some (.ref 30), some (.int x1), some (.int x2), some (.int x3)]) (st' := [.int (-1), .int zv2, .int x2]) (S1 := S) rfl ?_
      refine ip_Ev.iff2 rfl rfl ip_cNe (fun zhc3 => ?_) (fun zhc3 => ?_)
      · rw [if_neg zhc3] at h
        refine ip_Ev.steps 5 (pc' := 4) (lv' := [some (.ref 30), some (.int x1), some (.int (x2 + 1)), some (.int (x3 + 1))]) (st' := []) (S1 := S) rfl ?_
        exact ih h
      · rw [if_pos (Decidable.of_not_not zhc3)] at h
        refine ip_Ev.steps 6 (pc' := 4) (lv' := [some (.ref 30), some (.int x1), some (.int (x2 + 0)), some (.int (x3 + 1))]) (st' := []) (S1 := S) rfl ?_
        exact ih h
def f_M_knownMany (p1 : Int32) (S : ip_St) : Option (Int32) := (f_M_knownMany_4 ip_FU p1 0 0 S)
set_option maxRecDepth 10000 in
theorem T_M_knownMany {p1 : Int32} {S : ip_St} {r : Int32} (h : f_M_knownMany p1 S = some r) : ip_Me 182 [.ref 30, .int p1] S (some (.int r)) S := by
  unfold f_M_knownMany at h
  refine ⟨[some (.ref 30), some (.int p1), none, none], rfl, ?_⟩
  refine ip_Ev.steps 4 (pc' := 4) (lv' := [some (.ref 30), some (.int p1), some (.int 0), some (.int 0)]) (st' := []) (S1 := S) rfl ?_
  exact E_M_knownMany_4 ip_FU h
-- M_knownAll
def f_M_knownAll_4 : Nat → Int32 → Int32 → ip_St → Option (Int32)
  | 0, _, _, _ => none
  | n + 1, x1, x2, S => (if (S.1 30 18) ≤ x2 then some x1 else ((f_M_knownMany x2 S).bind fun zv3 => (f_M_knownAll_4 n (x1 + zv3) (x2 + 1) S)))
set_option maxRecDepth 10000 in
theorem E_M_knownAll_4 : ∀ (n : Nat) {x1 : Int32} {x2 : Int32} {S : ip_St} {r : Int32}, f_M_knownAll_4 n x1 x2 S = some r → ip_Ev 183 4 [some (.ref 30), some (.int x1), some (.int x2)] [] S (some (.int r)) S := by
  intro n
  induction n with
  | zero =>
    intro x1 x2 S r h
    cases h
  | succ n ih =>
    intro x1 x2 S r h
    rw [f_M_knownAll_4] at h
    refine ip_Ev.steps 3 (pc' := 9) (lv' := [some (.ref 30), some (.int x1), some (.int x2)]) (st' := [.int (S.1 30 18), .int x2]) (S1 := S) rfl ?_
    refine ip_Ev.iff2 rfl rfl ip_cGe (fun zhc1 => ?_) (fun zhc1 => ?_)
    · rw [if_pos zhc1] at h
      refine ip_Ev.steps 1 (pc' := 27) (lv' := [some (.ref 30), some (.int x1), some (.int x2)]) (st' := [.int x1]) (S1 := S) rfl ?_
      cases h
      exact ip_Ev.ret rfl
    · rw [if_neg zhc1] at h
      refine ip_Ev.steps 3 (pc' := 15) (lv' := [some (.ref 30), some (.int x1), some (.int x2)]) (st' := [.int x2, .ref 30, .int x1]) (S1 := S) rfl ?_
      obtain ⟨zv3, hzq2, h⟩ := ip_bind h
      refine ip_Ev.call (i := 182) (a := [.ref 30, .int x2]) (r := [.int x1]) rfl (T_M_knownMany hzq2) ?_
      show ip_Ev 183 18 [some (.ref 30), some (.int x1), some (.int x2)] [.int zv3, .int x1] S _ _
      refine ip_Ev.steps 4 (pc' := 4) (lv' := [some (.ref 30), some (.int (x1 + zv3)), some (.int (x2 + 1))]) (st' := []) (S1 := S) rfl ?_
      exact ih h
def f_M_knownAll  (S : ip_St) : Option (Int32) := (f_M_knownAll_4 ip_FU 0 0 S)
set_option maxRecDepth 10000 in
theorem T_M_knownAll  {S : ip_St} {r : Int32} (h : f_M_knownAll S = some r) : ip_Me 183 [.ref 30] S (some (.int r)) S := by
  unfold f_M_knownAll at h
  refine ⟨[some (.ref 30), none, none], rfl, ?_⟩
  refine ip_Ev.steps 4 (pc' := 4) (lv' := [some (.ref 30), some (.int 0), some (.int 0)]) (st' := []) (S1 := S) rfl ?_
  exact E_M_knownAll_4 ip_FU h
-- M_heardAll
def f_M_heardAll_4 : Nat → Int32 → Int32 → ip_St → Option (Int32)
  | 0, _, _, _ => none
  | n + 1, x1, x2, S => (if (S.1 30 18) ≤ x2 then some x1 else ((f_M_heardMany x2 S).bind fun zv3 => (f_M_heardAll_4 n (x1 + zv3) (x2 + 1) S)))
set_option maxRecDepth 10000 in
theorem E_M_heardAll_4 : ∀ (n : Nat) {x1 : Int32} {x2 : Int32} {S : ip_St} {r : Int32}, f_M_heardAll_4 n x1 x2 S = some r → ip_Ev 181 4 [some (.ref 30), some (.int x1), some (.int x2)] [] S (some (.int r)) S := by
  intro n
  induction n with
  | zero =>
    intro x1 x2 S r h
    cases h
  | succ n ih =>
    intro x1 x2 S r h
    rw [f_M_heardAll_4] at h
    refine ip_Ev.steps 3 (pc' := 9) (lv' := [some (.ref 30), some (.int x1), some (.int x2)]) (st' := [.int (S.1 30 18), .int x2]) (S1 := S) rfl ?_
    refine ip_Ev.iff2 rfl rfl ip_cGe (fun zhc1 => ?_) (fun zhc1 => ?_)
    · rw [if_pos zhc1] at h
      refine ip_Ev.steps 1 (pc' := 27) (lv' := [some (.ref 30), some (.int x1), some (.int x2)]) (st' := [.int x1]) (S1 := S) rfl ?_
      cases h
      exact ip_Ev.ret rfl
    · rw [if_neg zhc1] at h
      refine ip_Ev.steps 3 (pc' := 15) (lv' := [some (.ref 30), some (.int x1), some (.int x2)]) (st' := [.int x2, .ref 30, .int x1]) (S1 := S) rfl ?_
      obtain ⟨zv3, hzq2, h⟩ := ip_bind h
      refine ip_Ev.call (i := 148) (a := [.ref 30, .int x2]) (r := [.int x1]) rfl (T_M_heardMany hzq2) ?_
      show ip_Ev 181 18 [some (.ref 30), some (.int x1), some (.int x2)] [.int zv3, .int x1] S _ _
      refine ip_Ev.steps 4 (pc' := 4) (lv' := [some (.ref 30), some (.int (x1 + zv3)), some (.int (x2 + 1))]) (st' := []) (S1 := S) rfl ?_
      exact ih h
def f_M_heardAll  (S : ip_St) : Option (Int32) := (f_M_heardAll_4 ip_FU 0 0 S)
set_option maxRecDepth 10000 in
theorem T_M_heardAll  {S : ip_St} {r : Int32} (h : f_M_heardAll S = some r) : ip_Me 181 [.ref 30] S (some (.int r)) S := by
  unfold f_M_heardAll at h
  refine ⟨[some (.ref 30), none, none], rfl, ?_⟩
  refine ip_Ev.steps 4 (pc' := 4) (lv' := [some (.ref 30), some (.int 0), some (.int 0)]) (st' := []) (S1 := S) rfl ?_
  exact E_M_heardAll_4 ip_FU h
-- M_verdicts
def f_M_verdicts_4 : Nat → Int32 → Int32 → Int32 → ip_St → Option (Int32)
  | 0, _, _, _, _ => none
  | n + 1, x1, x2, x3, S => (if (S.1 30 18) ≤ x3 then some x2 else ((f_M_waysOf x3 S).bind fun zv3 => ((f_M_freesOf x3 S).bind fun zv5 => (if (f_M_verdictBy zv3 zv5) = x1 then (f_M_verdicts_4 n x1 (x2 + 1) (x3 + 1) S) else (f_M_verdicts_4 n x1 (x2 + 0) (x3 + 1) S)))))
set_option maxRecDepth 10000 in
theorem E_M_verdicts_4 : ∀ (n : Nat) {x1 : Int32} {x2 : Int32} {x3 : Int32} {S : ip_St} {r : Int32}, f_M_verdicts_4 n x1 x2 x3 S = some r → ip_Ev 180 4 [some (.ref 30), some (.int x1), some (.int x2), some (.int x3)] [] S (some (.int r)) S := by
  intro n
  induction n with
  | zero =>
    intro x1 x2 x3 S r h
    cases h
  | succ n ih =>
    intro x1 x2 x3 S r h
    rw [f_M_verdicts_4] at h
    refine ip_Ev.steps 3 (pc' := 9) (lv' := [some (.ref 30), some (.int x1), some (.int x2), some (.int x3)]) (st' := [.int (S.1 30 18), .int x3]) (S1 := S) rfl ?_
    refine ip_Ev.iff2 rfl rfl ip_cGe (fun zhc1 => ?_) (fun zhc1 => ?_)
    · rw [if_pos zhc1] at h
      refine ip_Ev.steps 1 (pc' := 44) (lv' := [some (.ref 30), some (.int x1), some (.int x2), some (.int x3)]) (st' := [.int x2]) (S1 := S) rfl ?_
      cases h
      exact ip_Ev.ret rfl
    · rw [if_neg zhc1] at h
      refine ip_Ev.steps 3 (pc' := 15) (lv' := [some (.ref 30), some (.int x1), some (.int x2), some (.int x3)]) (st' := [.int x3, .ref 30, .int x2]) (S1 := S) rfl ?_
      obtain ⟨zv3, hzq2, h⟩ := ip_bind h
      refine ip_Ev.call (i := 138) (a := [.ref 30, .int x3]) (r := [.int x2]) rfl (T_M_waysOf hzq2) ?_
      show ip_Ev 180 18 [some (.ref 30), some (.int x1), some (.int x2), some (.int x3)] [.long zv3, .int x2] S _ _
      refine ip_Ev.steps 2 (pc' := 20) (lv' := [some (.ref 30), some (.int x1), some (.int x2), some (.int x3)]) (st' := [.int x3, .ref 30, .long zv3, .int x2]) (S1 := S) rfl ?_
      obtain ⟨zv5, hzq4, h⟩ := ip_bind h
      refine ip_Ev.call (i := 140) (a := [.ref 30, .int x3]) (r := [.long zv3, .int x2]) rfl (T_M_freesOf hzq4) ?_
      show ip_Ev 180 23 [some (.ref 30), some (.int x1), some (.int x2), some (.int x3)] [.long zv5, .long zv3, .int x2] S _ _
      refine ip_Ev.call (i := 141) (a := [.long zv3, .long zv5]) (r := [.int x2]) rfl (T_M_verdictBy rfl) ?_
      show ip_Ev 180 26 [some (.ref 30), some (.int x1), some (.int x2), some (.int x3)] [.int (f_M_verdictBy zv3 zv5), .int x2] S _ _
      refine ip_Ev.steps 1 (pc' := 27) (lv' := [some (.ref 30), some (.int x1), some (.int x2), some (.int x3)]) (st' := [.int x1, .int (f_M_verdictBy zv3 zv5), .int x2]) (S1 := S) rfl ?_
      refine ip_Ev.iff2 rfl rfl ip_cNe (fun zhc6 => ?_) (fun zhc6 => ?_)
      · rw [if_neg zhc6] at h
        refine ip_Ev.steps 5 (pc' := 4) (lv' := [some (.ref 30), some (.int x1), some (.int (x2 + 0)), some (.int (x3 + 1))]) (st' := []) (S1 := S) rfl ?_
        exact ih h
      · rw [if_pos (Decidable.of_not_not zhc6)] at h
        refine ip_Ev.steps 6 (pc' := 4) (lv' := [some (.ref 30), some (.int x1), some (.int (x2 + 1)), some (.int (x3 + 1))]) (st' := []) (S1 := S) rfl ?_
        exact ih h
def f_M_verdicts (p1 : Int32) (S : ip_St) : Option (Int32) := (f_M_verdicts_4 ip_FU p1 0 0 S)
set_option maxRecDepth 10000 in
theorem T_M_verdicts {p1 : Int32} {S : ip_St} {r : Int32} (h : f_M_verdicts p1 S = some r) : ip_Me 180 [.ref 30, .int p1] S (some (.int r)) S := by
  unfold f_M_verdicts at h
  refine ⟨[some (.ref 30), some (.int p1), none, none], rfl, ?_⟩
  refine ip_Ev.steps 4 (pc' := 4) (lv' := [some (.ref 30), some (.int p1), some (.int 0), some (.int 0)]) (st' := []) (S1 := S) rfl ?_
  exact E_M_verdicts_4 ip_FU h
-- M_waysAll
def f_M_waysAll_4 : Nat → Int32 → Int32 → ip_St → Option (Int32)
  | 0, _, _, _ => none
  | n + 1, x1, x2, S => (if (S.1 30 18) ≤ x2 then some x1 else ((f_M_waysOf x2 S).bind fun zv3 => ((f_M_ones zv3).bind fun zv5 => (f_M_waysAll_4 n (x1 + zv5) (x2 + 1) S))))
set_option maxRecDepth 10000 in
theorem E_M_waysAll_4 : ∀ (n : Nat) {x1 : Int32} {x2 : Int32} {S : ip_St} {r : Int32}, f_M_waysAll_4 n x1 x2 S = some r → ip_Ev 179 4 [some (.ref 30), some (.int x1), some (.int x2)] [] S (some (.int r)) S := by
  intro n
  induction n with
  | zero =>
    intro x1 x2 S r h
    cases h
  | succ n ih =>
    intro x1 x2 S r h
    rw [f_M_waysAll_4] at h
    refine ip_Ev.steps 3 (pc' := 9) (lv' := [some (.ref 30), some (.int x1), some (.int x2)]) (st' := [.int (S.1 30 18), .int x2]) (S1 := S) rfl ?_
    refine ip_Ev.iff2 rfl rfl ip_cGe (fun zhc1 => ?_) (fun zhc1 => ?_)
    · rw [if_pos zhc1] at h
      refine ip_Ev.steps 1 (pc' := 30) (lv' := [some (.ref 30), some (.int x1), some (.int x2)]) (st' := [.int x1]) (S1 := S) rfl ?_
      cases h
      exact ip_Ev.ret rfl
    · rw [if_neg zhc1] at h
      refine ip_Ev.steps 3 (pc' := 15) (lv' := [some (.ref 30), some (.int x1), some (.int x2)]) (st' := [.int x2, .ref 30, .int x1]) (S1 := S) rfl ?_
      obtain ⟨zv3, hzq2, h⟩ := ip_bind h
      refine ip_Ev.call (i := 138) (a := [.ref 30, .int x2]) (r := [.int x1]) rfl (T_M_waysOf hzq2) ?_
      show ip_Ev 179 18 [some (.ref 30), some (.int x1), some (.int x2)] [.long zv3, .int x1] S _ _
      obtain ⟨zv5, hzq4, h⟩ := ip_bind h
      refine ip_Ev.call (i := 127) (a := [.long zv3]) (r := [.int x1]) rfl (T_M_ones hzq4) ?_
      show ip_Ev 179 21 [some (.ref 30), some (.int x1), some (.int x2)] [.int zv5, .int x1] S _ _
      refine ip_Ev.steps 4 (pc' := 4) (lv' := [some (.ref 30), some (.int (x1 + zv5)), some (.int (x2 + 1))]) (st' := []) (S1 := S) rfl ?_
      exact ih h
def f_M_waysAll  (S : ip_St) : Option (Int32) := (f_M_waysAll_4 ip_FU 0 0 S)
set_option maxRecDepth 10000 in
theorem T_M_waysAll  {S : ip_St} {r : Int32} (h : f_M_waysAll S = some r) : ip_Me 179 [.ref 30] S (some (.int r)) S := by
  unfold f_M_waysAll at h
  refine ⟨[some (.ref 30), none, none], rfl, ?_⟩
  refine ip_Ev.steps 4 (pc' := 4) (lv' := [some (.ref 30), some (.int 0), some (.int 0)]) (st' := []) (S1 := S) rfl ?_
  exact E_M_waysAll_4 ip_FU h
-- M_countOf
def f_M_countOf (p1 : Int32) (S : ip_St) : Option (Int32) := (if p1 = 0 then some (S.1 30 18) else (if p1 = 1 then (if (f_M_lacks S) = false then ((f_M_ones (S.2 30 17)).bind fun zv4 => some zv4) else some 0) else (if p1 = 2 then ((f_M_waysAll S).bind fun zv6 => some zv6) else (if p1 = 3 then ((f_M_verdicts (p1 - 2) S).bind fun zv8 => some zv8) else (if p1 = 4 then ((f_M_verdicts (p1 - 2) S).bind fun zv10 => some zv10) else (if p1 = 5 then some (S.1 30 19) else (if p1 = 6 then ((f_M_heardAll S).bind fun zv12 => some zv12) else (if p1 = 7 then ((f_M_knownAll S).bind fun zv14 => some zv14) else (if p1 = 8 then some (S.1 30 29) else (if p1 = 9 then some (S.1 30 2) else (if p1 = 10 then some (S.1 30 21) else (if p1 = 11 then some (S.1 30 20) else some (-102)))))))))))))
set_option maxRecDepth 10000 in
theorem T_M_countOf {p1 : Int32} {S : ip_St} {r : Int32} (h : f_M_countOf p1 S = some r) : ip_Me 184 [.ref 30, .int p1] S (some (.int r)) S := by
  unfold f_M_countOf at h
  refine ⟨[some (.ref 30), some (.int p1)], rfl, ?_⟩
  refine ip_Ev.steps 1 (pc' := 1) (lv' := [some (.ref 30), some (.int p1)]) (st' := [.int p1]) (S1 := S) rfl ?_
  by_cases zhs1_0 : p1 = 0
  · rw [if_pos zhs1_0] at h
    refine ip_Ev.ts (off := 63) rfl (by rw [zhs1_0]; rfl) rfl ?_
    refine ip_Ev.steps 2 (pc' := 68) (lv' := [some (.ref 30), some (.int p1)]) (st' := [.int (S.1 30 18)]) (S1 := S) rfl ?_
    cases h
    exact ip_Ev.ret rfl
  rw [if_neg zhs1_0] at h
  by_cases zhs1_1 : p1 = 1
  · rw [if_pos zhs1_1] at h
    refine ip_Ev.ts (off := 68) rfl (by rw [zhs1_1]; rfl) rfl ?_
    refine ip_Ev.steps 1 (pc' := 70) (lv' := [some (.ref 30), some (.int p1)]) (st' := [.ref 30]) (S1 := S) rfl ?_
    refine ip_Ev.call (i := 126) (a := [.ref 30]) (r := []) rfl (T_M_lacks rfl) ?_
    show ip_Ev 184 73 [some (.ref 30), some (.int p1)] [.int (ip_b2i (f_M_lacks S))] S _ _
    refine ip_Ev.iff1 rfl rfl ip_bEq (fun zhc2 => ?_) (fun zhc2 => ?_)
    · rw [if_pos zhc2] at h
      refine ip_Ev.steps 2 (pc' := 84) (lv' := [some (.ref 30), some (.int p1)]) (st' := [.long (S.2 30 17)]) (S1 := S) rfl ?_
      obtain ⟨zv4, hzq3, h⟩ := ip_bind h
      refine ip_Ev.call (i := 127) (a := [.long (S.2 30 17)]) (r := []) rfl (T_M_ones hzq3) ?_
      show ip_Ev 184 87 [some (.ref 30), some (.int p1)] [.int zv4] S _ _
      cases h
      exact ip_Ev.ret rfl
    · rw [if_neg zhc2] at h
      refine ip_Ev.steps 2 (pc' := 87) (lv' := [some (.ref 30), some (.int p1)]) (st' := [.int 0]) (S1 := S) rfl ?_
      cases h
      exact ip_Ev.ret rfl
  rw [if_neg zhs1_1] at h
  by_cases zhs1_2 : p1 = 2
  · rw [if_pos zhs1_2] at h
    refine ip_Ev.ts (off := 87) rfl (by rw [zhs1_2]; rfl) rfl ?_
    refine ip_Ev.steps 1 (pc' := 89) (lv' := [some (.ref 30), some (.int p1)]) (st' := [.ref 30]) (S1 := S) rfl ?_
    obtain ⟨zv6, hzq5, h⟩ := ip_bind h
    refine ip_Ev.call (i := 179) (a := [.ref 30]) (r := []) rfl (T_M_waysAll hzq5) ?_
    show ip_Ev 184 92 [some (.ref 30), some (.int p1)] [.int zv6] S _ _
    cases h
    exact ip_Ev.ret rfl
  rw [if_neg zhs1_2] at h
  by_cases zhs1_3 : p1 = 3
  · rw [if_pos zhs1_3] at h
    refine ip_Ev.ts (off := 92) rfl (by rw [zhs1_3]; rfl) rfl ?_
    refine ip_Ev.steps 4 (pc' := 97) (lv' := [some (.ref 30), some (.int p1)]) (st' := [.int (p1 - 2), .ref 30]) (S1 := S) rfl ?_
    obtain ⟨zv8, hzq7, h⟩ := ip_bind h
    refine ip_Ev.call (i := 180) (a := [.ref 30, .int (p1 - 2)]) (r := []) rfl (T_M_verdicts hzq7) ?_
    show ip_Ev 184 100 [some (.ref 30), some (.int p1)] [.int zv8] S _ _
    cases h
    exact ip_Ev.ret rfl
  rw [if_neg zhs1_3] at h
  by_cases zhs1_4 : p1 = 4
  · rw [if_pos zhs1_4] at h
    refine ip_Ev.ts (off := 92) rfl (by rw [zhs1_4]; rfl) rfl ?_
    refine ip_Ev.steps 4 (pc' := 97) (lv' := [some (.ref 30), some (.int p1)]) (st' := [.int (p1 - 2), .ref 30]) (S1 := S) rfl ?_
    obtain ⟨zv10, hzq9, h⟩ := ip_bind h
    refine ip_Ev.call (i := 180) (a := [.ref 30, .int (p1 - 2)]) (r := []) rfl (T_M_verdicts hzq9) ?_
    show ip_Ev 184 100 [some (.ref 30), some (.int p1)] [.int zv10] S _ _
    cases h
    exact ip_Ev.ret rfl
  rw [if_neg zhs1_4] at h
  by_cases zhs1_5 : p1 = 5
  · rw [if_pos zhs1_5] at h
    refine ip_Ev.ts (off := 100) rfl (by rw [zhs1_5]; rfl) rfl ?_
    refine ip_Ev.steps 2 (pc' := 105) (lv' := [some (.ref 30), some (.int p1)]) (st' := [.int (S.1 30 19)]) (S1 := S) rfl ?_
    cases h
    exact ip_Ev.ret rfl
  rw [if_neg zhs1_5] at h
  by_cases zhs1_6 : p1 = 6
  · rw [if_pos zhs1_6] at h
    refine ip_Ev.ts (off := 105) rfl (by rw [zhs1_6]; rfl) rfl ?_
    refine ip_Ev.steps 1 (pc' := 107) (lv' := [some (.ref 30), some (.int p1)]) (st' := [.ref 30]) (S1 := S) rfl ?_
    obtain ⟨zv12, hzq11, h⟩ := ip_bind h
    refine ip_Ev.call (i := 181) (a := [.ref 30]) (r := []) rfl (T_M_heardAll hzq11) ?_
    show ip_Ev 184 110 [some (.ref 30), some (.int p1)] [.int zv12] S _ _
    cases h
    exact ip_Ev.ret rfl
  rw [if_neg zhs1_6] at h
  by_cases zhs1_7 : p1 = 7
  · rw [if_pos zhs1_7] at h
    refine ip_Ev.ts (off := 110) rfl (by rw [zhs1_7]; rfl) rfl ?_
    refine ip_Ev.steps 1 (pc' := 112) (lv' := [some (.ref 30), some (.int p1)]) (st' := [.ref 30]) (S1 := S) rfl ?_
    obtain ⟨zv14, hzq13, h⟩ := ip_bind h
    refine ip_Ev.call (i := 183) (a := [.ref 30]) (r := []) rfl (T_M_knownAll hzq13) ?_
    show ip_Ev 184 115 [some (.ref 30), some (.int p1)] [.int zv14] S _ _
    cases h
    exact ip_Ev.ret rfl
  rw [if_neg zhs1_7] at h
  by_cases zhs1_8 : p1 = 8
  · rw [if_pos zhs1_8] at h
    refine ip_Ev.ts (off := 115) rfl (by rw [zhs1_8]; rfl) rfl ?_
    refine ip_Ev.steps 2 (pc' := 120) (lv' := [some (.ref 30), some (.int p1)]) (st' := [.int (S.1 30 29)]) (S1 := S) rfl ?_
    cases h
    exact ip_Ev.ret rfl
  rw [if_neg zhs1_8] at h
  by_cases zhs1_9 : p1 = 9
  · rw [if_pos zhs1_9] at h
    refine ip_Ev.ts (off := 120) rfl (by rw [zhs1_9]; rfl) rfl ?_
    refine ip_Ev.steps 2 (pc' := 125) (lv' := [some (.ref 30), some (.int p1)]) (st' := [.int (S.1 30 2)]) (S1 := S) rfl ?_
    cases h
    exact ip_Ev.ret rfl
  rw [if_neg zhs1_9] at h
  by_cases zhs1_10 : p1 = 10
  · rw [if_pos zhs1_10] at h
    refine ip_Ev.ts (off := 125) rfl (by rw [zhs1_10]; rfl) rfl ?_
    refine ip_Ev.steps 2 (pc' := 130) (lv' := [some (.ref 30), some (.int p1)]) (st' := [.int (S.1 30 21)]) (S1 := S) rfl ?_
    cases h
    exact ip_Ev.ret rfl
  rw [if_neg zhs1_10] at h
  by_cases zhs1_11 : p1 = 11
  · rw [if_pos zhs1_11] at h
    refine ip_Ev.ts (off := 130) rfl (by rw [zhs1_11]; rfl) rfl ?_
    refine ip_Ev.steps 2 (pc' := 135) (lv' := [some (.ref 30), some (.int p1)]) (st' := [.int (S.1 30 20)]) (S1 := S) rfl ?_
    cases h
    exact ip_Ev.ret rfl
  rw [if_neg zhs1_11] at h
  have zhs1_0n : ¬ Int32.toInt p1 = 0 := fun q => zhs1_0 (Int32.toInt_inj.mp q)
  have zhs1_1n : ¬ Int32.toInt p1 = 1 := fun q => zhs1_1 (Int32.toInt_inj.mp q)
  have zhs1_2n : ¬ Int32.toInt p1 = 2 := fun q => zhs1_2 (Int32.toInt_inj.mp q)
  have zhs1_3n : ¬ Int32.toInt p1 = 3 := fun q => zhs1_3 (Int32.toInt_inj.mp q)
  have zhs1_4n : ¬ Int32.toInt p1 = 4 := fun q => zhs1_4 (Int32.toInt_inj.mp q)
  have zhs1_5n : ¬ Int32.toInt p1 = 5 := fun q => zhs1_5 (Int32.toInt_inj.mp q)
  have zhs1_6n : ¬ Int32.toInt p1 = 6 := fun q => zhs1_6 (Int32.toInt_inj.mp q)
  have zhs1_7n : ¬ Int32.toInt p1 = 7 := fun q => zhs1_7 (Int32.toInt_inj.mp q)
  have zhs1_8n : ¬ Int32.toInt p1 = 8 := fun q => zhs1_8 (Int32.toInt_inj.mp q)
  have zhs1_9n : ¬ Int32.toInt p1 = 9 := fun q => zhs1_9 (Int32.toInt_inj.mp q)
  have zhs1_10n : ¬ Int32.toInt p1 = 10 := fun q => zhs1_10 (Int32.toInt_inj.mp q)
  have zhs1_11n : ¬ Int32.toInt p1 = 11 := fun q => zhs1_11 (Int32.toInt_inj.mp q)
  refine ip_Ev.ts (off := 135) rfl (ip_tsO_out (by omega)) rfl ?_
  refine ip_Ev.steps 1 (pc' := 138) (lv' := [some (.ref 30), some (.int p1)]) (st' := [.int (-102)]) (S1 := S) rfl ?_
  cases h
  exact ip_Ev.ret rfl
-- M_count
def f_M_count (p1 : Int32) (S : ip_St) : Option (Int32) := ((f_M_countOf p1 S).bind fun zv2 => some zv2)
set_option maxRecDepth 10000 in
theorem T_M_count {p1 : Int32} {S : ip_St} {r : Int32} (h : f_M_count p1 S = some r) : ip_Me 185 [.ref 30, .int p1] S (some (.int r)) S := by
  unfold f_M_count at h
  refine ⟨[some (.ref 30), some (.int p1)], rfl, ?_⟩
  refine ip_Ev.steps 2 (pc' := 2) (lv' := [some (.ref 30), some (.int p1)]) (st' := [.int p1, .ref 30]) (S1 := S) rfl ?_
  obtain ⟨zv2, hzq1, h⟩ := ip_bind h
  refine ip_Ev.call (i := 184) (a := [.ref 30, .int p1]) (r := []) rfl (T_M_countOf hzq1) ?_
  show ip_Ev 185 5 [some (.ref 30), some (.int p1)] [.int zv2] S _ _
  cases h
  exact ip_Ev.ret rfl
-- A_withJudge
def f_A_withJudge_75 : Nat → Int32 → Int64 → Int32 → ip_St → Option (Int64 × ip_St)
  | 0, _, _, _, _ => none
  | n + 1, x3, x4, x6, S => (if 6 ≤ x6 then ((f_A_ways x3 S).bind fun zv3 => ((f_A_odds x3 0 S).bind fun zv5 => ((f_A_odds x3 1 S).bind fun zv7 => ((f_A_find x3 2 0 S).bind fun zv9 => ((f_A_find x3 2 1 S).bind fun zv11 => some (((31 * ((31 * ((31 * ((31 * ((31 * x4) + zv3)) + (Int32.toInt64 zv5))) + (Int32.toInt64 zv7))) + (Int32.toInt64 zv9))) + (Int32.toInt64 zv11)), S)))))) else ((f_A_judge x3 (30 + x6) S).bind fun zq12 => (f_A_withJudge_75 n x3 ((31 * x4) + (Int32.toInt64 zq12.1)) (x6 + 1) zq12.2)))
set_option maxRecDepth 10000 in
theorem E_A_withJudge_75 : ∀ (n : Nat) {x3 : Int32} {x4 : Int64} {x6 : Int32} {S : ip_St} {r : Int64} {S9 : ip_St} {d1 : Option Value} {d2 : Option Value}, f_A_withJudge_75 n x3 x4 x6 S = some (r, S9) → ip_Ev 97 75 [some (.ref 0), d1, d2, some (.int x3), some (.long x4), none, some (.int x6)] [] S (some (.long r)) S9 := by
  intro n
  induction n with
  | zero =>
    intro x3 x4 x6 S r S9 d1 d2 h
    cases h
  | succ n ih =>
    intro x3 x4 x6 S r S9 d1 d2 h
    rw [f_A_withJudge_75] at h
    refine ip_Ev.steps 2 (pc' := 79) (lv' := [some (.ref 0), d1, d2, some (.int x3), some (.long x4), none, some (.int x6)]) (st' := [.int 6, .int x6]) (S1 := S) rfl ?_
    refine ip_Ev.iff2 rfl rfl ip_cGe (fun zhc1 => ?_) (fun zhc1 => ?_)
    · rw [if_pos zhc1] at h
      refine ip_Ev.steps 5 (pc' := 116) (lv' := [some (.ref 0), d1, d2, some (.int x3), some (.long x4), none, some (.int x6)]) (st' := [.int x3, .ref 0, .long (31 * x4)]) (S1 := S) rfl ?_
      obtain ⟨zv3, hzq2, h⟩ := ip_bind h
      refine ip_Ev.call (i := 70) (a := [.ref 0, .int x3]) (r := [.long (31 * x4)]) rfl (T_A_ways hzq2) ?_
      show ip_Ev 97 119 [some (.ref 0), d1, d2, some (.int x3), some (.long x4), none, some (.int x6)] [.long zv3, .long (31 * x4)] S _ _
      refine ip_Ev.steps 8 (pc' := 131) (lv' := [some (.ref 0), d1, d2, some (.int x3), some (.long ((31 * x4) + zv3)), none, some (.int x6)]) (st' := [.int 0, .int x3, .ref 0, .long (31 * ((31 * x4) + zv3))]) (S1 := S) rfl ?_
      obtain ⟨zv5, hzq4, h⟩ := ip_bind h
      refine ip_Ev.call (i := 73) (a := [.ref 0, .int x3, .int 0]) (r := [.long (31 * ((31 * x4) + zv3))]) rfl (T_A_odds hzq4) ?_
      show ip_Ev 97 134 [some (.ref 0), d1, d2, some (.int x3), some (.long ((31 * x4) + zv3)), none, some (.int x6)] [.int zv5, .long (31 * ((31 * x4) + zv3))] S _ _
      refine ip_Ev.steps 9 (pc' := 147) (lv' := [some (.ref 0), d1, d2, some (.int x3), some (.long ((31 * ((31 * x4) + zv3)) + (Int32.toInt64 zv5))), none, some (.int x6)]) (st' := [.int 1, .int x3, .ref 0, .long (31 * ((31 * ((31 * x4) + zv3)) + (Int32.toInt64 zv5)))]) (S1 := S) rfl ?_
      obtain ⟨zv7, hzq6, h⟩ := ip_bind h
      refine ip_Ev.call (i := 73) (a := [.ref 0, .int x3, .int 1]) (r := [.long (31 * ((31 * ((31 * x4) + zv3)) + (Int32.toInt64 zv5)))]) rfl (T_A_odds hzq6) ?_
      show ip_Ev 97 150 [some (.ref 0), d1, d2, some (.int x3), some (.long ((31 * ((31 * x4) + zv3)) + (Int32.toInt64 zv5))), none, some (.int x6)] [.int zv7, .long (31 * ((31 * ((31 * x4) + zv3)) + (Int32.toInt64 zv5)))] S _ _
      refine ip_Ev.steps 10 (pc' := 164) (lv' := [some (.ref 0), d1, d2, some (.int x3), some (.long ((31 * ((31 * ((31 * x4) + zv3)) + (Int32.toInt64 zv5))) + (Int32.toInt64 zv7))), none, some (.int x6)]) (st' := [.int 0, .int 2, .int x3, .ref 0, .long (31 * ((31 * ((31 * ((31 * x4) + zv3)) + (Int32.toInt64 zv5))) + (Int32.toInt64 zv7)))]) (S1 := S) rfl ?_
      obtain ⟨zv9, hzq8, h⟩ := ip_bind h
      refine ip_Ev.call (i := 80) (a := [.ref 0, .int x3, .int 2, .int 0]) (r := [.long (31 * ((31 * ((31 * ((31 * x4) + zv3)) + (Int32.toInt64 zv5))) + (Int32.toInt64 zv7)))]) rfl (T_A_find hzq8) ?_
      show ip_Ev 97 167 [some (.ref 0), d1, d2, some (.int x3), some (.long ((31 * ((31 * ((31 * x4) + zv3)) + (Int32.toInt64 zv5))) + (Int32.toInt64 zv7))), none, some (.int x6)] [.int zv9, .long (31 * ((31 * ((31 * ((31 * x4) + zv3)) + (Int32.toInt64 zv5))) + (Int32.toInt64 zv7)))] S _ _
      refine ip_Ev.steps 10 (pc' := 181) (lv' := [some (.ref 0), d1, d2, some (.int x3), some (.long ((31 * ((31 * ((31 * ((31 * x4) + zv3)) + (Int32.toInt64 zv5))) + (Int32.toInt64 zv7))) + (Int32.toInt64 zv9))), none, some (.int x6)]) (st' := [.int 1, .int 2, .int x3, .ref 0, .long (31 * ((31 * ((31 * ((31 * ((31 * x4) + zv3)) + (Int32.toInt64 zv5))) + (Int32.toInt64 zv7))) + (Int32.toInt64 zv9)))]) (S1 := S) rfl ?_
      obtain ⟨zv11, hzq10, h⟩ := ip_bind h
      refine ip_Ev.call (i := 80) (a := [.ref 0, .int x3, .int 2, .int 1]) (r := [.long (31 * ((31 * ((31 * ((31 * ((31 * x4) + zv3)) + (Int32.toInt64 zv5))) + (Int32.toInt64 zv7))) + (Int32.toInt64 zv9)))]) rfl (T_A_find hzq10) ?_
      show ip_Ev 97 184 [some (.ref 0), d1, d2, some (.int x3), some (.long ((31 * ((31 * ((31 * ((31 * x4) + zv3)) + (Int32.toInt64 zv5))) + (Int32.toInt64 zv7))) + (Int32.toInt64 zv9))), none, some (.int x6)] [.int zv11, .long (31 * ((31 * ((31 * ((31 * ((31 * x4) + zv3)) + (Int32.toInt64 zv5))) + (Int32.toInt64 zv7))) + (Int32.toInt64 zv9)))] S _ _
      refine ip_Ev.steps 2 (pc' := 186) (lv' := [some (.ref 0), d1, d2, some (.int x3), some (.long ((31 * ((31 * ((31 * ((31 * x4) + zv3)) + (Int32.toInt64 zv5))) + (Int32.toInt64 zv7))) + (Int32.toInt64 zv9))), none, some (.int x6)]) (st' := [.long ((31 * ((31 * ((31 * ((31 * ((31 * x4) + zv3)) + (Int32.toInt64 zv5))) + (Int32.toInt64 zv7))) + (Int32.toInt64 zv9))) + (Int32.toInt64 zv11))]) (S1 := S) rfl ?_
      cases h
      exact ip_Ev.ret rfl
    · rw [if_neg zhc1] at h
      refine ip_Ev.steps 8 (pc' := 95) (lv' := [some (.ref 0), d1, d2, some (.int x3), some (.long x4), none, some (.int x6)]) (st' := [.int (30 + x6), .int x3, .ref 0, .long (31 * x4)]) (S1 := S) rfl ?_
      obtain ⟨⟨zv13, zS14⟩, hzq12, h⟩ := ip_bind h
      dsimp only at h
      refine ip_Ev.call (i := 67) (a := [.ref 0, .int x3, .int (30 + x6)]) (r := [.long (31 * x4)]) rfl (T_A_judge hzq12) ?_
      show ip_Ev 97 98 [some (.ref 0), d1, d2, some (.int x3), some (.long x4), none, some (.int x6)] [.int zv13, .long (31 * x4)] zS14 _ _
      refine ip_Ev.steps 5 (pc' := 75) (lv' := [some (.ref 0), d1, d2, some (.int x3), some (.long ((31 * x4) + (Int32.toInt64 zv13))), none, some (.int (x6 + 1))]) (st' := []) (S1 := zS14) rfl ?_
      exact ih h
def f_A_withJudge_39 : Nat → Int32 → Int64 → Int32 → ip_St → Option (Int64 × ip_St)
  | 0, _, _, _, _ => none
  | n + 1, x3, x4, x6, S => (if 6 ≤ x6 then (f_A_withJudge_75 ip_FU x3 x4 0 S) else ((f_A_judge x3 (20 + x6) S).bind fun zq2 => (f_A_withJudge_39 n x3 ((31 * x4) + (Int32.toInt64 zq2.1)) (x6 + 1) zq2.2)))
set_option maxRecDepth 10000 in
theorem E_A_withJudge_39 : ∀ (n : Nat) {x3 : Int32} {x4 : Int64} {x6 : Int32} {S : ip_St} {r : Int64} {S9 : ip_St} {d1 : Option Value} {d2 : Option Value}, f_A_withJudge_39 n x3 x4 x6 S = some (r, S9) → ip_Ev 97 39 [some (.ref 0), d1, d2, some (.int x3), some (.long x4), none, some (.int x6)] [] S (some (.long r)) S9 := by
  intro n
  induction n with
  | zero =>
    intro x3 x4 x6 S r S9 d1 d2 h
    cases h
  | succ n ih =>
    intro x3 x4 x6 S r S9 d1 d2 h
    rw [f_A_withJudge_39] at h
    refine ip_Ev.steps 2 (pc' := 43) (lv' := [some (.ref 0), d1, d2, some (.int x3), some (.long x4), none, some (.int x6)]) (st' := [.int 6, .int x6]) (S1 := S) rfl ?_
    refine ip_Ev.iff2 rfl rfl ip_cGe (fun zhc1 => ?_) (fun zhc1 => ?_)
    · rw [if_pos zhc1] at h
      refine ip_Ev.steps 2 (pc' := 75) (lv' := [some (.ref 0), d1, d2, some (.int x3), some (.long x4), none, some (.int 0)]) (st' := []) (S1 := S) rfl ?_
      exact E_A_withJudge_75 ip_FU h
    · rw [if_neg zhc1] at h
      refine ip_Ev.steps 8 (pc' := 59) (lv' := [some (.ref 0), d1, d2, some (.int x3), some (.long x4), none, some (.int x6)]) (st' := [.int (20 + x6), .int x3, .ref 0, .long (31 * x4)]) (S1 := S) rfl ?_
      obtain ⟨⟨zv3, zS4⟩, hzq2, h⟩ := ip_bind h
      dsimp only at h
      refine ip_Ev.call (i := 67) (a := [.ref 0, .int x3, .int (20 + x6)]) (r := [.long (31 * x4)]) rfl (T_A_judge hzq2) ?_
      show ip_Ev 97 62 [some (.ref 0), d1, d2, some (.int x3), some (.long x4), none, some (.int x6)] [.int zv3, .long (31 * x4)] zS4 _ _
      refine ip_Ev.steps 5 (pc' := 39) (lv' := [some (.ref 0), d1, d2, some (.int x3), some (.long ((31 * x4) + (Int32.toInt64 zv3))), none, some (.int (x6 + 1))]) (st' := []) (S1 := zS4) rfl ?_
      exact ih h
def f_A_withJudge_6 : Nat → Int32 → Int64 → Int32 → ip_St → Option (Int64 × ip_St)
  | 0, _, _, _, _ => none
  | n + 1, x3, x4, x6, S => (if 10 < x6 then (f_A_withJudge_39 ip_FU x3 x4 0 S) else ((f_A_judge x3 x6 S).bind fun zq2 => (f_A_withJudge_6 n x3 ((31 * x4) + (Int32.toInt64 zq2.1)) (x6 + 1) zq2.2)))
set_option maxRecDepth 10000 in
theorem E_A_withJudge_6 : ∀ (n : Nat) {x3 : Int32} {x4 : Int64} {x6 : Int32} {S : ip_St} {r : Int64} {S9 : ip_St} {d1 : Option Value} {d2 : Option Value}, f_A_withJudge_6 n x3 x4 x6 S = some (r, S9) → ip_Ev 97 6 [some (.ref 0), d1, d2, some (.int x3), some (.long x4), none, some (.int x6)] [] S (some (.long r)) S9 := by
  intro n
  induction n with
  | zero =>
    intro x3 x4 x6 S r S9 d1 d2 h
    cases h
  | succ n ih =>
    intro x3 x4 x6 S r S9 d1 d2 h
    rw [f_A_withJudge_6] at h
    refine ip_Ev.steps 2 (pc' := 10) (lv' := [some (.ref 0), d1, d2, some (.int x3), some (.long x4), none, some (.int x6)]) (st' := [.int 10, .int x6]) (S1 := S) rfl ?_
    refine ip_Ev.iff2 rfl rfl ip_cGt (fun zhc1 => ?_) (fun zhc1 => ?_)
    · rw [if_pos zhc1] at h
      refine ip_Ev.steps 2 (pc' := 39) (lv' := [some (.ref 0), d1, d2, some (.int x3), some (.long x4), none, some (.int 0)]) (st' := []) (S1 := S) rfl ?_
      exact E_A_withJudge_39 ip_FU h
    · rw [if_neg zhc1] at h
      refine ip_Ev.steps 6 (pc' := 23) (lv' := [some (.ref 0), d1, d2, some (.int x3), some (.long x4), none, some (.int x6)]) (st' := [.int x6, .int x3, .ref 0, .long (31 * x4)]) (S1 := S) rfl ?_
      obtain ⟨⟨zv3, zS4⟩, hzq2, h⟩ := ip_bind h
      dsimp only at h
      refine ip_Ev.call (i := 67) (a := [.ref 0, .int x3, .int x6]) (r := [.long (31 * x4)]) rfl (T_A_judge hzq2) ?_
      show ip_Ev 97 26 [some (.ref 0), d1, d2, some (.int x3), some (.long x4), none, some (.int x6)] [.int zv3, .long (31 * x4)] zS4 _ _
      refine ip_Ev.steps 5 (pc' := 6) (lv' := [some (.ref 0), d1, d2, some (.int x3), some (.long ((31 * x4) + (Int32.toInt64 zv3))), none, some (.int (x6 + 1))]) (st' := []) (S1 := zS4) rfl ?_
      exact ih h
def f_A_withJudge (p1 : Int64) (p2 : Int32) (S : ip_St) : Option (Int64 × ip_St) := (f_A_withJudge_6 ip_FU p2 p1 0 S)
set_option maxRecDepth 10000 in
theorem T_A_withJudge {p1 : Int64} {p2 : Int32} {S : ip_St} {r : Int64} {S9 : ip_St} (h : f_A_withJudge p1 p2 S = some (r, S9)) : ip_Me 97 [.ref 0, .long p1, .int p2] S (some (.long r)) S9 := by
  unfold f_A_withJudge at h
  refine ⟨[some (.ref 0), some (.long p1), none, some (.int p2), none, none, none], rfl, ?_⟩
  refine ip_Ev.steps 4 (pc' := 6) (lv' := [some (.ref 0), some (.long p1), none, some (.int p2), some (.long p1), none, some (.int 0)]) (st' := []) (S1 := S) rfl ?_
  exact E_A_withJudge_6 ip_FU h
-- A_digest
def f_A_digest_107 : Nat → Int64 → Int32 → ip_St → Option (Int64 × ip_St)
  | 0, _, _, _ => none
  | n + 1, x1, x3, S => (if 12 ≤ x3 then some (x1, S) else ((f_A_count x3 S).bind fun zv3 => (f_A_digest_107 n ((31 * x1) + (Int32.toInt64 zv3)) (x3 + 1) S)))
set_option maxRecDepth 10000 in
theorem E_A_digest_107 : ∀ (n : Nat) {x1 : Int64} {x3 : Int32} {S : ip_St} {r : Int64} {S9 : ip_St}, f_A_digest_107 n x1 x3 S = some (r, S9) → ip_Ev 98 107 [some (.ref 0), some (.long x1), none, some (.int x3)] [] S (some (.long r)) S9 := by
  intro n
  induction n with
  | zero =>
    intro x1 x3 S r S9 h
    cases h
  | succ n ih =>
    intro x1 x3 S r S9 h
    rw [f_A_digest_107] at h
    refine ip_Ev.steps 2 (pc' := 110) (lv' := [some (.ref 0), some (.long x1), none, some (.int x3)]) (st' := [.int 12, .int x3]) (S1 := S) rfl ?_
    refine ip_Ev.iff2 rfl rfl ip_cGe (fun zhc1 => ?_) (fun zhc1 => ?_)
    · rw [if_pos zhc1] at h
      refine ip_Ev.steps 1 (pc' := 133) (lv' := [some (.ref 0), some (.long x1), none, some (.int x3)]) (st' := [.long x1]) (S1 := S) rfl ?_
      cases h
      exact ip_Ev.ret rfl
    · rw [if_neg zhc1] at h
      refine ip_Ev.steps 5 (pc' := 120) (lv' := [some (.ref 0), some (.long x1), none, some (.int x3)]) (st' := [.int x3, .ref 0, .long (31 * x1)]) (S1 := S) rfl ?_
      obtain ⟨zv3, hzq2, h⟩ := ip_bind h
      refine ip_Ev.call (i := 96) (a := [.ref 0, .int x3]) (r := [.long (31 * x1)]) rfl (T_A_count hzq2) ?_
      show ip_Ev 98 123 [some (.ref 0), some (.long x1), none, some (.int x3)] [.int zv3, .long (31 * x1)] S _ _
      refine ip_Ev.steps 5 (pc' := 107) (lv' := [some (.ref 0), some (.long ((31 * x1) + (Int32.toInt64 zv3))), none, some (.int (x3 + 1))]) (st' := []) (S1 := S) rfl ?_
      exact ih h
def f_A_digest_77 : Nat → Int64 → Int32 → ip_St → Option (Int64 × ip_St)
  | 0, _, _, _ => none
  | n + 1, x1, x3, S => (if (S.1 0 1) ≤ x3 then (f_A_digest_107 ip_FU x1 0 S) else ((ip_aI S 1 x3).bind fun zv2 => (f_A_digest_77 n ((31 * x1) + (Int32.toInt64 zv2)) (x3 + 1) S)))
set_option maxRecDepth 10000 in
theorem E_A_digest_77 : ∀ (n : Nat) {x1 : Int64} {x3 : Int32} {S : ip_St} {r : Int64} {S9 : ip_St}, f_A_digest_77 n x1 x3 S = some (r, S9) → ip_Ev 98 77 [some (.ref 0), some (.long x1), none, some (.int x3)] [] S (some (.long r)) S9 := by
  intro n
  induction n with
  | zero =>
    intro x1 x3 S r S9 h
    cases h
  | succ n ih =>
    intro x1 x3 S r S9 h
    rw [f_A_digest_77] at h
    refine ip_Ev.steps 3 (pc' := 82) (lv' := [some (.ref 0), some (.long x1), none, some (.int x3)]) (st' := [.int (S.1 0 1), .int x3]) (S1 := S) rfl ?_
    refine ip_Ev.iff2 rfl rfl ip_cGe (fun zhc1 => ?_) (fun zhc1 => ?_)
    · rw [if_pos zhc1] at h
      refine ip_Ev.steps 2 (pc' := 107) (lv' := [some (.ref 0), some (.long x1), none, some (.int 0)]) (st' := []) (S1 := S) rfl ?_
      exact E_A_digest_107 ip_FU h
    · rw [if_neg zhc1] at h
      refine ip_Ev.steps 6 (pc' := 95) (lv' := [some (.ref 0), some (.long x1), none, some (.int x3)]) (st' := [.int x3, .ref 1, .long (31 * x1)]) (S1 := S) rfl ?_
      obtain ⟨zv2, hzv2, h⟩ := ip_bind h
      refine ip_Ev.iald rfl hzv2 ?_
      refine ip_Ev.steps 5 (pc' := 77) (lv' := [some (.ref 0), some (.long ((31 * x1) + (Int32.toInt64 zv2))), none, some (.int (x3 + 1))]) (st' := []) (S1 := S) rfl ?_
      exact ih h
def f_A_digest_39 : Nat → Int64 → Int32 → ip_St → Option (Int64 × ip_St)
  | 0, _, _, _ => none
  | n + 1, x1, x3, S => (if 5 < x3 then ((f_A_bench S).bind fun zv3 => (f_A_digest_77 ip_FU ((31 * x1) + (Int32.toInt64 zv3)) 0 S)) else ((f_A_statute x3 S).bind fun zv5 => (f_A_digest_39 n ((31 * x1) + (Int32.toInt64 zv5)) (x3 + 1) S)))
set_option maxRecDepth 10000 in
theorem E_A_digest_39 : ∀ (n : Nat) {x1 : Int64} {x3 : Int32} {S : ip_St} {r : Int64} {S9 : ip_St}, f_A_digest_39 n x1 x3 S = some (r, S9) → ip_Ev 98 39 [some (.ref 0), some (.long x1), none, some (.int x3)] [] S (some (.long r)) S9 := by
  intro n
  induction n with
  | zero =>
    intro x1 x3 S r S9 h
    cases h
  | succ n ih =>
    intro x1 x3 S r S9 h
    rw [f_A_digest_39] at h
    refine ip_Ev.steps 2 (pc' := 41) (lv' := [some (.ref 0), some (.long x1), none, some (.int x3)]) (st' := [.int 5, .int x3]) (S1 := S) rfl ?_
    refine ip_Ev.iff2 rfl rfl ip_cGt (fun zhc1 => ?_) (fun zhc1 => ?_)
    · rw [if_pos zhc1] at h
      refine ip_Ev.steps 4 (pc' := 69) (lv' := [some (.ref 0), some (.long x1), none, some (.int x3)]) (st' := [.ref 0, .long (31 * x1)]) (S1 := S) rfl ?_
      obtain ⟨zv3, hzq2, h⟩ := ip_bind h
      refine ip_Ev.call (i := 81) (a := [.ref 0]) (r := [.long (31 * x1)]) rfl (T_A_bench hzq2) ?_
      show ip_Ev 98 72 [some (.ref 0), some (.long x1), none, some (.int x3)] [.int zv3, .long (31 * x1)] S _ _
      refine ip_Ev.steps 5 (pc' := 77) (lv' := [some (.ref 0), some (.long ((31 * x1) + (Int32.toInt64 zv3))), none, some (.int 0)]) (st' := []) (S1 := S) rfl ?_
      exact E_A_digest_77 ip_FU h
    · rw [if_neg zhc1] at h
      refine ip_Ev.steps 5 (pc' := 51) (lv' := [some (.ref 0), some (.long x1), none, some (.int x3)]) (st' := [.int x3, .ref 0, .long (31 * x1)]) (S1 := S) rfl ?_
      obtain ⟨zv5, hzq4, h⟩ := ip_bind h
      refine ip_Ev.call (i := 36) (a := [.ref 0, .int x3]) (r := [.long (31 * x1)]) rfl (T_A_statute hzq4) ?_
      show ip_Ev 98 54 [some (.ref 0), some (.long x1), none, some (.int x3)] [.int zv5, .long (31 * x1)] S _ _
      refine ip_Ev.steps 5 (pc' := 39) (lv' := [some (.ref 0), some (.long ((31 * x1) + (Int32.toInt64 zv5))), none, some (.int (x3 + 1))]) (st' := []) (S1 := S) rfl ?_
      exact ih h
def f_A_digest_6 : Nat → Int64 → Int32 → ip_St → Option (Int64 × ip_St)
  | 0, _, _, _ => none
  | n + 1, x1, x3, S => (if (S.1 12 1) ≤ x3 then (if (f_A_hasCourt S) = false then (f_A_digest_77 ip_FU x1 0 S) else (f_A_digest_39 ip_FU x1 0 S)) else ((f_A_withJudge x1 x3 S).bind fun zq3 => (f_A_digest_6 n zq3.1 (x3 + 1) zq3.2)))
set_option maxRecDepth 10000 in
theorem E_A_digest_6 : ∀ (n : Nat) {x1 : Int64} {x3 : Int32} {S : ip_St} {r : Int64} {S9 : ip_St}, f_A_digest_6 n x1 x3 S = some (r, S9) → ip_Ev 98 6 [some (.ref 0), some (.long x1), none, some (.int x3)] [] S (some (.long r)) S9 := by
  intro n
  induction n with
  | zero =>
    intro x1 x3 S r S9 h
    cases h
  | succ n ih =>
    intro x1 x3 S r S9 h
    rw [f_A_digest_6] at h
    refine ip_Ev.steps 4 (pc' := 14) (lv' := [some (.ref 0), some (.long x1), none, some (.int x3)]) (st' := [.int (S.1 12 1), .int x3]) (S1 := S) rfl ?_
    refine ip_Ev.iff2 rfl rfl ip_cGe (fun zhc1 => ?_) (fun zhc1 => ?_)
    · rw [if_pos zhc1] at h
      refine ip_Ev.steps 1 (pc' := 31) (lv' := [some (.ref 0), some (.long x1), none, some (.int x3)]) (st' := [.ref 0]) (S1 := S) rfl ?_
      refine ip_Ev.call (i := 30) (a := [.ref 0]) (r := []) rfl (T_A_hasCourt rfl) ?_
      show ip_Ev 98 34 [some (.ref 0), some (.long x1), none, some (.int x3)] [.int (ip_b2i (f_A_hasCourt S))] S _ _
      refine ip_Ev.iff1 rfl rfl ip_bEq (fun zhc2 => ?_) (fun zhc2 => ?_)
      · rw [if_pos zhc2] at h
        refine ip_Ev.steps 2 (pc' := 77) (lv' := [some (.ref 0), some (.long x1), none, some (.int 0)]) (st' := []) (S1 := S) rfl ?_
        exact E_A_digest_77 ip_FU h
      · rw [if_neg zhc2] at h
        refine ip_Ev.steps 2 (pc' := 39) (lv' := [some (.ref 0), some (.long x1), none, some (.int 0)]) (st' := []) (S1 := S) rfl ?_
        exact E_A_digest_39 ip_FU h
    · rw [if_neg zhc1] at h
      refine ip_Ev.steps 3 (pc' := 20) (lv' := [some (.ref 0), some (.long x1), none, some (.int x3)]) (st' := [.int x3, .long x1, .ref 0]) (S1 := S) rfl ?_
      obtain ⟨⟨zv4, zS5⟩, hzq3, h⟩ := ip_bind h
      dsimp only at h
      refine ip_Ev.call (i := 97) (a := [.ref 0, .long x1, .int x3]) (r := []) rfl (T_A_withJudge hzq3) ?_
      show ip_Ev 98 23 [some (.ref 0), some (.long x1), none, some (.int x3)] [.long zv4] zS5 _ _
      refine ip_Ev.steps 3 (pc' := 6) (lv' := [some (.ref 0), some (.long zv4), none, some (.int (x3 + 1))]) (st' := []) (S1 := zS5) rfl ?_
      exact ih h
def f_A_digest  (S : ip_St) : Option (Int64 × ip_St) := (f_A_digest_6 ip_FU 1103 0 S)
set_option maxRecDepth 10000 in
theorem T_A_digest  {S : ip_St} {r : Int64} {S9 : ip_St} (h : f_A_digest S = some (r, S9)) : ip_Me 98 [.ref 0] S (some (.long r)) S9 := by
  unfold f_A_digest at h
  refine ⟨[some (.ref 0), none, none, none], rfl, ?_⟩
  refine ip_Ev.steps 4 (pc' := 6) (lv' := [some (.ref 0), some (.long 1103), none, some (.int 0)]) (st' := []) (S1 := S) rfl ?_
  exact E_A_digest_6 ip_FU h
-- M_say
def f_M_say (p1 : Int64) (S : ip_St) : ip_St := (ip_upL S 30 43 ((31 * (S.2 30 43)) + p1))
set_option maxRecDepth 10000 in
theorem T_M_say {p1 : Int64} {S : ip_St} {S9 : ip_St} (h : f_M_say p1 S = S9) : ip_Me 186 [.ref 30, .long p1] S none S9 := by
  unfold f_M_say at h
  refine ⟨[some (.ref 30), some (.long p1), none], rfl, ?_⟩
  refine ip_Ev.steps 8 (pc' := 14) (lv' := [some (.ref 30), some (.long p1), none]) (st' := []) (S1 := (ip_upL S 30 43 ((31 * (S.2 30 43)) + p1))) rfl ?_
  cases h
  exact ip_Ev.ret rfl
-- M_sayJudge
def f_M_sayJudge_34 (k2 : Int32 → Int32 → ip_St → Option (ip_St)) (x1 : Int32) (x2 : Int32) (S : ip_St) : Option (ip_St) := ((f_M_tellJudge x1 x2 S).bind fun zq1 => (k2 x1 (x2 + 1) (f_M_say (Int32.toInt64 zq1.1) zq1.2)))
set_option maxRecDepth 10000 in
theorem E_M_sayJudge_34 {k2 : Int32 → Int32 → ip_St → Option (ip_St)} (hk2 : ∀ {x1 : Int32} {x2 : Int32} {S : ip_St} {S9 : ip_St}, k2 x1 x2 S = some S9 → ip_Ev 187 2 [some (.ref 30), some (.int x1), some (.int x2)] [] S none S9) {x1 : Int32} {x2 : Int32} {S : ip_St} {S9 : ip_St} (h : f_M_sayJudge_34 k2 x1 x2 S = some S9) : ip_Ev 187 34 [some (.ref 30), some (.int x1), some (.int x2)] [] S none S9 := by
  unfold f_M_sayJudge_34 at h
  refine ip_Ev.steps 4 (pc' := 38) (lv' := [some (.ref 30), some (.int x1), some (.int x2)]) (st' := [.int x2, .int x1, .ref 30, .ref 30]) (S1 := S) rfl ?_
  obtain ⟨⟨zv2, zS3⟩, hzq1, h⟩ := ip_bind h
  dsimp only at h
  refine ip_Ev.call (i := 153) (a := [.ref 30, .int x1, .int x2]) (r := [.ref 30]) rfl (T_M_tellJudge hzq1) ?_
  show ip_Ev 187 41 [some (.ref 30), some (.int x1), some (.int x2)] [.int zv2, .ref 30] zS3 _ _
  refine ip_Ev.steps 1 (pc' := 42) (lv' := [some (.ref 30), some (.int x1), some (.int x2)]) (st' := [.long (Int32.toInt64 zv2), .ref 30]) (S1 := zS3) rfl ?_
  refine ip_Ev.call (i := 186) (a := [.ref 30, .long (Int32.toInt64 zv2)]) (r := []) rfl (T_M_say rfl) ?_
  show ip_Ev 187 45 [some (.ref 30), some (.int x1), some (.int x2)] [] (f_M_say (Int32.toInt64 zv2) zS3) _ _
  refine ip_Ev.steps 2 (pc' := 2) (lv' := [some (.ref 30), some (.int x1), some (.int (x2 + 1))]) (st' := []) (S1 := (f_M_say (Int32.toInt64 zv2) zS3)) rfl ?_
  exact hk2 h
def f_M_sayJudge_2 : Nat → Int32 → Int32 → ip_St → Option (ip_St)
  | 0, _, _, _ => none
  | n + 1, x1, x2, S => (if 36 ≤ x2 then ((f_M_waysOf x1 S).bind fun zv3 => ((f_M_oddsOf x1 0 (f_M_say zv3 S)).bind fun zv5 => ((f_M_oddsOf x1 1 (f_M_say (Int32.toInt64 zv5) (f_M_say zv3 S))).bind fun zv7 => ((f_M_findOf x1 2 0 (f_M_say (Int32.toInt64 zv7) (f_M_say (Int32.toInt64 zv5) (f_M_say zv3 S)))).bind fun zv9 => ((f_M_findOf x1 2 1 (f_M_say (Int32.toInt64 zv9) (f_M_say (Int32.toInt64 zv7) (f_M_say (Int32.toInt64 zv5) (f_M_say zv3 S))))).bind fun zv11 => some (f_M_say (Int32.toInt64 zv11) (f_M_say (Int32.toInt64 zv9) (f_M_say (Int32.toInt64 zv7) (f_M_say (Int32.toInt64 zv5) (f_M_say zv3 S)))))))))) else (if x2 < 11 then (f_M_sayJudge_34 (f_M_sayJudge_2 n) x1 x2 S) else (if (f_M_in (Int32.toInt64 x2) 20 25) = true then (f_M_sayJudge_34 (f_M_sayJudge_2 n) x1 x2 S) else (if x2 ≤ 29 then (f_M_sayJudge_2 n x1 (x2 + 1) S) else (f_M_sayJudge_34 (f_M_sayJudge_2 n) x1 x2 S)))))
set_option maxRecDepth 10000 in
theorem E_M_sayJudge_2 : ∀ (n : Nat) {x1 : Int32} {x2 : Int32} {S : ip_St} {S9 : ip_St}, f_M_sayJudge_2 n x1 x2 S = some S9 → ip_Ev 187 2 [some (.ref 30), some (.int x1), some (.int x2)] [] S none S9 := by
  intro n
  induction n with
  | zero =>
    intro x1 x2 S S9 h
    cases h
  | succ n ih =>
    intro x1 x2 S S9 h
    rw [f_M_sayJudge_2] at h
    refine ip_Ev.steps 2 (pc' := 5) (lv' := [some (.ref 30), some (.int x1), some (.int x2)]) (st' := [.int 36, .int x2]) (S1 := S) rfl ?_
    refine ip_Ev.iff2 rfl rfl ip_cGe (fun zhc1 => ?_) (fun zhc1 => ?_)
    · rw [if_pos zhc1] at h
      refine ip_Ev.steps 3 (pc' := 54) (lv' := [some (.ref 30), some (.int x1), some (.int x2)]) (st' := [.int x1, .ref 30, .ref 30]) (S1 := S) rfl ?_
      obtain ⟨zv3, hzq2, h⟩ := ip_bind h
      refine ip_Ev.call (i := 138) (a := [.ref 30, .int x1]) (r := [.ref 30]) rfl (T_M_waysOf hzq2) ?_
      show ip_Ev 187 57 [some (.ref 30), some (.int x1), some (.int x2)] [.long zv3, .ref 30] S _ _
      refine ip_Ev.call (i := 186) (a := [.ref 30, .long zv3]) (r := []) rfl (T_M_say rfl) ?_
      show ip_Ev 187 60 [some (.ref 30), some (.int x1), some (.int x2)] [] (f_M_say zv3 S) _ _
      refine ip_Ev.steps 4 (pc' := 64) (lv' := [some (.ref 30), some (.int x1), some (.int x2)]) (st' := [.int 0, .int x1, .ref 30, .ref 30]) (S1 := (f_M_say zv3 S)) rfl ?_
      obtain ⟨zv5, hzq4, h⟩ := ip_bind h
      refine ip_Ev.call (i := 159) (a := [.ref 30, .int x1, .int 0]) (r := [.ref 30]) rfl (T_M_oddsOf hzq4) ?_
      show ip_Ev 187 67 [some (.ref 30), some (.int x1), some (.int x2)] [.int zv5, .ref 30] (f_M_say zv3 S) _ _
      refine ip_Ev.steps 1 (pc' := 68) (lv' := [some (.ref 30), some (.int x1), some (.int x2)]) (st' := [.long (Int32.toInt64 zv5), .ref 30]) (S1 := (f_M_say zv3 S)) rfl ?_
      refine ip_Ev.call (i := 186) (a := [.ref 30, .long (Int32.toInt64 zv5)]) (r := []) rfl (T_M_say rfl) ?_
      show ip_Ev 187 71 [some (.ref 30), some (.int x1), some (.int x2)] [] (f_M_say (Int32.toInt64 zv5) (f_M_say zv3 S)) _ _
      refine ip_Ev.steps 4 (pc' := 75) (lv' := [some (.ref 30), some (.int x1), some (.int x2)]) (st' := [.int 1, .int x1, .ref 30, .ref 30]) (S1 := (f_M_say (Int32.toInt64 zv5) (f_M_say zv3 S))) rfl ?_
      obtain ⟨zv7, hzq6, h⟩ := ip_bind h
      refine ip_Ev.call (i := 159) (a := [.ref 30, .int x1, .int 1]) (r := [.ref 30]) rfl (T_M_oddsOf hzq6) ?_
      show ip_Ev 187 78 [some (.ref 30), some (.int x1), some (.int x2)] [.int zv7, .ref 30] (f_M_say (Int32.toInt64 zv5) (f_M_say zv3 S)) _ _
      refine ip_Ev.steps 1 (pc' := 79) (lv' := [some (.ref 30), some (.int x1), some (.int x2)]) (st' := [.long (Int32.toInt64 zv7), .ref 30]) (S1 := (f_M_say (Int32.toInt64 zv5) (f_M_say zv3 S))) rfl ?_
      refine ip_Ev.call (i := 186) (a := [.ref 30, .long (Int32.toInt64 zv7)]) (r := []) rfl (T_M_say rfl) ?_
      show ip_Ev 187 82 [some (.ref 30), some (.int x1), some (.int x2)] [] (f_M_say (Int32.toInt64 zv7) (f_M_say (Int32.toInt64 zv5) (f_M_say zv3 S))) _ _
      refine ip_Ev.steps 5 (pc' := 87) (lv' := [some (.ref 30), some (.int x1), some (.int x2)]) (st' := [.int 0, .int 2, .int x1, .ref 30, .ref 30]) (S1 := (f_M_say (Int32.toInt64 zv7) (f_M_say (Int32.toInt64 zv5) (f_M_say zv3 S)))) rfl ?_
      obtain ⟨zv9, hzq8, h⟩ := ip_bind h
      refine ip_Ev.call (i := 168) (a := [.ref 30, .int x1, .int 2, .int 0]) (r := [.ref 30]) rfl (T_M_findOf hzq8) ?_
      show ip_Ev 187 90 [some (.ref 30), some (.int x1), some (.int x2)] [.int zv9, .ref 30] (f_M_say (Int32.toInt64 zv7) (f_M_say (Int32.toInt64 zv5) (f_M_say zv3 S))) _ _
      refine ip_Ev.steps 1 (pc' := 91) (lv' := [some (.ref 30), some (.int x1), some (.int x2)]) (st' := [.long (Int32.toInt64 zv9), .ref 30]) (S1 := (f_M_say (Int32.toInt64 zv7) (f_M_say (Int32.toInt64 zv5) (f_M_say zv3 S)))) rfl ?_
      refine ip_Ev.call (i := 186) (a := [.ref 30, .long (Int32.toInt64 zv9)]) (r := []) rfl (T_M_say rfl) ?_
      show ip_Ev 187 94 [some (.ref 30), some (.int x1), some (.int x2)] [] (f_M_say (Int32.toInt64 zv9) (f_M_say (Int32.toInt64 zv7) (f_M_say (Int32.toInt64 zv5) (f_M_say zv3 S)))) _ _
      refine ip_Ev.steps 5 (pc' := 99) (lv' := [some (.ref 30), some (.int x1), some (.int x2)]) (st' := [.int 1, .int 2, .int x1, .ref 30, .ref 30]) (S1 := (f_M_say (Int32.toInt64 zv9) (f_M_say (Int32.toInt64 zv7) (f_M_say (Int32.toInt64 zv5) (f_M_say zv3 S))))) rfl ?_
      obtain ⟨zv11, hzq10, h⟩ := ip_bind h
      refine ip_Ev.call (i := 168) (a := [.ref 30, .int x1, .int 2, .int 1]) (r := [.ref 30]) rfl (T_M_findOf hzq10) ?_
      show ip_Ev 187 102 [some (.ref 30), some (.int x1), some (.int x2)] [.int zv11, .ref 30] (f_M_say (Int32.toInt64 zv9) (f_M_say (Int32.toInt64 zv7) (f_M_say (Int32.toInt64 zv5) (f_M_say zv3 S)))) _ _
      refine ip_Ev.steps 1 (pc' := 103) (lv' := [some (.ref 30), some (.int x1), some (.int x2)]) (st' := [.long (Int32.toInt64 zv11), .ref 30]) (S1 := (f_M_say (Int32.toInt64 zv9) (f_M_say (Int32.toInt64 zv7) (f_M_say (Int32.toInt64 zv5) (f_M_say zv3 S))))) rfl ?_
      refine ip_Ev.call (i := 186) (a := [.ref 30, .long (Int32.toInt64 zv11)]) (r := []) rfl (T_M_say rfl) ?_
      show ip_Ev 187 106 [some (.ref 30), some (.int x1), some (.int x2)] [] (f_M_say (Int32.toInt64 zv11) (f_M_say (Int32.toInt64 zv9) (f_M_say (Int32.toInt64 zv7) (f_M_say (Int32.toInt64 zv5) (f_M_say zv3 S))))) _ _
      cases h
      exact ip_Ev.ret rfl
    · rw [if_neg zhc1] at h
      refine ip_Ev.steps 2 (pc' := 11) (lv' := [some (.ref 30), some (.int x1), some (.int x2)]) (st' := [.int 11, .int x2]) (S1 := S) rfl ?_
      refine ip_Ev.iff2 rfl rfl ip_cLt (fun zhc12 => ?_) (fun zhc12 => ?_)
      · rw [if_pos zhc12] at h
        exact E_M_sayJudge_34 ih h
      · rw [if_neg zhc12] at h
        refine ip_Ev.steps 4 (pc' := 22) (lv' := [some (.ref 30), some (.int x1), some (.int x2)]) (st' := [.long 25, .long 20, .long (Int32.toInt64 x2)]) (S1 := S) rfl ?_
        refine ip_Ev.call (i := 101) (a := [.long (Int32.toInt64 x2), .long 20, .long 25]) (r := []) rfl (T_M_in rfl) ?_
        show ip_Ev 187 25 [some (.ref 30), some (.int x1), some (.int x2)] [.int (ip_b2i (f_M_in (Int32.toInt64 x2) 20 25))] S _ _
        refine ip_Ev.iff1 rfl rfl ip_bNe (fun zhc13 => ?_) (fun zhc13 => ?_)
        · rw [if_pos zhc13] at h
          exact E_M_sayJudge_34 ih h
        · rw [if_neg zhc13] at h
          refine ip_Ev.steps 2 (pc' := 31) (lv' := [some (.ref 30), some (.int x1), some (.int x2)]) (st' := [.int 29, .int x2]) (S1 := S) rfl ?_
          refine ip_Ev.iff2 rfl rfl ip_cLe (fun zhc14 => ?_) (fun zhc14 => ?_)
          · rw [if_pos zhc14] at h
            refine ip_Ev.steps 2 (pc' := 2) (lv' := [some (.ref 30), some (.int x1), some (.int (x2 + 1))]) (st' := []) (S1 := S) rfl ?_
            exact ih h
          · rw [if_neg zhc14] at h
            exact E_M_sayJudge_34 ih h
def f_M_sayJudge (p1 : Int32) (S : ip_St) : Option (ip_St) := (f_M_sayJudge_2 ip_FU p1 0 S)
set_option maxRecDepth 10000 in
theorem T_M_sayJudge {p1 : Int32} {S : ip_St} {S9 : ip_St} (h : f_M_sayJudge p1 S = some S9) : ip_Me 187 [.ref 30, .int p1] S none S9 := by
  unfold f_M_sayJudge at h
  refine ⟨[some (.ref 30), some (.int p1), none], rfl, ?_⟩
  refine ip_Ev.steps 2 (pc' := 2) (lv' := [some (.ref 30), some (.int p1), some (.int 0)]) (st' := []) (S1 := S) rfl ?_
  exact E_M_sayJudge_2 ip_FU h
-- M_digest
def f_M_digest_97 : Nat → Int32 → ip_St → Option (Int64 × ip_St)
  | 0, _, _ => none
  | n + 1, x1, S => (if 12 ≤ x1 then some ((S.2 30 43), S) else ((f_M_countOf x1 S).bind fun zv3 => (f_M_digest_97 n (x1 + 1) (f_M_say (Int32.toInt64 zv3) S))))
set_option maxRecDepth 10000 in
theorem E_M_digest_97 : ∀ (n : Nat) {x1 : Int32} {S : ip_St} {r : Int64} {S9 : ip_St}, f_M_digest_97 n x1 S = some (r, S9) → ip_Ev 188 97 [some (.ref 30), some (.int x1)] [] S (some (.long r)) S9 := by
  intro n
  induction n with
  | zero =>
    intro x1 S r S9 h
    cases h
  | succ n ih =>
    intro x1 S r S9 h
    rw [f_M_digest_97] at h
    refine ip_Ev.steps 2 (pc' := 100) (lv' := [some (.ref 30), some (.int x1)]) (st' := [.int 12, .int x1]) (S1 := S) rfl ?_
    refine ip_Ev.iff2 rfl rfl ip_cGe (fun zhc1 => ?_) (fun zhc1 => ?_)
    · rw [if_pos zhc1] at h
      refine ip_Ev.steps 2 (pc' := 123) (lv' := [some (.ref 30), some (.int x1)]) (st' := [.long (S.2 30 43)]) (S1 := S) rfl ?_
      cases h
      exact ip_Ev.ret rfl
    · rw [if_neg zhc1] at h
      refine ip_Ev.steps 3 (pc' := 106) (lv' := [some (.ref 30), some (.int x1)]) (st' := [.int x1, .ref 30, .ref 30]) (S1 := S) rfl ?_
      obtain ⟨zv3, hzq2, h⟩ := ip_bind h
      refine ip_Ev.call (i := 184) (a := [.ref 30, .int x1]) (r := [.ref 30]) rfl (T_M_countOf hzq2) ?_
      show ip_Ev 188 109 [some (.ref 30), some (.int x1)] [.int zv3, .ref 30] S _ _
      refine ip_Ev.steps 1 (pc' := 110) (lv' := [some (.ref 30), some (.int x1)]) (st' := [.long (Int32.toInt64 zv3), .ref 30]) (S1 := S) rfl ?_
      refine ip_Ev.call (i := 186) (a := [.ref 30, .long (Int32.toInt64 zv3)]) (r := []) rfl (T_M_say rfl) ?_
      show ip_Ev 188 113 [some (.ref 30), some (.int x1)] [] (f_M_say (Int32.toInt64 zv3) S) _ _
      refine ip_Ev.steps 2 (pc' := 97) (lv' := [some (.ref 30), some (.int (x1 + 1))]) (st' := []) (S1 := (f_M_say (Int32.toInt64 zv3) S)) rfl ?_
      exact ih h
def f_M_digest_70 : Nat → Int32 → ip_St → Option (Int64 × ip_St)
  | 0, _, _ => none
  | n + 1, x1, S => (if (S.1 30 2) ≤ x1 then (f_M_digest_97 ip_FU 0 S) else ((ip_aI S 32 x1).bind fun zv2 => (f_M_digest_70 n (x1 + 1) (f_M_say (Int32.toInt64 zv2) S))))
set_option maxRecDepth 10000 in
theorem E_M_digest_70 : ∀ (n : Nat) {x1 : Int32} {S : ip_St} {r : Int64} {S9 : ip_St}, f_M_digest_70 n x1 S = some (r, S9) → ip_Ev 188 70 [some (.ref 30), some (.int x1)] [] S (some (.long r)) S9 := by
  intro n
  induction n with
  | zero =>
    intro x1 S r S9 h
    cases h
  | succ n ih =>
    intro x1 S r S9 h
    rw [f_M_digest_70] at h
    refine ip_Ev.steps 3 (pc' := 75) (lv' := [some (.ref 30), some (.int x1)]) (st' := [.int (S.1 30 2), .int x1]) (S1 := S) rfl ?_
    refine ip_Ev.iff2 rfl rfl ip_cGe (fun zhc1 => ?_) (fun zhc1 => ?_)
    · rw [if_pos zhc1] at h
      refine ip_Ev.steps 2 (pc' := 97) (lv' := [some (.ref 30), some (.int 0)]) (st' := []) (S1 := S) rfl ?_
      exact E_M_digest_97 ip_FU h
    · rw [if_neg zhc1] at h
      refine ip_Ev.steps 4 (pc' := 84) (lv' := [some (.ref 30), some (.int x1)]) (st' := [.int x1, .ref 32, .ref 30]) (S1 := S) rfl ?_
      obtain ⟨zv2, hzv2, h⟩ := ip_bind h
      refine ip_Ev.iald rfl hzv2 ?_
      refine ip_Ev.steps 1 (pc' := 86) (lv' := [some (.ref 30), some (.int x1)]) (st' := [.long (Int32.toInt64 zv2), .ref 30]) (S1 := S) rfl ?_
      refine ip_Ev.call (i := 186) (a := [.ref 30, .long (Int32.toInt64 zv2)]) (r := []) rfl (T_M_say rfl) ?_
      show ip_Ev 188 89 [some (.ref 30), some (.int x1)] [] (f_M_say (Int32.toInt64 zv2) S) _ _
      refine ip_Ev.steps 2 (pc' := 70) (lv' := [some (.ref 30), some (.int (x1 + 1))]) (st' := []) (S1 := (f_M_say (Int32.toInt64 zv2) S)) rfl ?_
      exact ih h
def f_M_digest_37 : Nat → Int32 → ip_St → Option (Int64 × ip_St)
  | 0, _, _ => none
  | n + 1, x1, S => (if 6 ≤ x1 then ((f_M_benchOf S).bind fun zq2 => (f_M_digest_70 ip_FU 0 (f_M_say (Int32.toInt64 zq2.1) zq2.2))) else ((f_M_tellLaw x1 S).bind fun zv6 => (f_M_digest_37 n (x1 + 1) (f_M_say (Int32.toInt64 zv6) S))))
set_option maxRecDepth 10000 in
theorem E_M_digest_37 : ∀ (n : Nat) {x1 : Int32} {S : ip_St} {r : Int64} {S9 : ip_St}, f_M_digest_37 n x1 S = some (r, S9) → ip_Ev 188 37 [some (.ref 30), some (.int x1)] [] S (some (.long r)) S9 := by
  intro n
  induction n with
  | zero =>
    intro x1 S r S9 h
    cases h
  | succ n ih =>
    intro x1 S r S9 h
    rw [f_M_digest_37] at h
    refine ip_Ev.steps 2 (pc' := 40) (lv' := [some (.ref 30), some (.int x1)]) (st' := [.int 6, .int x1]) (S1 := S) rfl ?_
    refine ip_Ev.iff2 rfl rfl ip_cGe (fun zhc1 => ?_) (fun zhc1 => ?_)
    · rw [if_pos zhc1] at h
      refine ip_Ev.steps 2 (pc' := 61) (lv' := [some (.ref 30), some (.int x1)]) (st' := [.ref 30, .ref 30]) (S1 := S) rfl ?_
      obtain ⟨⟨zv3, zS4⟩, hzq2, h⟩ := ip_bind h
      dsimp only at h
      refine ip_Ev.call (i := 170) (a := [.ref 30]) (r := [.ref 30]) rfl (T_M_benchOf hzq2) ?_
      show ip_Ev 188 64 [some (.ref 30), some (.int x1)] [.int zv3, .ref 30] zS4 _ _
      refine ip_Ev.steps 1 (pc' := 65) (lv' := [some (.ref 30), some (.int x1)]) (st' := [.long (Int32.toInt64 zv3), .ref 30]) (S1 := zS4) rfl ?_
      refine ip_Ev.call (i := 186) (a := [.ref 30, .long (Int32.toInt64 zv3)]) (r := []) rfl (T_M_say rfl) ?_
      show ip_Ev 188 68 [some (.ref 30), some (.int x1)] [] (f_M_say (Int32.toInt64 zv3) zS4) _ _
      refine ip_Ev.steps 2 (pc' := 70) (lv' := [some (.ref 30), some (.int 0)]) (st' := []) (S1 := (f_M_say (Int32.toInt64 zv3) zS4)) rfl ?_
      exact E_M_digest_70 ip_FU h
    · rw [if_neg zhc1] at h
      refine ip_Ev.steps 3 (pc' := 46) (lv' := [some (.ref 30), some (.int x1)]) (st' := [.int x1, .ref 30, .ref 30]) (S1 := S) rfl ?_
      obtain ⟨zv6, hzq5, h⟩ := ip_bind h
      refine ip_Ev.call (i := 132) (a := [.ref 30, .int x1]) (r := [.ref 30]) rfl (T_M_tellLaw hzq5) ?_
      show ip_Ev 188 49 [some (.ref 30), some (.int x1)] [.int zv6, .ref 30] S _ _
      refine ip_Ev.steps 1 (pc' := 50) (lv' := [some (.ref 30), some (.int x1)]) (st' := [.long (Int32.toInt64 zv6), .ref 30]) (S1 := S) rfl ?_
      refine ip_Ev.call (i := 186) (a := [.ref 30, .long (Int32.toInt64 zv6)]) (r := []) rfl (T_M_say rfl) ?_
      show ip_Ev 188 53 [some (.ref 30), some (.int x1)] [] (f_M_say (Int32.toInt64 zv6) S) _ _
      refine ip_Ev.steps 2 (pc' := 37) (lv' := [some (.ref 30), some (.int (x1 + 1))]) (st' := []) (S1 := (f_M_say (Int32.toInt64 zv6) S)) rfl ?_
      exact ih h
def f_M_digest_9 : Nat → Int32 → ip_St → Option (Int64 × ip_St)
  | 0, _, _ => none
  | n + 1, x1, S => (if (S.1 30 18) ≤ x1 then (if (f_M_lacks S) = true then (f_M_digest_70 ip_FU 0 S) else (f_M_digest_37 ip_FU 0 S)) else ((f_M_sayJudge x1 S).bind fun zS4 => (f_M_digest_9 n (x1 + 1) zS4)))
set_option maxRecDepth 10000 in
theorem E_M_digest_9 : ∀ (n : Nat) {x1 : Int32} {S : ip_St} {r : Int64} {S9 : ip_St}, f_M_digest_9 n x1 S = some (r, S9) → ip_Ev 188 9 [some (.ref 30), some (.int x1)] [] S (some (.long r)) S9 := by
  intro n
  induction n with
  | zero =>
    intro x1 S r S9 h
    cases h
  | succ n ih =>
    intro x1 S r S9 h
    rw [f_M_digest_9] at h
    refine ip_Ev.steps 3 (pc' := 14) (lv' := [some (.ref 30), some (.int x1)]) (st' := [.int (S.1 30 18), .int x1]) (S1 := S) rfl ?_
    refine ip_Ev.iff2 rfl rfl ip_cGe (fun zhc1 => ?_) (fun zhc1 => ?_)
    · rw [if_pos zhc1] at h
      refine ip_Ev.steps 1 (pc' := 29) (lv' := [some (.ref 30), some (.int x1)]) (st' := [.ref 30]) (S1 := S) rfl ?_
      refine ip_Ev.call (i := 126) (a := [.ref 30]) (r := []) rfl (T_M_lacks rfl) ?_
      show ip_Ev 188 32 [some (.ref 30), some (.int x1)] [.int (ip_b2i (f_M_lacks S))] S _ _
      refine ip_Ev.iff1 rfl rfl ip_bNe (fun zhc2 => ?_) (fun zhc2 => ?_)
      · rw [if_pos zhc2] at h
        refine ip_Ev.steps 2 (pc' := 70) (lv' := [some (.ref 30), some (.int 0)]) (st' := []) (S1 := S) rfl ?_
        exact E_M_digest_70 ip_FU h
      · rw [if_neg zhc2] at h
        refine ip_Ev.steps 2 (pc' := 37) (lv' := [some (.ref 30), some (.int 0)]) (st' := []) (S1 := S) rfl ?_
        exact E_M_digest_37 ip_FU h
    · rw [if_neg zhc1] at h
      refine ip_Ev.steps 2 (pc' := 19) (lv' := [some (.ref 30), some (.int x1)]) (st' := [.int x1, .ref 30]) (S1 := S) rfl ?_
      obtain ⟨zS4, hzq3, h⟩ := ip_bind h
      refine ip_Ev.call (i := 187) (a := [.ref 30, .int x1]) (r := []) rfl (T_M_sayJudge hzq3) ?_
      show ip_Ev 188 22 [some (.ref 30), some (.int x1)] [] zS4 _ _
      refine ip_Ev.steps 2 (pc' := 9) (lv' := [some (.ref 30), some (.int (x1 + 1))]) (st' := []) (S1 := zS4) rfl ?_
      exact ih h
def f_M_digest  (S : ip_St) : Option (Int64 × ip_St) := (f_M_digest_9 ip_FU 0 (ip_upL S 30 43 1103))
set_option maxRecDepth 10000 in
theorem T_M_digest  {S : ip_St} {r : Int64} {S9 : ip_St} (h : f_M_digest S = some (r, S9)) : ip_Me 188 [.ref 30] S (some (.long r)) S9 := by
  unfold f_M_digest at h
  refine ⟨[some (.ref 30), none], rfl, ?_⟩
  refine ip_Ev.steps 5 (pc' := 9) (lv' := [some (.ref 30), some (.int 0)]) (st' := []) (S1 := (ip_upL S 30 43 1103)) rfl ?_
  exact E_M_digest_9 ip_FU h
-- M_laidRow
def f_M_laidRow_5 : Nat → Int32 → Int32 → Int64 → Int32 → Option (Int64)
  | 0, _, _, _, _ => none
  | n + 1, x0, x1, x2, x4 => (if 64 ≤ x4 then some x2 else (if ((ip_ishr (f_M_saysBy x0 x4) x1) &&& 1) = 1 then (f_M_laidRow_5 n x0 x1 (x2 ||| (ip_lshl 1 x4)) (x4 + 1)) else (f_M_laidRow_5 n x0 x1 (x2 ||| 0) (x4 + 1))))
set_option maxRecDepth 10000 in
theorem E_M_laidRow_5 : ∀ (n : Nat) {x0 : Int32} {x1 : Int32} {x2 : Int64} {x4 : Int32} {S : ip_St} {r : Int64}, f_M_laidRow_5 n x0 x1 x2 x4 = some r → ip_Ev 100 5 [some (.int x0), some (.int x1), some (.long x2), none, some (.int x4)] [] S (some (.long r)) S := by
  intro n
  induction n with
  | zero =>
    intro x0 x1 x2 x4 S r h
    cases h
  | succ n ih =>
    intro x0 x1 x2 x4 S r h
    rw [f_M_laidRow_5] at h
    refine ip_Ev.steps 2 (pc' := 9) (lv' := [some (.int x0), some (.int x1), some (.long x2), none, some (.int x4)]) (st' := [.int 64, .int x4]) (S1 := S) rfl ?_
    refine ip_Ev.iff2 rfl rfl ip_cGe (fun zhc1 => ?_) (fun zhc1 => ?_)
    · rw [if_pos zhc1] at h
      refine ip_Ev.steps 1 (pc' := 44) (lv' := [some (.int x0), some (.int x1), some (.long x2), none, some (.int x4)]) (st' := [.long x2]) (S1 := S) rfl ?_
      cases h
      exact ip_Ev.ret rfl
    · rw [if_neg zhc1] at h
      refine ip_Ev.steps 3 (pc' := 16) (lv' := [some (.int x0), some (.int x1), some (.long x2), none, some (.int x4)]) (st' := [.int x4, .int x0, .long x2]) (S1 := S) rfl ?_
      refine ip_Ev.call (i := 99) (a := [.int x0, .int x4]) (r := [.long x2]) rfl (T_M_saysBy rfl) ?_
      show ip_Ev 100 19 [some (.int x0), some (.int x1), some (.long x2), none, some (.int x4)] [.int (f_M_saysBy x0 x4), .long x2] S _ _
      refine ip_Ev.steps 5 (pc' := 24) (lv' := [some (.int x0), some (.int x1), some (.long x2), none, some (.int x4)]) (st' := [.int 1, .int ((ip_ishr (f_M_saysBy x0 x4) x1) &&& 1), .long x2]) (S1 := S) rfl ?_
      refine ip_Ev.iff2 rfl rfl ip_cNe (fun zhc2 => ?_) (fun zhc2 => ?_)
      · rw [if_neg zhc2] at h
        refine ip_Ev.steps 5 (pc' := 5) (lv' := [some (.int x0), some (.int x1), some (.long (x2 ||| 0)), none, some (.int (x4 + 1))]) (st' := []) (S1 := S) rfl ?_
        exact ih h
      · rw [if_pos (Decidable.of_not_not zhc2)] at h
        refine ip_Ev.steps 8 (pc' := 5) (lv' := [some (.int x0), some (.int x1), some (.long (x2 ||| (ip_lshl 1 x4))), none, some (.int (x4 + 1))]) (st' := []) (S1 := S) rfl ?_
        exact ih h
def f_M_laidRow (p0 : Int32) (p1 : Int32) : Option (Int64) := (f_M_laidRow_5 ip_FU p0 p1 0 0)
set_option maxRecDepth 10000 in
theorem T_M_laidRow {p0 : Int32} {p1 : Int32} {S : ip_St} {r : Int64} (h : f_M_laidRow p0 p1 = some r) : ip_Me 100 [.int p0, .int p1] S (some (.long r)) S := by
  unfold f_M_laidRow at h
  refine ⟨[some (.int p0), some (.int p1), none, none, none], rfl, ?_⟩
  refine ip_Ev.steps 4 (pc' := 5) (lv' := [some (.int p0), some (.int p1), some (.long 0), none, some (.int 0)]) (st' := []) (S1 := S) rfl ?_
  exact E_M_laidRow_5 ip_FU h
