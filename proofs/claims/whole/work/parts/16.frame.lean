/-! ===== what a method leaves as it was ===== -/
def ip_isJ (c : Nat) : Bool := match ip_ob c with
  | some 1 => true
  | _ => false
def ip_wt (w : List (Nat × Nat)) (c k : Nat) : Bool := w.any (fun q => (Nat.beq q.1 c && (Nat.beq q.2 k || Nat.beq q.2 99)) || (Nat.beq q.1 100 && ip_isJ c))
def ip_wa (w : List (Nat × Nat)) (c : Nat) : Bool := w.any (fun q => Nat.beq q.1 c && Nat.beq q.2 99)
def ip_wj (w : List (Nat × Nat)) : Bool := w.any (fun q => Nat.beq q.1 100)
def ip_sub (w1 w2 : List (Nat × Nat)) : Bool := w1.all (fun q => w2.any (fun r => Nat.beq r.1 q.1 && (Nat.beq r.2 q.2 || Nat.beq r.2 99)))
def ip_Fr (w : List (Nat × Nat)) (S S1 : ip_St) : Prop := ∀ c k, ip_wt w c k = false → S1.1 c k = S.1 c k ∧ S1.2 c k = S.2 c k
theorem ip_Fr.rf {w : List (Nat × Nat)} {S : ip_St} : ip_Fr w S S := fun _ _ _ => ⟨rfl, rfl⟩
theorem ip_Fr.trans {w : List (Nat × Nat)} {S S1 S2 : ip_St} (h1 : ip_Fr w S S1) (h2 : ip_Fr w S1 S2) : ip_Fr w S S2 := fun c k h => ⟨(h2 c k h).1.trans (h1 c k h).1, (h2 c k h).2.trans (h1 c k h).2⟩
theorem ip_Fr.upI {w : List (Nat × Nat)} {S X : ip_St} {c k : Nat} {v : Int32} (hw : ip_wt w c k = true) (h : ip_Fr w S X) : ip_Fr w S (ip_upI X c k v) := by
  intro a b hab
  have h1 := h a b hab
  refine ⟨?_, h1.2⟩
  have hne : ¬ (a = c ∧ b = k) := fun q => by rw [q.1, q.2, hw] at hab; cases hab
  show (if a = c ∧ b = k then v else X.1 a b) = _
  rw [if_neg hne]
  exact h1.1
theorem ip_Fr.upL {w : List (Nat × Nat)} {S X : ip_St} {c k : Nat} {v : Int64} (hw : ip_wt w c k = true) (h : ip_Fr w S X) : ip_Fr w S (ip_upL X c k v) := by
  intro a b hab
  have h1 := h a b hab
  refine ⟨h1.1, ?_⟩
  have hne : ¬ (a = c ∧ b = k) := fun q => by rw [q.1, q.2, hw] at hab; cases hab
  show (if a = c ∧ b = k then v else X.2 a b) = _
  rw [if_neg hne]
  exact h1.2
theorem ip_wj_wt {w : List (Nat × Nat)} {c k : Nat} (ho : ip_ob c = some 1) (hw : ip_wj w = true) : ip_wt w c k = true := by
  unfold ip_wj at hw
  unfold ip_wt
  rw [List.any_eq_true] at hw ⊢
  obtain ⟨q, h1, h2⟩ := hw
  refine ⟨q, h1, ?_⟩
  have : ip_isJ c = true := by unfold ip_isJ; rw [ho]; rfl
  rw [h2, this]
  simp
theorem ip_Fr.upJ {w : List (Nat × Nat)} {S X : ip_St} {c k : Nat} {v : Int32} (ho : ip_ob c = some 1) (hw : ip_wj w = true) (h : ip_Fr w S X) : ip_Fr w S (ip_upI X c k v) := ip_Fr.upI (ip_wj_wt ho hw) h
theorem ip_wa_wt {w : List (Nat × Nat)} {c k : Nat} (hw : ip_wa w c = true) : ip_wt w c k = true := by
  unfold ip_wa at hw
  unfold ip_wt
  rw [List.any_eq_true] at hw ⊢
  obtain ⟨q, h1, h2⟩ := hw
  refine ⟨q, h1, ?_⟩
  simp only [Bool.and_eq_true] at h2
  rw [h2.1, h2.2]
  simp
theorem ip_Fr.wI {w : List (Nat × Nat)} {S X Y : ip_St} {c : Nat} {i v : Int32} (hx : ip_wI X c i v = some Y) (hw : ip_wa w c = true) (h : ip_Fr w S X) : ip_Fr w S Y := by
  unfold ip_wI at hx
  split at hx
  · rename_i n hq
    cases hin : ip_in i n with
    | false =>
      rw [hin] at hx
      cases hx
    | true =>
      rw [hin] at hx
      cases hx
      exact ip_Fr.upI (ip_wa_wt hw) h
  · cases hx
theorem ip_Fr.wZ {w : List (Nat × Nat)} {S X Y : ip_St} {c : Nat} {i v : Int32} (hx : ip_wZ X c i v = some Y) (hw : ip_wa w c = true) (h : ip_Fr w S X) : ip_Fr w S Y := by
  unfold ip_wZ at hx
  split at hx
  · rename_i n hq
    cases hin : ip_in i n with
    | false =>
      rw [hin] at hx
      cases hx
    | true =>
      rw [hin] at hx
      cases hx
      exact ip_Fr.upI (ip_wa_wt hw) h
  · cases hx
theorem ip_Fr.wL {w : List (Nat × Nat)} {S X Y : ip_St} {c : Nat} {i : Int32} {v : Int64} (hx : ip_wL X c i v = some Y) (hw : ip_wa w c = true) (h : ip_Fr w S X) : ip_Fr w S Y := by
  unfold ip_wL at hx
  split at hx
  · rename_i n hq
    cases hin : ip_in i n with
    | false =>
      rw [hin] at hx
      cases hx
    | true =>
      rw [hin] at hx
      cases hx
      exact ip_Fr.upL (ip_wa_wt hw) h
  · cases hx
theorem ip_Fr.mono {w1 w2 : List (Nat × Nat)} {S S1 : ip_St} (hs : ip_sub w1 w2 = true) (h : ip_Fr w1 S S1) : ip_Fr w2 S S1 := by
  intro c k hck
  refine h c k ?_
  cases h1 : ip_wt w1 c k with
  | false => rfl
  | true =>
    exfalso
    unfold ip_wt at h1 hck
    rw [List.any_eq_true] at h1
    obtain ⟨q, hq, hq2⟩ := h1
    have h2 := List.all_eq_true.mp hs q hq
    rw [List.any_eq_true] at h2
    obtain ⟨r, hr, hr2⟩ := h2
    have h3 := List.any_eq_false.mp hck r hr
    apply h3
    simp only [Bool.and_eq_true, Bool.or_eq_true, Nat.beq_eq] at hq2 hr2 ⊢
    obtain ⟨e1, e2⟩ := hr2
    rcases hq2 with ⟨g1, g2⟩ | ⟨g1, g2⟩
    · left
      refine ⟨by omega, ?_⟩
      omega
    · right
      exact ⟨by omega, g2⟩
def w_A_letter : List (Nat × Nat) := [(0, 1), (1, 99)]
theorem F_A_letter {p1 : Int32} {S : ip_St} {r : Int32} {S9 : ip_St} (h : f_A_letter p1 S = some (r, S9)) : ip_Fr w_A_letter S S9 := by
  unfold f_A_letter at h
  by_cases zhc1 : p1 < 1
  · rw [if_pos zhc1] at h
    cases h
    exact ip_Fr.rf
  · rw [if_neg zhc1] at h
    by_cases zhc2 : p1 ≤ 126
    · rw [if_pos zhc2] at h
      by_cases zhc3 : (S.1 0 1) < 56
      · rw [if_pos zhc3] at h
        obtain ⟨zS4, hzS4, h⟩ := ip_bind h
        have gzS4 : ip_Fr w_A_letter S zS4 := ip_Fr.wI hzS4 rfl ip_Fr.rf
        cases h
        exact (ip_Fr.upI rfl gzS4)
      · rw [if_neg zhc3] at h
        cases h
        exact ip_Fr.rf
    · rw [if_neg zhc2] at h
      cases h
      exact ip_Fr.rf
def w_M_letter : List (Nat × Nat) := [(30, 2), (32, 99)]
theorem F_M_letter {p1 : Int32} {S : ip_St} {r : Int32} {S9 : ip_St} (h : f_M_letter p1 S = some (r, S9)) : ip_Fr w_M_letter S S9 := by
  unfold f_M_letter at h
  by_cases zhc1 : (f_M_in (Int32.toInt64 p1) 1 126) = true
  · rw [if_pos zhc1] at h
    by_cases zhc2 : ¬ (S.1 30 2) = 56
    · rw [if_neg zhc2] at h
      obtain ⟨zS3, hzS3, h⟩ := ip_bind h
      have gzS3 : ip_Fr w_M_letter S zS3 := ip_Fr.wI hzS3 rfl ip_Fr.rf
      cases h
      exact (ip_Fr.upI rfl gzS3)
    · rw [if_pos (Decidable.of_not_not zhc2)] at h
      cases h
      exact ip_Fr.rf
  · rw [if_neg zhc1] at h
    cases h
    exact ip_Fr.rf
def w_A_blank : List (Nat × Nat) := [(0, 1)]
theorem F_A_blank  {S : ip_St} : ip_Fr w_A_blank S (f_A_blank S).2 := (ip_Fr.upI rfl ip_Fr.rf)
def w_M_blank : List (Nat × Nat) := [(30, 2)]
theorem F_M_blank  {S : ip_St} : ip_Fr w_M_blank S (f_M_blank S).2 := (ip_Fr.upI rfl ip_Fr.rf)
def w_L_clear_3 : List (Nat × Nat) := [(3, 0), (3, 1), (3, 2), (3, 3), (3, 4)]
theorem F_L_clear_3  {S : ip_St} : ip_Fr w_L_clear_3 S (f_L_clear_3 S) := (ip_Fr.upI rfl (ip_Fr.upI rfl (ip_Fr.upI rfl (ip_Fr.upI rfl (ip_Fr.upL rfl ip_Fr.rf)))))
def w_R_startTerm : List (Nat × Nat) := [(2, 10), (8, 99)]
theorem F_R_startTerm  {S : ip_St} {S9 : ip_St} (h : f_R_startTerm S = some S9) : ip_Fr w_R_startTerm S S9 := by
  unfold f_R_startTerm at h
  obtain ⟨zS1, hzS1, h⟩ := ip_bind h
  have gzS1 : ip_Fr w_R_startTerm S zS1 := ip_Fr.wL hzS1 rfl ip_Fr.rf
  cases h
  exact (ip_Fr.upI rfl gzS1)
def w_R_startLaw : List (Nat × Nat) := [(2, 10), (7, 99), (8, 99)]
theorem F_R_startLaw  {S : ip_St} {S9 : ip_St} (h : f_R_startLaw S = some S9) : ip_Fr w_R_startLaw S S9 := by
  unfold f_R_startLaw at h
  obtain ⟨zS1, hzS1, h⟩ := ip_bind h
  have gzS1 : ip_Fr w_R_startLaw S zS1 := ip_Fr.wL hzS1 rfl ip_Fr.rf
  obtain ⟨zS3, hzq2, h⟩ := ip_bind h
  have gzS3 : ip_Fr w_R_startLaw S zS3 := ip_Fr.trans gzS1 (ip_Fr.mono rfl (F_R_startTerm hzq2))
  cases h
  exact gzS3
def w_R_start : List (Nat × Nat) := [(2, 9), (2, 10), (2, 11), (2, 12), (3, 0), (3, 1), (3, 2), (3, 3), (3, 4), (4, 99), (6, 99), (7, 99), (8, 99)]
theorem F_R_start  {S : ip_St} {S9 : ip_St} (h : f_R_start S = some S9) : ip_Fr w_R_start S S9 := by
  unfold f_R_start at h
  obtain ⟨zS1, hzS1, h⟩ := ip_bind h
  have gzS1 : ip_Fr w_R_start S zS1 := ip_Fr.wI hzS1 rfl (ip_Fr.upI rfl (ip_Fr.trans ip_Fr.rf (ip_Fr.mono rfl (F_L_clear_3))))
  obtain ⟨zS2, hzS2, h⟩ := ip_bind h
  have gzS2 : ip_Fr w_R_start S zS2 := ip_Fr.wZ hzS2 rfl gzS1
  obtain ⟨zS4, hzq3, h⟩ := ip_bind h
  have gzS4 : ip_Fr w_R_start S zS4 := ip_Fr.trans gzS2 (ip_Fr.mono rfl (F_R_startLaw hzq3))
  cases h
  exact (ip_Fr.upI rfl (ip_Fr.upI rfl gzS4))
def w_R_openLevel : List (Nat × Nat) := [(2, 9), (2, 10), (2, 11), (2, 12), (3, 4), (4, 99), (5, 99), (6, 99), (7, 99), (8, 99), (9, 99), (10, 99), (11, 99)]
theorem F_R_openLevel {p1 : Int32} {S : ip_St} {r : Bool} {S9 : ip_St} (h : f_R_openLevel p1 S = some (r, S9)) : ip_Fr w_R_openLevel S S9 := by
  unfold f_R_openLevel at h
  by_cases zhc1 : ((S.1 2 9) + 1) < 57
  · rw [if_pos zhc1] at h
    obtain ⟨zS2, hzS2, h⟩ := ip_bind h
    have gzS2 : ip_Fr w_R_openLevel S zS2 := ip_Fr.wI hzS2 rfl (ip_Fr.upI rfl (ip_Fr.upI rfl ip_Fr.rf))
    obtain ⟨zS3, hzS3, h⟩ := ip_bind h
    have gzS3 : ip_Fr w_R_openLevel S zS3 := ip_Fr.wI hzS3 rfl gzS2
    obtain ⟨zS4, hzS4, h⟩ := ip_bind h
    have gzS4 : ip_Fr w_R_openLevel S zS4 := ip_Fr.wZ hzS4 rfl gzS3
    obtain ⟨zS5, hzS5, h⟩ := ip_bind h
    have gzS5 : ip_Fr w_R_openLevel S zS5 := ip_Fr.wL hzS5 rfl gzS4
    obtain ⟨zS6, hzS6, h⟩ := ip_bind h
    have gzS6 : ip_Fr w_R_openLevel S zS6 := ip_Fr.wL hzS6 rfl gzS5
    obtain ⟨zS7, hzS7, h⟩ := ip_bind h
    have gzS7 : ip_Fr w_R_openLevel S zS7 := ip_Fr.wL hzS7 rfl gzS6
    obtain ⟨zS9, hzq8, h⟩ := ip_bind h
    have gzS9 : ip_Fr w_R_openLevel S zS9 := ip_Fr.trans (ip_Fr.upI rfl (ip_Fr.upI rfl gzS7)) (ip_Fr.mono rfl (F_R_startLaw hzq8))
    cases h
    exact gzS9
  · rw [if_neg zhc1] at h
    cases h
    exact ip_Fr.rf
def w_R_endPart : List (Nat × Nat) := [(2, 10), (2, 11), (8, 99)]
theorem F_R_endPart_26 {s1 : Int32} {s2 : Int64} {s3 : Int64} {S : ip_St} {S9 : ip_St} (h : f_R_endPart_26 s1 s2 s3 S = some S9) : ip_Fr w_R_endPart S S9 := by
  unfold f_R_endPart_26 at h
  obtain ⟨zS1, hzS1, h⟩ := ip_bind h
  have gzS1 : ip_Fr w_R_endPart S zS1 := ip_Fr.wL hzS1 rfl ip_Fr.rf
  cases h
  exact (ip_Fr.upI rfl (ip_Fr.upI rfl gzS1))
theorem F_R_endPart {p1 : Int64} {S : ip_St} {S9 : ip_St} (h : f_R_endPart p1 S = some S9) : ip_Fr w_R_endPart S S9 := by
  unfold f_R_endPart at h
  obtain ⟨zv1, hzv1, h⟩ := ip_bind h
  by_cases zhc2 : (S.1 2 11) = 0
  · rw [if_pos zhc2] at h
    exact ip_Fr.trans ip_Fr.rf (F_R_endPart_26 h)
  · rw [if_neg zhc2] at h
    exact ip_Fr.trans ip_Fr.rf (F_R_endPart_26 h)
def w_R_acceptInPart : List (Nat × Nat) := [(2, 9), (2, 10), (2, 11), (2, 12), (3, 1), (3, 2), (3, 3), (3, 4), (4, 99), (5, 99), (6, 99), (7, 99), (8, 99), (9, 99), (10, 99), (11, 99)]
theorem F_R_acceptInPart_111 {x1 : Int32} {S : ip_St} {r : Bool} {S9 : ip_St} (h : f_R_acceptInPart_111 x1 S = some (r, S9)) : ip_Fr w_R_acceptInPart S S9 := by
  unfold f_R_acceptInPart_111 at h
  by_cases zhc1 : ¬ x1 = 40
  · rw [if_neg zhc1] at h
    cases h
    exact ip_Fr.rf
  · rw [if_pos (Decidable.of_not_not zhc1)] at h
    obtain ⟨⟨zv3, zS4⟩, hzq2, h⟩ := ip_bind h
    dsimp only at h
    have gzS4 : ip_Fr w_R_acceptInPart S zS4 := ip_Fr.trans ip_Fr.rf (ip_Fr.mono rfl (F_R_openLevel hzq2))
    by_cases zhc5 : zv3 = false
    · rw [if_pos zhc5] at h
      cases h
      exact gzS4
    · rw [if_neg zhc5] at h
      cases h
      exact gzS4
theorem F_R_acceptInPart_71 {s1 : Int32} {S : ip_St} {r : Bool} {S9 : ip_St} (h : f_R_acceptInPart_71 s1 S = some (r, S9)) : ip_Fr w_R_acceptInPart S S9 := by
  unfold f_R_acceptInPart_71 at h
  have zhb1 : ip_isB s1 = true := by
    cases hz : ip_isB s1 with
    | true => rfl
    | false => rw [hz] at h; cases h
  rw [zhb1] at h
  dsimp only [cond] at h
  cases h
  exact (ip_Fr.upI rfl ip_Fr.rf)
theorem F_R_acceptInPart_39 {x1 : Int32} {S : ip_St} {r : Bool} {S9 : ip_St} (h : f_R_acceptInPart_39 x1 S = some (r, S9)) : ip_Fr w_R_acceptInPart S S9 := by
  unfold f_R_acceptInPart_39 at h
  by_cases zhc1 : ¬ x1 = 33
  · rw [if_neg zhc1] at h
    by_cases zhc2 : x1 < 49
    · rw [if_pos zhc2] at h
      exact ip_Fr.trans ip_Fr.rf (F_R_acceptInPart_111 h)
    · rw [if_neg zhc2] at h
      by_cases zhc3 : 51 < x1
      · rw [if_pos zhc3] at h
        exact ip_Fr.trans ip_Fr.rf (F_R_acceptInPart_111 h)
      · rw [if_neg zhc3] at h
        cases h
        exact (ip_Fr.upI rfl (ip_Fr.upI rfl ip_Fr.rf))
  · rw [if_pos (Decidable.of_not_not zhc1)] at h
    by_cases zhc4 : ¬ ((ip_upI S 3 2 ((S.1 3 2) + 1)).1 2 11) = 0
    · rw [if_neg zhc4] at h
      exact ip_Fr.trans (ip_Fr.upI rfl ip_Fr.rf) (F_R_acceptInPart_71 h)
    · rw [if_pos (Decidable.of_not_not zhc4)] at h
      exact ip_Fr.trans (ip_Fr.upI rfl ip_Fr.rf) (F_R_acceptInPart_71 h)
theorem F_R_acceptInPart {p1 : Int32} {S : ip_St} {r : Bool} {S9 : ip_St} (h : f_R_acceptInPart p1 S = some (r, S9)) : ip_Fr w_R_acceptInPart S S9 := by
  unfold f_R_acceptInPart at h
  by_cases zhc1 : p1 < 97
  · rw [if_pos zhc1] at h
    exact ip_Fr.trans ip_Fr.rf (F_R_acceptInPart_39 h)
  · rw [if_neg zhc1] at h
    by_cases zhc2 : 102 < p1
    · rw [if_pos zhc2] at h
      exact ip_Fr.trans ip_Fr.rf (F_R_acceptInPart_39 h)
    · rw [if_neg zhc2] at h
      obtain ⟨zv3, hzv3, h⟩ := ip_bind h
      obtain ⟨zS5, hzq4, h⟩ := ip_bind h
      have gzS5 : ip_Fr w_R_acceptInPart S zS5 := ip_Fr.trans (ip_Fr.upI rfl ip_Fr.rf) (ip_Fr.mono rfl (F_R_endPart hzq4))
      cases h
      exact gzS5
def w_R_endLawOfList : List (Nat × Nat) := [(2, 10), (7, 99), (8, 99), (9, 99), (10, 99), (11, 99)]
theorem F_R_endLawOfList  {S : ip_St} {r : Bool} {S9 : ip_St} (h : f_R_endLawOfList S = some (r, S9)) : ip_Fr w_R_endLawOfList S S9 := by
  unfold f_R_endLawOfList at h
  obtain ⟨zv2, hzq1, h⟩ := ip_bind h
  obtain ⟨zv3, hzv3, h⟩ := ip_bind h
  obtain ⟨zv4, hzv4, h⟩ := ip_bind h
  obtain ⟨zS5, hzS5, h⟩ := ip_bind h
  have gzS5 : ip_Fr w_R_endLawOfList S zS5 := ip_Fr.wL hzS5 rfl ip_Fr.rf
  obtain ⟨zv6, hzv6, h⟩ := ip_bind h
  obtain ⟨zv7, hzv7, h⟩ := ip_bind h
  obtain ⟨zS8, hzS8, h⟩ := ip_bind h
  have gzS8 : ip_Fr w_R_endLawOfList S zS8 := ip_Fr.wL hzS8 rfl gzS5
  obtain ⟨zv9, hzv9, h⟩ := ip_bind h
  obtain ⟨zS10, hzS10, h⟩ := ip_bind h
  have gzS10 : ip_Fr w_R_endLawOfList S zS10 := ip_Fr.wL hzS10 rfl gzS8
  obtain ⟨zS12, hzq11, h⟩ := ip_bind h
  have gzS12 : ip_Fr w_R_endLawOfList S zS12 := ip_Fr.trans gzS10 (ip_Fr.mono rfl (F_R_startLaw hzq11))
  cases h
  exact gzS12
def w_R_closeLevel : List (Nat × Nat) := [(2, 9), (2, 10), (2, 11), (8, 99)]
theorem F_R_closeLevel {p1 : Int64} {S : ip_St} {r : Bool} {S9 : ip_St} (h : f_R_closeLevel p1 S = some (r, S9)) : ip_Fr w_R_closeLevel S S9 := by
  unfold f_R_closeLevel at h
  by_cases zhc1 : 0 < (S.1 2 9)
  · rw [if_pos zhc1] at h
    obtain ⟨zv2, hzv2, h⟩ := ip_bind h
    have zhb3 : ip_isB zv2 = true := by
      cases hz : ip_isB zv2 with
      | true => rfl
      | false => rw [hz] at h; cases h
    rw [zhb3] at h
    dsimp only [cond] at h
    obtain ⟨zS5, hzq4, h⟩ := ip_bind h
    have gzS5 : ip_Fr w_R_closeLevel S zS5 := ip_Fr.trans (ip_Fr.upI rfl (ip_Fr.upI rfl ip_Fr.rf)) (ip_Fr.mono rfl (F_R_endPart hzq4))
    cases h
    exact gzS5
  · rw [if_neg zhc1] at h
    cases h
    exact ip_Fr.rf
def w_R_acceptBehindPart : List (Nat × Nat) := [(2, 9), (2, 10), (2, 11), (7, 99), (8, 99), (9, 99), (10, 99), (11, 99)]
theorem F_R_acceptBehindPart {p1 : Int32} {S : ip_St} {r : Bool} {S9 : ip_St} (h : f_R_acceptBehindPart p1 S = some (r, S9)) : ip_Fr w_R_acceptBehindPart S S9 := by
  unfold f_R_acceptBehindPart at h
  by_cases zhs1_0 : p1 = 38
  · rw [if_pos zhs1_0] at h
    cases h
    exact (ip_Fr.upI rfl ip_Fr.rf)
  rw [if_neg zhs1_0] at h
  by_cases zhs1_1 : p1 = 41
  · rw [if_pos zhs1_1] at h
    obtain ⟨zv2, hzv2, h⟩ := ip_bind h
    by_cases zhc3 : ¬ zv2 = 1
    · rw [if_neg zhc3] at h
      cases h
      exact ip_Fr.rf
    · rw [if_pos (Decidable.of_not_not zhc3)] at h
      obtain ⟨zv5, hzq4, h⟩ := ip_bind h
      obtain ⟨⟨zv7, zS8⟩, hzq6, h⟩ := ip_bind h
      dsimp only at h
      have gzS8 : ip_Fr w_R_acceptBehindPart S zS8 := ip_Fr.trans ip_Fr.rf (ip_Fr.mono rfl (F_R_closeLevel hzq6))
      by_cases zhc9 : zv7 = false
      · rw [if_pos zhc9] at h
        cases h
        exact gzS8
      · rw [if_neg zhc9] at h
        cases h
        exact gzS8
  rw [if_neg zhs1_1] at h
  by_cases zhs1_2 : p1 = 44
  · rw [if_pos zhs1_2] at h
    obtain ⟨zv10, hzv10, h⟩ := ip_bind h
    by_cases zhc11 : ¬ zv10 = 2
    · rw [if_neg zhc11] at h
      cases h
      exact ip_Fr.rf
    · rw [if_pos (Decidable.of_not_not zhc11)] at h
      obtain ⟨⟨zv13, zS14⟩, hzq12, h⟩ := ip_bind h
      dsimp only at h
      have gzS14 : ip_Fr w_R_acceptBehindPart S zS14 := ip_Fr.trans ip_Fr.rf (ip_Fr.mono rfl (F_R_endLawOfList hzq12))
      by_cases zhc15 : zv13 = false
      · rw [if_pos zhc15] at h
        cases h
        exact gzS14
      · rw [if_neg zhc15] at h
        cases h
        exact gzS14
  rw [if_neg zhs1_2] at h
  by_cases zhs1_3 : p1 = 93
  · rw [if_pos zhs1_3] at h
    obtain ⟨zv16, hzv16, h⟩ := ip_bind h
    by_cases zhc17 : ¬ zv16 = 2
    · rw [if_neg zhc17] at h
      cases h
      exact ip_Fr.rf
    · rw [if_pos (Decidable.of_not_not zhc17)] at h
      obtain ⟨⟨zv19, zS20⟩, hzq18, h⟩ := ip_bind h
      dsimp only at h
      have gzS20 : ip_Fr w_R_acceptBehindPart S zS20 := ip_Fr.trans ip_Fr.rf (ip_Fr.mono rfl (F_R_endLawOfList hzq18))
      by_cases zhc21 : zv19 = false
      · rw [if_pos zhc21] at h
        cases h
        exact gzS20
      · rw [if_neg zhc21] at h
        obtain ⟨zv23, hzq22, h⟩ := ip_bind h
        obtain ⟨⟨zv25, zS26⟩, hzq24, h⟩ := ip_bind h
        dsimp only at h
        have gzS26 : ip_Fr w_R_acceptBehindPart S zS26 := ip_Fr.trans gzS20 (ip_Fr.mono rfl (F_R_closeLevel hzq24))
        by_cases zhc27 : zv25 = false
        · rw [if_pos zhc27] at h
          cases h
          exact gzS26
        · rw [if_neg zhc27] at h
          cases h
          exact gzS26
  rw [if_neg zhs1_3] at h
  by_cases zhs1_4 : p1 = 124
  · rw [if_pos zhs1_4] at h
    obtain ⟨zv28, hzv28, h⟩ := ip_bind h
    obtain ⟨zv29, hzv29, h⟩ := ip_bind h
    obtain ⟨zS30, hzS30, h⟩ := ip_bind h
    have gzS30 : ip_Fr w_R_acceptBehindPart S zS30 := ip_Fr.wL hzS30 rfl ip_Fr.rf
    obtain ⟨zS32, hzq31, h⟩ := ip_bind h
    have gzS32 : ip_Fr w_R_acceptBehindPart S zS32 := ip_Fr.trans gzS30 (ip_Fr.mono rfl (F_R_startTerm hzq31))
    cases h
    exact gzS32
  rw [if_neg zhs1_4] at h
  cases h
  exact ip_Fr.rf
def w_R_accept : List (Nat × Nat) := [(2, 9), (2, 10), (2, 11), (2, 12), (3, 1), (3, 2), (3, 3), (3, 4), (4, 99), (5, 99), (6, 99), (7, 99), (8, 99), (9, 99), (10, 99), (11, 99)]
theorem F_R_accept {p1 : Int32} {S : ip_St} {r : Bool} {S9 : ip_St} (h : f_R_accept p1 S = some (r, S9)) : ip_Fr w_R_accept S S9 := by
  unfold f_R_accept at h
  by_cases zhc1 : (S.1 2 12) = 0
  · rw [if_pos zhc1] at h
    by_cases zhc2 : (S.1 2 10) = 0
    · rw [if_pos zhc2] at h
      obtain ⟨⟨zv4, zS5⟩, hzq3, h⟩ := ip_bind h
      dsimp only at h
      have gzS5 : ip_Fr w_R_accept S zS5 := ip_Fr.trans ip_Fr.rf (ip_Fr.mono rfl (F_R_acceptBehindPart hzq3))
      cases h
      exact gzS5
    · rw [if_neg zhc2] at h
      obtain ⟨⟨zv7, zS8⟩, hzq6, h⟩ := ip_bind h
      dsimp only at h
      have gzS8 : ip_Fr w_R_accept S zS8 := ip_Fr.trans ip_Fr.rf (ip_Fr.mono rfl (F_R_acceptInPart hzq6))
      cases h
      exact gzS8
  · rw [if_neg zhc1] at h
    by_cases zhc9 : ¬ p1 = 91
    · rw [if_neg zhc9] at h
      cases h
      exact ip_Fr.rf
    · rw [if_pos (Decidable.of_not_not zhc9)] at h
      obtain ⟨⟨zv11, zS12⟩, hzq10, h⟩ := ip_bind h
      dsimp only at h
      have gzS12 : ip_Fr w_R_accept S zS12 := ip_Fr.trans ip_Fr.rf (ip_Fr.mono rfl (F_R_openLevel hzq10))
      by_cases zhc13 : zv11 = false
      · rw [if_pos zhc13] at h
        cases h
        exact gzS12
      · rw [if_neg zhc13] at h
        cases h
        exact gzS12
def w_A_scanLaw : List (Nat × Nat) := [(2, 9), (2, 10), (2, 11), (2, 12), (3, 0), (3, 1), (3, 2), (3, 3), (3, 4), (4, 99), (5, 99), (6, 99), (7, 99), (8, 99), (9, 99), (10, 99), (11, 99)]
theorem F_A_scanLaw_9 : ∀ (n : Nat) {x2 : Int32} {S : ip_St} {r : Int32} {S9 : ip_St}, f_A_scanLaw_9 n x2 S = some (r, S9) → ip_Fr w_A_scanLaw S S9 := by
  intro n
  induction n with
  | zero =>
    intro x2 S r S9 h
    cases h
  | succ n ih =>
    intro x2 S r S9 h
    rw [f_A_scanLaw_9] at h
    by_cases zhc1 : (S.1 0 1) ≤ x2
    · rw [if_pos zhc1] at h
      cases h
      exact ip_Fr.rf
    · rw [if_neg zhc1] at h
      obtain ⟨zv2, hzv2, h⟩ := ip_bind h
      obtain ⟨⟨zv4, zS5⟩, hzq3, h⟩ := ip_bind h
      dsimp only at h
      have gzS5 : ip_Fr w_A_scanLaw S zS5 := ip_Fr.trans ip_Fr.rf (ip_Fr.mono rfl (F_R_accept hzq3))
      by_cases zhc6 : zv4 = true
      · rw [if_pos zhc6] at h
        exact ip_Fr.trans gzS5 (ih h)
      · rw [if_neg zhc6] at h
        cases h
        exact gzS5
theorem F_A_scanLaw {p1 : Int32} {S : ip_St} {r : Int32} {S9 : ip_St} (h : f_A_scanLaw p1 S = some (r, S9)) : ip_Fr w_A_scanLaw S S9 := by
  unfold f_A_scanLaw at h
  obtain ⟨zS2, hzq1, h⟩ := ip_bind h
  have gzS2 : ip_Fr w_A_scanLaw S zS2 := ip_Fr.trans ip_Fr.rf (ip_Fr.mono rfl (F_R_start hzq1))
  exact ip_Fr.trans gzS2 (F_A_scanLaw_9 ip_FU h)
def w_A_scanCourt : List (Nat × Nat) := [(0, 3), (2, 9), (2, 10), (2, 11), (2, 12), (3, 0), (3, 1), (3, 2), (3, 3), (3, 4), (4, 99), (5, 99), (6, 99), (7, 99), (8, 99), (9, 99), (10, 99), (11, 99)]
theorem F_A_scanCourt_60 {k14 : Int32 → ip_St → Option (Int32 × ip_St)} (hk14 : ∀ {x1 : Int32} {S : ip_St} {r : Int32} {S9 : ip_St}, k14 x1 S = some (r, S9) → ip_Fr w_A_scanCourt S S9) {x1 : Int32} {S : ip_St} {r : Int32} {S9 : ip_St} (h : f_A_scanCourt_60 k14 x1 S = some (r, S9)) : ip_Fr w_A_scanCourt S S9 := by
  unfold f_A_scanCourt_60 at h
  obtain ⟨zv2, hzq1, h⟩ := ip_bind h
  by_cases zhc3 : zv2 = true
  · rw [if_pos zhc3] at h
    exact ip_Fr.trans ip_Fr.rf (hk14 h)
  · rw [if_neg zhc3] at h
    cases h
    exact ip_Fr.rf
theorem F_A_scanCourt_14 : ∀ (n : Nat) {x1 : Int32} {S : ip_St} {r : Int32} {S9 : ip_St}, f_A_scanCourt_14 n x1 S = some (r, S9) → ip_Fr w_A_scanCourt S S9 := by
  intro n
  induction n with
  | zero =>
    intro x1 S r S9 h
    cases h
  | succ n ih =>
    intro x1 S r S9 h
    rw [f_A_scanCourt_14] at h
    by_cases zhc1 : (S.1 0 1) ≤ x1
    · rw [if_pos zhc1] at h
      cases h
      exact ip_Fr.rf
    · rw [if_neg zhc1] at h
      by_cases zhc2 : ¬ (ip_irem x1 8) = 7
      · rw [if_neg zhc2] at h
        exact ip_Fr.trans ip_Fr.rf (F_A_scanCourt_60 ih h)
      · rw [if_pos (Decidable.of_not_not zhc2)] at h
        obtain ⟨zv3, hzv3, h⟩ := ip_bind h
        by_cases zhc4 : ¬ zv3 = 59
        · rw [if_neg zhc4] at h
          exact ip_Fr.trans ip_Fr.rf (F_A_scanCourt_60 ih h)
        · rw [if_pos (Decidable.of_not_not zhc4)] at h
          obtain ⟨⟨zv6, zS7⟩, hzq5, h⟩ := ip_bind h
          dsimp only at h
          have gzS7 : ip_Fr w_A_scanCourt S zS7 := ip_Fr.trans (ip_Fr.upI rfl ip_Fr.rf) (ip_Fr.mono rfl (F_A_scanLaw hzq5))
          cases h
          exact gzS7
theorem F_A_scanCourt  {S : ip_St} {r : Int32} {S9 : ip_St} (h : f_A_scanCourt S = some (r, S9)) : ip_Fr w_A_scanCourt S S9 := by
  unfold f_A_scanCourt at h
  obtain ⟨zS2, hzq1, h⟩ := ip_bind h
  have gzS2 : ip_Fr w_A_scanCourt S zS2 := ip_Fr.trans (ip_Fr.upI rfl ip_Fr.rf) (ip_Fr.mono rfl (F_R_start hzq1))
  exact ip_Fr.trans gzS2 (F_A_scanCourt_14 ip_FU h)
def w_A_fault : List (Nat × Nat) := [(0, 3), (2, 9), (2, 10), (2, 11), (2, 12), (3, 0), (3, 1), (3, 2), (3, 3), (3, 4), (4, 99), (5, 99), (6, 99), (7, 99), (8, 99), (9, 99), (10, 99), (11, 99)]
theorem F_A_fault  {S : ip_St} {r : Int32} {S9 : ip_St} (h : f_A_fault S = some (r, S9)) : ip_Fr w_A_fault S S9 := by
  unfold f_A_fault at h
  obtain ⟨⟨zv2, zS3⟩, hzq1, h⟩ := ip_bind h
  dsimp only at h
  have gzS3 : ip_Fr w_A_fault S zS3 := ip_Fr.trans ip_Fr.rf (ip_Fr.mono rfl (F_A_scanCourt hzq1))
  cases h
  exact gzS3
def w_M_opens : List (Nat × Nat) := [(30, 4), (30, 5), (33, 99)]
theorem F_M_opens {p1 : Int32} {S : ip_St} {r : Bool} {S9 : ip_St} (h : f_M_opens p1 S = some (r, S9)) : ip_Fr w_M_opens S S9 := by
  unfold f_M_opens at h
  obtain ⟨zS1, hzS1, h⟩ := ip_bind h
  have gzS1 : ip_Fr w_M_opens S zS1 := ip_Fr.wI hzS1 rfl ip_Fr.rf
  cases h
  exact (ip_Fr.upI rfl (ip_Fr.upI rfl gzS1))
def w_M_goBehindPart : List (Nat × Nat) := [(30, 4), (30, 5)]
theorem F_M_goBehindPart_64  {S : ip_St} {r : Bool} {S9 : ip_St} (h : f_M_goBehindPart_64 S = some (r, S9)) : ip_Fr w_M_goBehindPart S S9 := by
  unfold f_M_goBehindPart_64 at h
  cases h
  exact (ip_Fr.upI rfl ip_Fr.rf)
theorem F_M_goBehindPart_49 {x1 : Int32} {S : ip_St} {r : Bool} {S9 : ip_St} (h : f_M_goBehindPart_49 x1 S = some (r, S9)) : ip_Fr w_M_goBehindPart S S9 := by
  unfold f_M_goBehindPart_49 at h
  by_cases zhc1 : ¬ x1 = 93
  · rw [if_neg zhc1] at h
    cases h
    exact ip_Fr.rf
  · rw [if_pos (Decidable.of_not_not zhc1)] at h
    obtain ⟨zv3, hzq2, h⟩ := ip_bind h
    by_cases zhc4 : zv3 = false
    · rw [if_pos zhc4] at h
      cases h
      exact ip_Fr.rf
    · rw [if_neg zhc4] at h
      exact ip_Fr.trans ip_Fr.rf (F_M_goBehindPart_64 h)
theorem F_M_goBehindPart_34 {x1 : Int32} {S : ip_St} {r : Bool} {S9 : ip_St} (h : f_M_goBehindPart_34 x1 S = some (r, S9)) : ip_Fr w_M_goBehindPart S S9 := by
  unfold f_M_goBehindPart_34 at h
  by_cases zhc1 : ¬ x1 = 41
  · rw [if_neg zhc1] at h
    exact ip_Fr.trans ip_Fr.rf (F_M_goBehindPart_49 h)
  · rw [if_pos (Decidable.of_not_not zhc1)] at h
    obtain ⟨zv3, hzq2, h⟩ := ip_bind h
    by_cases zhc4 : zv3 = true
    · rw [if_pos zhc4] at h
      exact ip_Fr.trans ip_Fr.rf (F_M_goBehindPart_64 h)
    · rw [if_neg zhc4] at h
      exact ip_Fr.trans ip_Fr.rf (F_M_goBehindPart_49 h)
theorem F_M_goBehindPart_27  {S : ip_St} {r : Bool} {S9 : ip_St} (h : f_M_goBehindPart_27 S = some (r, S9)) : ip_Fr w_M_goBehindPart S S9 := by
  unfold f_M_goBehindPart_27 at h
  cases h
  exact (ip_Fr.upI rfl ip_Fr.rf)
theorem F_M_goBehindPart {p1 : Int32} {S : ip_St} {r : Bool} {S9 : ip_St} (h : f_M_goBehindPart p1 S = some (r, S9)) : ip_Fr w_M_goBehindPart S S9 := by
  unfold f_M_goBehindPart at h
  by_cases zhc1 : p1 = 124
  · rw [if_pos zhc1] at h
    exact ip_Fr.trans ip_Fr.rf (F_M_goBehindPart_27 h)
  · rw [if_neg zhc1] at h
    by_cases zhc2 : p1 = 38
    · rw [if_pos zhc2] at h
      exact ip_Fr.trans ip_Fr.rf (F_M_goBehindPart_27 h)
    · rw [if_neg zhc2] at h
      by_cases zhc3 : ¬ p1 = 44
      · rw [if_neg zhc3] at h
        exact ip_Fr.trans ip_Fr.rf (F_M_goBehindPart_34 h)
      · rw [if_pos (Decidable.of_not_not zhc3)] at h
        obtain ⟨zv5, hzq4, h⟩ := ip_bind h
        by_cases zhc6 : zv5 = false
        · rw [if_pos zhc6] at h
          exact ip_Fr.trans ip_Fr.rf (F_M_goBehindPart_34 h)
        · rw [if_neg zhc6] at h
          exact ip_Fr.trans ip_Fr.rf (F_M_goBehindPart_27 h)
def w_M_goPart : List (Nat × Nat) := [(30, 4), (30, 5), (33, 99)]
theorem F_M_goPart {p1 : Int32} {S : ip_St} {r : Bool} {S9 : ip_St} (h : f_M_goPart p1 S = some (r, S9)) : ip_Fr w_M_goPart S S9 := by
  unfold f_M_goPart at h
  by_cases zhc1 : (f_M_in (Int32.toInt64 p1) 97 102) = false
  · rw [if_pos zhc1] at h
    by_cases zhc2 : (f_M_in (Int32.toInt64 p1) 49 51) = false
    · rw [if_pos zhc2] at h
      by_cases zhc3 : p1 = 33
      · rw [if_pos zhc3] at h
        cases h
        exact ip_Fr.rf
      · rw [if_neg zhc3] at h
        by_cases zhc4 : ¬ p1 = 40
        · rw [if_neg zhc4] at h
          cases h
          exact ip_Fr.rf
        · rw [if_pos (Decidable.of_not_not zhc4)] at h
          obtain ⟨⟨zv6, zS7⟩, hzq5, h⟩ := ip_bind h
          dsimp only at h
          have gzS7 : ip_Fr w_M_goPart S zS7 := ip_Fr.trans ip_Fr.rf (ip_Fr.mono rfl (F_M_opens hzq5))
          by_cases zhc8 : zv6 = false
          · rw [if_pos zhc8] at h
            cases h
            exact gzS7
          · rw [if_neg zhc8] at h
            cases h
            exact gzS7
    · rw [if_neg zhc2] at h
      cases h
      exact (ip_Fr.upI rfl ip_Fr.rf)
  · rw [if_neg zhc1] at h
    cases h
    exact (ip_Fr.upI rfl ip_Fr.rf)
def w_M_goLaw : List (Nat × Nat) := [(30, 4), (30, 5), (33, 99)]
theorem F_M_goLaw {p1 : Int32} {S : ip_St} {r : Bool} {S9 : ip_St} (h : f_M_goLaw p1 S = some (r, S9)) : ip_Fr w_M_goLaw S S9 := by
  unfold f_M_goLaw at h
  by_cases zhs1_0 : (S.1 30 5) = 0
  · rw [if_pos zhs1_0] at h
    obtain ⟨⟨zv3, zS4⟩, hzq2, h⟩ := ip_bind h
    dsimp only at h
    have gzS4 : ip_Fr w_M_goLaw S zS4 := ip_Fr.trans ip_Fr.rf (ip_Fr.mono rfl (F_M_goPart hzq2))
    cases h
    exact gzS4
  rw [if_neg zhs1_0] at h
  by_cases zhs1_1 : (S.1 30 5) = 1
  · rw [if_pos zhs1_1] at h
    obtain ⟨⟨zv6, zS7⟩, hzq5, h⟩ := ip_bind h
    dsimp only at h
    have gzS7 : ip_Fr w_M_goLaw S zS7 := ip_Fr.trans ip_Fr.rf (ip_Fr.mono rfl (F_M_goBehindPart hzq5))
    cases h
    exact gzS7
  rw [if_neg zhs1_1] at h
  by_cases zhc8 : ¬ p1 = 91
  · rw [if_neg zhc8] at h
    cases h
    exact ip_Fr.rf
  · rw [if_pos (Decidable.of_not_not zhc8)] at h
    obtain ⟨⟨zv10, zS11⟩, hzq9, h⟩ := ip_bind h
    dsimp only at h
    have gzS11 : ip_Fr w_M_goLaw S zS11 := ip_Fr.trans ip_Fr.rf (ip_Fr.mono rfl (F_M_opens hzq9))
    by_cases zhc12 : zv10 = false
    · rw [if_pos zhc12] at h
      cases h
      exact gzS11
    · rw [if_neg zhc12] at h
      cases h
      exact gzS11
def w_M_goLawFrom : List (Nat × Nat) := [(30, 4), (30, 5), (33, 99)]
theorem F_M_goLawFrom_12 : ∀ (n : Nat) {x2 : Int32} {S : ip_St} {r : Int32} {S9 : ip_St}, f_M_goLawFrom_12 n x2 S = some (r, S9) → ip_Fr w_M_goLawFrom S S9 := by
  intro n
  induction n with
  | zero =>
    intro x2 S r S9 h
    cases h
  | succ n ih =>
    intro x2 S r S9 h
    rw [f_M_goLawFrom_12] at h
    by_cases zhc1 : (S.1 30 2) ≤ x2
    · rw [if_pos zhc1] at h
      cases h
      exact ip_Fr.rf
    · rw [if_neg zhc1] at h
      obtain ⟨zv2, hzv2, h⟩ := ip_bind h
      obtain ⟨⟨zv4, zS5⟩, hzq3, h⟩ := ip_bind h
      dsimp only at h
      have gzS5 : ip_Fr w_M_goLawFrom S zS5 := ip_Fr.trans ip_Fr.rf (ip_Fr.mono rfl (F_M_goLaw hzq3))
      by_cases zhc6 : zv4 = false
      · rw [if_pos zhc6] at h
        cases h
        exact gzS5
      · rw [if_neg zhc6] at h
        exact ip_Fr.trans gzS5 (ih h)
theorem F_M_goLawFrom {p1 : Int32} {S : ip_St} {r : Int32} {S9 : ip_St} (h : f_M_goLawFrom p1 S = some (r, S9)) : ip_Fr w_M_goLawFrom S S9 := by
  unfold f_M_goLawFrom at h
  exact ip_Fr.trans (ip_Fr.upI rfl (ip_Fr.upI rfl ip_Fr.rf)) (F_M_goLawFrom_12 ip_FU h)
def w_M_faultOf : List (Nat × Nat) := [(30, 4), (30, 5), (30, 6), (33, 99)]
theorem F_M_faultOf_61 {x1 : Int32} {S : ip_St} {r : Int32} {S9 : ip_St} (h : f_M_faultOf_61 x1 S = some (r, S9)) : ip_Fr w_M_faultOf S S9 := by
  unfold f_M_faultOf_61 at h
  by_cases zhc1 : ¬ (S.1 30 6) = (-1)
  · rw [if_neg zhc1] at h
    obtain ⟨⟨zv3, zS4⟩, hzq2, h⟩ := ip_bind h
    dsimp only at h
    have gzS4 : ip_Fr w_M_faultOf S zS4 := ip_Fr.trans ip_Fr.rf (ip_Fr.mono rfl (F_M_goLawFrom hzq2))
    cases h
    exact gzS4
  · rw [if_pos (Decidable.of_not_not zhc1)] at h
    cases h
    exact ip_Fr.rf
theorem F_M_faultOf_52 {k7 : Int32 → ip_St → Option (Int32 × ip_St)} (hk7 : ∀ {x1 : Int32} {S : ip_St} {r : Int32} {S9 : ip_St}, k7 x1 S = some (r, S9) → ip_Fr w_M_faultOf S S9) {x1 : Int32} {s1 : Int32} {S : ip_St} {r : Int32} {S9 : ip_St} (h : f_M_faultOf_52 k7 x1 s1 S = some (r, S9)) : ip_Fr w_M_faultOf S S9 := by
  unfold f_M_faultOf_52 at h
  exact ip_Fr.trans (ip_Fr.upI rfl ip_Fr.rf) (hk7 h)
theorem F_M_faultOf_7 : ∀ (n : Nat) {x1 : Int32} {S : ip_St} {r : Int32} {S9 : ip_St}, f_M_faultOf_7 n x1 S = some (r, S9) → ip_Fr w_M_faultOf S S9 := by
  intro n
  induction n with
  | zero =>
    intro x1 S r S9 h
    cases h
  | succ n ih =>
    intro x1 S r S9 h
    rw [f_M_faultOf_7] at h
    by_cases zhc1 : (S.1 30 2) ≤ x1
    · rw [if_pos zhc1] at h
      exact ip_Fr.trans ip_Fr.rf (F_M_faultOf_61 h)
    · rw [if_neg zhc1] at h
      by_cases zhc2 : ¬ (S.1 30 6) = (-1)
      · rw [if_neg zhc2] at h
        exact ip_Fr.trans ip_Fr.rf (F_M_faultOf_61 h)
      · rw [if_pos (Decidable.of_not_not zhc2)] at h
        obtain ⟨zv4, hzq3, h⟩ := ip_bind h
        by_cases zhc5 : zv4 = true
        · rw [if_pos zhc5] at h
          obtain ⟨zv6, hzv6, h⟩ := ip_bind h
          by_cases zhc7 : ¬ zv6 = 59
          · rw [if_neg zhc7] at h
            exact ip_Fr.trans ip_Fr.rf (F_M_faultOf_52 ih h)
          · rw [if_pos (Decidable.of_not_not zhc7)] at h
            exact ip_Fr.trans ip_Fr.rf (F_M_faultOf_52 ih h)
        · rw [if_neg zhc5] at h
          cases h
          exact ip_Fr.rf
theorem F_M_faultOf  {S : ip_St} {r : Int32} {S9 : ip_St} (h : f_M_faultOf S = some (r, S9)) : ip_Fr w_M_faultOf S S9 := by
  unfold f_M_faultOf at h
  exact ip_Fr.trans (ip_Fr.upI rfl ip_Fr.rf) (F_M_faultOf_7 ip_FU h)
def w_M_fault : List (Nat × Nat) := [(30, 4), (30, 5), (30, 6), (33, 99)]
theorem F_M_fault  {S : ip_St} {r : Int32} {S9 : ip_St} (h : f_M_fault S = some (r, S9)) : ip_Fr w_M_fault S S9 := by
  unfold f_M_fault at h
  obtain ⟨⟨zv2, zS3⟩, hzq1, h⟩ := ip_bind h
  dsimp only at h
  have gzS3 : ip_Fr w_M_fault S zS3 := ip_Fr.trans ip_Fr.rf (ip_Fr.mono rfl (F_M_faultOf hzq1))
  cases h
  exact gzS3
def w_D_open_12 : List (Nat × Nat) := [(12, 1), (12, 3), (12, 4), (12, 6)]
theorem F_D_open_12 {p1 : Int32} {S : ip_St} : ip_Fr w_D_open_12 S (f_D_open_12 p1 S) := (ip_Fr.upI rfl (ip_Fr.upI rfl (ip_Fr.upI rfl (ip_Fr.upI rfl ip_Fr.rf))))
def w_J_unhear : List (Nat × Nat) := [(100, 0)]
theorem F_J_unhear {p0 : Nat} {S : ip_St} (hp0 : ip_ob p0 = some 1) : ip_Fr w_J_unhear S (f_J_unhear p0 S) := (ip_Fr.upJ hp0 rfl (ip_Fr.upJ hp0 rfl (ip_Fr.upJ hp0 rfl ip_Fr.rf)))
def w_J_clear : List (Nat × Nat) := [(100, 0)]
theorem F_J_clear {p0 : Nat} {p1 : Int32} {S : ip_St} (hp0 : ip_ob p0 = some 1) : ip_Fr w_J_clear S (f_J_clear p0 p1 S) := (ip_Fr.trans (ip_Fr.upJ hp0 rfl (ip_Fr.upJ hp0 rfl (ip_Fr.upJ hp0 rfl ip_Fr.rf))) (ip_Fr.mono rfl (F_J_unhear hp0)))
def w_J_know : List (Nat × Nat) := [(100, 0)]
theorem F_J_know {p0 : Nat} {p1 : Int32} {p2 : Int32} {S : ip_St} (hp0 : ip_ob p0 = some 1) : ip_Fr w_J_know S (f_J_know p0 p1 p2 S) := (ip_Fr.upJ hp0 rfl (ip_Fr.upJ hp0 rfl ip_Fr.rf))
def w_A_seat : List (Nat × Nat) := [(100, 0)]
theorem F_A_seat_54 {k15 : Nat → Int32 → Int32 → ip_St → Option (ip_St)} (hk15 : ∀ {c1 : Nat} {x2 : Int32} {x3 : Int32} {S : ip_St} {S9 : ip_St}, ip_ob c1 = some 1 → k15 c1 x2 x3 S = some S9 → ip_Fr w_A_seat S S9) {c1 : Nat} {x2 : Int32} {x3 : Int32} {t0 : Nat} {s1 : Int32} {s2 : Int32} {S : ip_St} {S9 : ip_St} (hc1 : ip_ob c1 = some 1) (ht0 : ip_ob t0 = some 1) (h : f_A_seat_54 k15 c1 x2 x3 t0 s1 s2 S = some S9) : ip_Fr w_A_seat S S9 := by
  unfold f_A_seat_54 at h
  exact ip_Fr.trans (ip_Fr.trans ip_Fr.rf (ip_Fr.mono rfl (F_J_know ht0))) (hk15 hc1 h)
theorem F_A_seat_15 : ∀ (n : Nat) {c1 : Nat} {x2 : Int32} {x3 : Int32} {S : ip_St} {S9 : ip_St}, ip_ob c1 = some 1 → f_A_seat_15 n c1 x2 x3 S = some S9 → ip_Fr w_A_seat S S9 := by
  intro n
  induction n with
  | zero =>
    intro c1 x2 x3 S S9 hc1 h
    cases h
  | succ n ih =>
    intro c1 x2 x3 S S9 hc1 h
    rw [f_A_seat_15] at h
    by_cases zhc1 : 6 ≤ x3
    · rw [if_pos zhc1] at h
      cases h
      exact ip_Fr.rf
    · rw [if_neg zhc1] at h
      obtain ⟨zv2, hzv2, h⟩ := ip_bind h
      by_cases zhc3 : zv2 = 63
      · rw [if_pos zhc3] at h
        exact ip_Fr.trans ip_Fr.rf (ih hc1 h)
      · rw [if_neg zhc3] at h
        by_cases zhc4 : ¬ zv2 = 49
        · rw [if_neg zhc4] at h
          exact ip_Fr.trans ip_Fr.rf (F_A_seat_54 ih hc1 hc1 h)
        · rw [if_pos (Decidable.of_not_not zhc4)] at h
          exact ip_Fr.trans ip_Fr.rf (F_A_seat_54 ih hc1 hc1 h)
theorem F_A_seat {p1 : Nat} {p2 : Int32} {S : ip_St} {S9 : ip_St} (hp1 : ip_ob p1 = some 1) (h : f_A_seat p1 p2 S = some S9) : ip_Fr w_A_seat S S9 := by
  unfold f_A_seat at h
  obtain ⟨zv1, hzv1, h⟩ := ip_bind h
  exact ip_Fr.trans (ip_Fr.trans ip_Fr.rf (ip_Fr.mono rfl (F_J_clear hp1))) (F_A_seat_15 ip_FU hp1 h)
def w_R_result : List (Nat × Nat) := [(3, 0)]
theorem F_R_result  {S : ip_St} {S9 : ip_St} (h : f_R_result S = some S9) : ip_Fr w_R_result S S9 := by
  unfold f_R_result at h
  obtain ⟨zv2, hzq1, h⟩ := ip_bind h
  cases h
  exact (ip_Fr.upL rfl ip_Fr.rf)
def w_L_take_17_3 : List (Nat × Nat) := [(17, 0), (17, 1), (17, 2), (17, 3), (17, 4)]
theorem F_L_take_17_3  {S : ip_St} : ip_Fr w_L_take_17_3 S (f_L_take_17_3 S) := (ip_Fr.upI rfl (ip_Fr.upI rfl (ip_Fr.upI rfl (ip_Fr.upI rfl (ip_Fr.upL rfl ip_Fr.rf)))))
def w_A_court : List (Nat × Nat) := [(0, 1), (0, 3), (0, 6), (0, 7), (2, 9), (2, 10), (2, 11), (2, 12), (3, 0), (3, 1), (3, 2), (3, 3), (3, 4), (4, 99), (5, 99), (6, 99), (7, 99), (8, 99), (9, 99), (10, 99), (11, 99), (12, 1), (12, 3), (12, 4), (12, 6), (17, 0), (17, 1), (17, 2), (17, 3), (17, 4), (100, 0)]
theorem F_A_court_44 : ∀ (n : Nat) {x1 : Int32} {S : ip_St} {r : Int32} {S9 : ip_St}, f_A_court_44 n x1 S = some (r, S9) → ip_Fr w_A_court S S9 := by
  intro n
  induction n with
  | zero =>
    intro x1 S r S9 h
    cases h
  | succ n ih =>
    intro x1 S r S9 h
    rw [f_A_court_44] at h
    by_cases zhc1 : (S.1 0 3) ≤ x1
    · rw [if_pos zhc1] at h
      obtain ⟨zS3, hzq2, h⟩ := ip_bind h
      have gzS3 : ip_Fr w_A_court S zS3 := ip_Fr.trans ip_Fr.rf (ip_Fr.mono rfl (F_R_result hzq2))
      cases h
      exact (ip_Fr.upI rfl (ip_Fr.upI rfl (ip_Fr.upI rfl (ip_Fr.trans gzS3 (ip_Fr.mono rfl (F_L_take_17_3))))))
    · rw [if_neg zhc1] at h
      obtain ⟨zv4, hzv4, h⟩ := ip_bind h
      have hozv4 := ip_aA_ob hzv4
      obtain ⟨zS6, hzq5, h⟩ := ip_bind h
      have gzS6 : ip_Fr w_A_court S zS6 := ip_Fr.trans ip_Fr.rf (ip_Fr.mono rfl (F_A_seat hozv4 hzq5))
      exact ip_Fr.trans gzS6 (ih h)
theorem F_A_court  {S : ip_St} {r : Int32} {S9 : ip_St} (h : f_A_court S = some (r, S9)) : ip_Fr w_A_court S S9 := by
  unfold f_A_court at h
  obtain ⟨⟨zv2, zS3⟩, hzq1, h⟩ := ip_bind h
  dsimp only at h
  have gzS3 : ip_Fr w_A_court S zS3 := ip_Fr.trans ip_Fr.rf (ip_Fr.mono rfl (F_A_scanCourt hzq1))
  by_cases zhc4 : zv2 < (zS3.1 0 1)
  · rw [if_pos zhc4] at h
    cases h
    exact gzS3
  · rw [if_neg zhc4] at h
    by_cases zhc5 : (zS3.1 0 3) = 0
    · rw [if_pos zhc5] at h
      cases h
      exact gzS3
    · rw [if_neg zhc5] at h
      by_cases zhc6 : (f_R_isWhole zS3) = true
      · rw [if_pos zhc6] at h
        exact ip_Fr.trans (ip_Fr.trans gzS3 (ip_Fr.mono rfl (F_D_open_12))) (F_A_court_44 ip_FU h)
      · rw [if_neg zhc6] at h
        cases h
        exact gzS3
def w_M_beginLaw : List (Nat × Nat) := [(34, 99), (35, 99), (36, 99)]
theorem F_M_beginLaw  {S : ip_St} {S9 : ip_St} (h : f_M_beginLaw S = some S9) : ip_Fr w_M_beginLaw S S9 := by
  unfold f_M_beginLaw at h
  obtain ⟨zS1, hzS1, h⟩ := ip_bind h
  have gzS1 : ip_Fr w_M_beginLaw S zS1 := ip_Fr.wL hzS1 rfl ip_Fr.rf
  obtain ⟨zS2, hzS2, h⟩ := ip_bind h
  have gzS2 : ip_Fr w_M_beginLaw S zS2 := ip_Fr.wL hzS2 rfl gzS1
  obtain ⟨zS3, hzS3, h⟩ := ip_bind h
  have gzS3 : ip_Fr w_M_beginLaw S zS3 := ip_Fr.wI hzS3 rfl gzS2
  cases h
  exact gzS3
def w_M_beginLevel : List (Nat × Nat) := [(30, 14), (34, 99), (35, 99), (36, 99), (37, 99), (38, 99), (39, 99), (40, 99)]
theorem F_M_beginLevel {p1 : Int32} {S : ip_St} {S9 : ip_St} (h : f_M_beginLevel p1 S = some S9) : ip_Fr w_M_beginLevel S S9 := by
  unfold f_M_beginLevel at h
  obtain ⟨zS1, hzS1, h⟩ := ip_bind h
  have gzS1 : ip_Fr w_M_beginLevel S zS1 := ip_Fr.wI hzS1 rfl (ip_Fr.upI rfl ip_Fr.rf)
  obtain ⟨zS2, hzS2, h⟩ := ip_bind h
  have gzS2 : ip_Fr w_M_beginLevel S zS2 := ip_Fr.wL hzS2 rfl gzS1
  obtain ⟨zS3, hzS3, h⟩ := ip_bind h
  have gzS3 : ip_Fr w_M_beginLevel S zS3 := ip_Fr.wL hzS3 rfl gzS2
  obtain ⟨zS4, hzS4, h⟩ := ip_bind h
  have gzS4 : ip_Fr w_M_beginLevel S zS4 := ip_Fr.wL hzS4 rfl gzS3
  obtain ⟨zS6, hzq5, h⟩ := ip_bind h
  have gzS6 : ip_Fr w_M_beginLevel S zS6 := ip_Fr.trans gzS4 (ip_Fr.mono rfl (F_M_beginLaw hzq5))
  cases h
  exact gzS6
def w_M_feedPart : List (Nat × Nat) := [(35, 99), (36, 99)]
theorem F_M_feedPart_34 {s1 : Int32} {s2 : Int64} {s3 : Int64} {S : ip_St} {S9 : ip_St} (h : f_M_feedPart_34 s1 s2 s3 S = some S9) : ip_Fr w_M_feedPart S S9 := by
  unfold f_M_feedPart_34 at h
  obtain ⟨zS1, hzS1, h⟩ := ip_bind h
  have gzS1 : ip_Fr w_M_feedPart S zS1 := ip_Fr.wL hzS1 rfl ip_Fr.rf
  obtain ⟨zS2, hzS2, h⟩ := ip_bind h
  have gzS2 : ip_Fr w_M_feedPart S zS2 := ip_Fr.wI hzS2 rfl gzS1
  cases h
  exact gzS2
theorem F_M_feedPart {p1 : Int64} {S : ip_St} {S9 : ip_St} (h : f_M_feedPart p1 S = some S9) : ip_Fr w_M_feedPart S S9 := by
  unfold f_M_feedPart at h
  obtain ⟨zv1, hzv1, h⟩ := ip_bind h
  obtain ⟨zv2, hzv2, h⟩ := ip_bind h
  by_cases zhc3 : ¬ (ip_irem zv2 2) = 1
  · rw [if_neg zhc3] at h
    exact ip_Fr.trans ip_Fr.rf (F_M_feedPart_34 h)
  · rw [if_pos (Decidable.of_not_not zhc3)] at h
    exact ip_Fr.trans ip_Fr.rf (F_M_feedPart_34 h)
def w_M_countLaw : List (Nat × Nat) := [(38, 99), (39, 99), (40, 99)]
theorem F_M_countLaw  {S : ip_St} {S9 : ip_St} (h : f_M_countLaw S = some S9) : ip_Fr w_M_countLaw S S9 := by
  unfold f_M_countLaw at h
  obtain ⟨zv2, hzq1, h⟩ := ip_bind h
  obtain ⟨zv3, hzv3, h⟩ := ip_bind h
  obtain ⟨zv4, hzv4, h⟩ := ip_bind h
  obtain ⟨zS5, hzS5, h⟩ := ip_bind h
  have gzS5 : ip_Fr w_M_countLaw S zS5 := ip_Fr.wL hzS5 rfl ip_Fr.rf
  obtain ⟨zv6, hzv6, h⟩ := ip_bind h
  obtain ⟨zv7, hzv7, h⟩ := ip_bind h
  obtain ⟨zS8, hzS8, h⟩ := ip_bind h
  have gzS8 : ip_Fr w_M_countLaw S zS8 := ip_Fr.wL hzS8 rfl gzS5
  obtain ⟨zv9, hzv9, h⟩ := ip_bind h
  obtain ⟨zS10, hzS10, h⟩ := ip_bind h
  have gzS10 : ip_Fr w_M_countLaw S zS10 := ip_Fr.wL hzS10 rfl gzS8
  cases h
  exact gzS10
def w_M_endLevel : List (Nat × Nat) := [(30, 14), (35, 99), (36, 99)]
theorem F_M_endLevel_59 {s0 : Int64} {S : ip_St} {S9 : ip_St} (h : f_M_endLevel_59 s0 S = some S9) : ip_Fr w_M_endLevel S S9 := by
  unfold f_M_endLevel_59 at h
  obtain ⟨zS2, hzq1, h⟩ := ip_bind h
  have gzS2 : ip_Fr w_M_endLevel S zS2 := ip_Fr.trans (ip_Fr.upI rfl ip_Fr.rf) (ip_Fr.mono rfl (F_M_feedPart hzq1))
  cases h
  exact gzS2
theorem F_M_endLevel  {S : ip_St} {S9 : ip_St} (h : f_M_endLevel S = some S9) : ip_Fr w_M_endLevel S S9 := by
  unfold f_M_endLevel at h
  obtain ⟨zv1, hzv1, h⟩ := ip_bind h
  by_cases zhc2 : ¬ zv1 = 1
  · rw [if_neg zhc2] at h
    obtain ⟨zv3, hzv3, h⟩ := ip_bind h
    by_cases zhc4 : ¬ zv3 = 2
    · rw [if_neg zhc4] at h
      obtain ⟨zv5, hzv5, h⟩ := ip_bind h
      exact ip_Fr.trans ip_Fr.rf (F_M_endLevel_59 h)
    · rw [if_pos (Decidable.of_not_not zhc4)] at h
      obtain ⟨zv6, hzv6, h⟩ := ip_bind h
      exact ip_Fr.trans ip_Fr.rf (F_M_endLevel_59 h)
  · rw [if_pos (Decidable.of_not_not zhc2)] at h
    obtain ⟨zv7, hzv7, h⟩ := ip_bind h
    exact ip_Fr.trans ip_Fr.rf (F_M_endLevel_59 h)
def w_M_lawRow : List (Nat × Nat) := [(30, 14), (34, 99), (35, 99), (36, 99), (37, 99), (38, 99), (39, 99), (40, 99)]
theorem F_M_lawRow_66 {k16 : Int32 → Int32 → Int32 → Int32 → ip_St → Option (Int64 × ip_St)} (hk16 : ∀ {x2 : Int32} {x3 : Int32} {x4 : Int32} {x5 : Int32} {S : ip_St} {r : Int64} {S9 : ip_St}, k16 x2 x3 x4 x5 S = some (r, S9) → ip_Fr w_M_lawRow S S9) {x2 : Int32} {x3 : Int32} {x4 : Int32} {x5 : Int32} {s1 : Int64} {S : ip_St} {r : Int64} {S9 : ip_St} (h : f_M_lawRow_66 k16 x2 x3 x4 x5 s1 S = some (r, S9)) : ip_Fr w_M_lawRow S S9 := by
  unfold f_M_lawRow_66 at h
  obtain ⟨zS2, hzq1, h⟩ := ip_bind h
  have gzS2 : ip_Fr w_M_lawRow S zS2 := ip_Fr.trans ip_Fr.rf (ip_Fr.mono rfl (F_M_feedPart hzq1))
  exact ip_Fr.trans gzS2 (hk16 h)
theorem F_M_lawRow_16 : ∀ (n : Nat) {x2 : Int32} {x3 : Int32} {x4 : Int32} {x5 : Int32} {S : ip_St} {r : Int64} {S9 : ip_St}, f_M_lawRow_16 n x2 x3 x4 x5 S = some (r, S9) → ip_Fr w_M_lawRow S S9 := by
  intro n
  induction n with
  | zero =>
    intro x2 x3 x4 x5 S r S9 h
    cases h
  | succ n ih =>
    intro x2 x3 x4 x5 S r S9 h
    rw [f_M_lawRow_16] at h
    by_cases zhc1 : x2 ≤ x5
    · rw [if_pos zhc1] at h
      obtain ⟨zv3, hzq2, h⟩ := ip_bind h
      cases h
      exact ip_Fr.rf
    · rw [if_neg zhc1] at h
      obtain ⟨zv4, hzv4, h⟩ := ip_bind h
      by_cases zhc5 : (f_M_in (Int32.toInt64 zv4) 97 102) = false
      · rw [if_pos zhc5] at h
        by_cases zhc6 : (f_M_in (Int32.toInt64 zv4) 49 51) = false
        · rw [if_pos zhc6] at h
          by_cases zhc7 : ¬ zv4 = 33
          · rw [if_neg zhc7] at h
            by_cases zhc8 : ¬ zv4 = 124
            · rw [if_neg zhc8] at h
              by_cases zhc9 : ¬ zv4 = 40
              · rw [if_neg zhc9] at h
                by_cases zhc10 : ¬ zv4 = 91
                · rw [if_neg zhc10] at h
                  by_cases zhc11 : ¬ zv4 = 44
                  · rw [if_neg zhc11] at h
                    by_cases zhc12 : zv4 = 38
                    · rw [if_pos zhc12] at h
                      exact ip_Fr.trans ip_Fr.rf (ih h)
                    · rw [if_neg zhc12] at h
                      obtain ⟨zS14, hzq13, h⟩ := ip_bind h
                      have gzS14 : ip_Fr w_M_lawRow S zS14 := ip_Fr.trans ip_Fr.rf (ip_Fr.mono rfl (F_M_countLaw hzq13))
                      obtain ⟨zS16, hzq15, h⟩ := ip_bind h
                      have gzS16 : ip_Fr w_M_lawRow S zS16 := ip_Fr.trans gzS14 (ip_Fr.mono rfl (F_M_endLevel hzq15))
                      exact ip_Fr.trans gzS16 (ih h)
                  · rw [if_pos (Decidable.of_not_not zhc11)] at h
                    obtain ⟨zS18, hzq17, h⟩ := ip_bind h
                    have gzS18 : ip_Fr w_M_lawRow S zS18 := ip_Fr.trans ip_Fr.rf (ip_Fr.mono rfl (F_M_countLaw hzq17))
                    obtain ⟨zS20, hzq19, h⟩ := ip_bind h
                    have gzS20 : ip_Fr w_M_lawRow S zS20 := ip_Fr.trans gzS18 (ip_Fr.mono rfl (F_M_beginLaw hzq19))
                    exact ip_Fr.trans gzS20 (ih h)
                · rw [if_pos (Decidable.of_not_not zhc10)] at h
                  obtain ⟨zS22, hzq21, h⟩ := ip_bind h
                  have gzS22 : ip_Fr w_M_lawRow S zS22 := ip_Fr.trans ip_Fr.rf (ip_Fr.mono rfl (F_M_beginLevel hzq21))
                  exact ip_Fr.trans gzS22 (ih h)
              · rw [if_pos (Decidable.of_not_not zhc9)] at h
                obtain ⟨zS24, hzq23, h⟩ := ip_bind h
                have gzS24 : ip_Fr w_M_lawRow S zS24 := ip_Fr.trans ip_Fr.rf (ip_Fr.mono rfl (F_M_beginLevel hzq23))
                exact ip_Fr.trans gzS24 (ih h)
            · rw [if_pos (Decidable.of_not_not zhc8)] at h
              obtain ⟨zv25, hzv25, h⟩ := ip_bind h
              obtain ⟨zv26, hzv26, h⟩ := ip_bind h
              obtain ⟨zS27, hzS27, h⟩ := ip_bind h
              have gzS27 : ip_Fr w_M_lawRow S zS27 := ip_Fr.wL hzS27 rfl ip_Fr.rf
              obtain ⟨zS28, hzS28, h⟩ := ip_bind h
              have gzS28 : ip_Fr w_M_lawRow S zS28 := ip_Fr.wL hzS28 rfl gzS27
              exact ip_Fr.trans gzS28 (ih h)
          · rw [if_pos (Decidable.of_not_not zhc7)] at h
            obtain ⟨zv29, hzv29, h⟩ := ip_bind h
            obtain ⟨zS30, hzS30, h⟩ := ip_bind h
            have gzS30 : ip_Fr w_M_lawRow S zS30 := ip_Fr.wI hzS30 rfl ip_Fr.rf
            exact ip_Fr.trans gzS30 (ih h)
        · rw [if_neg zhc6] at h
          exact ip_Fr.trans ip_Fr.rf (ih h)
      · rw [if_neg zhc5] at h
        by_cases zhc31 : ¬ (zv4 - 97) = x3
        · rw [if_neg zhc31] at h
          obtain ⟨zv33, hzq32, h⟩ := ip_bind h
          exact ip_Fr.trans ip_Fr.rf (F_M_lawRow_66 ih h)
        · rw [if_pos (Decidable.of_not_not zhc31)] at h
          exact ip_Fr.trans ip_Fr.rf (F_M_lawRow_66 ih h)
theorem F_M_lawRow {p2 : Int32} {p3 : Int32} {S : ip_St} {r : Int64} {S9 : ip_St} (h : f_M_lawRow p2 p3 S = some (r, S9)) : ip_Fr w_M_lawRow S S9 := by
  unfold f_M_lawRow at h
  obtain ⟨zS2, hzq1, h⟩ := ip_bind h
  have gzS2 : ip_Fr w_M_lawRow S zS2 := ip_Fr.trans (ip_Fr.upI rfl ip_Fr.rf) (ip_Fr.mono rfl (F_M_beginLevel hzq1))
  exact ip_Fr.trans gzS2 (F_M_lawRow_16 ip_FU h)
def w_M_layLaw : List (Nat × Nat) := [(30, 2), (30, 14), (30, 16), (30, 17), (34, 99), (35, 99), (36, 99), (37, 99), (38, 99), (39, 99), (40, 99), (41, 99)]
theorem F_M_layLaw_12 : ∀ (n : Nat) {x1 : Int32} {x2 : Int32} {S : ip_St} {S9 : ip_St}, f_M_layLaw_12 n x1 x2 S = some S9 → ip_Fr w_M_layLaw S S9 := by
  intro n
  induction n with
  | zero =>
    intro x1 x2 S S9 h
    cases h
  | succ n ih =>
    intro x1 x2 S S9 h
    rw [f_M_layLaw_12] at h
    by_cases zhc1 : (S.1 30 16) ≤ x2
    · rw [if_pos zhc1] at h
      obtain ⟨⟨zv3, zS4⟩, hzq2, h⟩ := ip_bind h
      dsimp only at h
      have gzS4 : ip_Fr w_M_layLaw S zS4 := ip_Fr.trans ip_Fr.rf (ip_Fr.mono rfl (F_M_lawRow hzq2))
      cases h
      exact (ip_Fr.upI rfl (ip_Fr.upL rfl gzS4))
    · rw [if_neg zhc1] at h
      obtain ⟨zv5, hzv5, h⟩ := ip_bind h
      obtain ⟨zS6, hzS6, h⟩ := ip_bind h
      have gzS6 : ip_Fr w_M_layLaw S zS6 := ip_Fr.wI hzS6 rfl ip_Fr.rf
      exact ip_Fr.trans gzS6 (ih h)
theorem F_M_layLaw {p1 : Int32} {S : ip_St} {S9 : ip_St} (h : f_M_layLaw p1 S = some S9) : ip_Fr w_M_layLaw S S9 := by
  unfold f_M_layLaw at h
  exact ip_Fr.trans (ip_Fr.upI rfl ip_Fr.rf) (F_M_layLaw_12 ip_FU h)
def w_M_court : List (Nat × Nat) := [(30, 2), (30, 4), (30, 5), (30, 6), (30, 14), (30, 16), (30, 17), (30, 18), (30, 19), (30, 20), (30, 21), (30, 29), (33, 99), (34, 99), (35, 99), (36, 99), (37, 99), (38, 99), (39, 99), (40, 99), (41, 99), (42, 99), (43, 99), (44, 99)]
theorem F_M_court_127 {k42 : Int32 → ip_St → Option (Int32 × ip_St)} {k83 : Int32 → Int32 → ip_St → Option (Int32 × ip_St)} (hk42 : ∀ {x1 : Int32} {S : ip_St} {r : Int32} {S9 : ip_St}, k42 x1 S = some (r, S9) → ip_Fr w_M_court S S9) (hk83 : ∀ {x1 : Int32} {x2 : Int32} {S : ip_St} {r : Int32} {S9 : ip_St}, k83 x1 x2 S = some (r, S9) → ip_Fr w_M_court S S9) {x1 : Int32} {x2 : Int32} {s1 : Int32} {s2 : Int32} {S : ip_St} {r : Int32} {S9 : ip_St} (h : f_M_court_127 k42 k83 x1 x2 s1 s2 S = some (r, S9)) : ip_Fr w_M_court S S9 := by
  unfold f_M_court_127 at h
  obtain ⟨zS1, hzS1, h⟩ := ip_bind h
  have gzS1 : ip_Fr w_M_court S zS1 := ip_Fr.wI hzS1 rfl ip_Fr.rf
  obtain ⟨zS2, hzS2, h⟩ := ip_bind h
  have gzS2 : ip_Fr w_M_court S zS2 := ip_Fr.wI hzS2 rfl gzS1
  exact ip_Fr.trans gzS2 (hk83 h)
theorem F_M_court_83 {k42 : Int32 → ip_St → Option (Int32 × ip_St)} (hk42 : ∀ {x1 : Int32} {S : ip_St} {r : Int32} {S9 : ip_St}, k42 x1 S = some (r, S9) → ip_Fr w_M_court S S9) : ∀ (n : Nat) {x1 : Int32} {x2 : Int32} {S : ip_St} {r : Int32} {S9 : ip_St}, f_M_court_83 k42 n x1 x2 S = some (r, S9) → ip_Fr w_M_court S S9 := by
  intro n
  induction n with
  | zero =>
    intro x1 x2 S r S9 h
    cases h
  | succ n ih =>
    intro x1 x2 S r S9 h
    rw [f_M_court_83] at h
    by_cases zhc1 : 6 ≤ x2
    · rw [if_pos zhc1] at h
      exact ip_Fr.trans ip_Fr.rf (hk42 h)
    · rw [if_neg zhc1] at h
      obtain ⟨zv2, hzv2, h⟩ := ip_bind h
      by_cases zhc3 : ¬ zv2 = 63
      · rw [if_neg zhc3] at h
        exact ip_Fr.trans ip_Fr.rf (F_M_court_127 hk42 ih h)
      · rw [if_pos (Decidable.of_not_not zhc3)] at h
        exact ip_Fr.trans ip_Fr.rf (F_M_court_127 hk42 ih h)
theorem F_M_court_42 : ∀ (n : Nat) {x1 : Int32} {S : ip_St} {r : Int32} {S9 : ip_St}, f_M_court_42 n x1 S = some (r, S9) → ip_Fr w_M_court S S9 := by
  intro n
  induction n with
  | zero =>
    intro x1 S r S9 h
    cases h
  | succ n ih =>
    intro x1 S r S9 h
    rw [f_M_court_42] at h
    by_cases zhc1 : (S.1 30 18) ≤ x1
    · rw [if_pos zhc1] at h
      obtain ⟨zS3, hzq2, h⟩ := ip_bind h
      have gzS3 : ip_Fr w_M_court S zS3 := ip_Fr.trans ip_Fr.rf (ip_Fr.mono rfl (F_M_layLaw hzq2))
      cases h
      exact (ip_Fr.upI rfl (ip_Fr.upI rfl (ip_Fr.upI rfl (ip_Fr.upI rfl gzS3))))
    · rw [if_neg zhc1] at h
      obtain ⟨zv4, hzv4, h⟩ := ip_bind h
      obtain ⟨zS5, hzS5, h⟩ := ip_bind h
      have gzS5 : ip_Fr w_M_court S zS5 := ip_Fr.wI hzS5 rfl ip_Fr.rf
      obtain ⟨zS6, hzS6, h⟩ := ip_bind h
      have gzS6 : ip_Fr w_M_court S zS6 := ip_Fr.wI hzS6 rfl gzS5
      exact ip_Fr.trans gzS6 (F_M_court_83 ih ip_FU h)
theorem F_M_court  {S : ip_St} {r : Int32} {S9 : ip_St} (h : f_M_court S = some (r, S9)) : ip_Fr w_M_court S S9 := by
  unfold f_M_court at h
  obtain ⟨⟨zv2, zS3⟩, hzq1, h⟩ := ip_bind h
  dsimp only at h
  have gzS3 : ip_Fr w_M_court S zS3 := ip_Fr.trans ip_Fr.rf (ip_Fr.mono rfl (F_M_faultOf hzq1))
  by_cases zhc4 : zv2 < (zS3.1 30 2)
  · rw [if_pos zhc4] at h
    cases h
    exact gzS3
  · rw [if_neg zhc4] at h
    by_cases zhc5 : (zS3.1 30 6) = (-1)
    · rw [if_pos zhc5] at h
      cases h
      exact gzS3
    · rw [if_neg zhc5] at h
      by_cases zhc6 : (f_M_isLawWhole zS3) = true
      · rw [if_pos zhc6] at h
        exact ip_Fr.trans (ip_Fr.upI rfl gzS3) (F_M_court_42 ip_FU h)
      · rw [if_neg zhc6] at h
        cases h
        exact gzS3
def w_A_amend : List (Nat × Nat) := [(0, 1), (2, 9), (2, 10), (2, 11), (2, 12), (3, 0), (3, 1), (3, 2), (3, 3), (3, 4), (4, 99), (5, 99), (6, 99), (7, 99), (8, 99), (9, 99), (10, 99), (11, 99), (12, 3), (17, 0), (17, 1), (17, 2), (17, 3), (17, 4)]
theorem F_A_amend  {S : ip_St} {r : Int32} {S9 : ip_St} (h : f_A_amend S = some (r, S9)) : ip_Fr w_A_amend S S9 := by
  unfold f_A_amend at h
  by_cases zhc1 : (f_A_hasCourt S) = false
  · rw [if_pos zhc1] at h
    cases h
    exact ip_Fr.rf
  · rw [if_neg zhc1] at h
    obtain ⟨⟨zv3, zS4⟩, hzq2, h⟩ := ip_bind h
    dsimp only at h
    have gzS4 : ip_Fr w_A_amend S zS4 := ip_Fr.trans ip_Fr.rf (ip_Fr.mono rfl (F_A_scanLaw hzq2))
    by_cases zhc5 : zv3 < (zS4.1 0 1)
    · rw [if_pos zhc5] at h
      cases h
      exact gzS4
    · rw [if_neg zhc5] at h
      by_cases zhc6 : (f_R_isWhole zS4) = true
      · rw [if_pos zhc6] at h
        obtain ⟨zS8, hzq7, h⟩ := ip_bind h
        have gzS8 : ip_Fr w_A_amend S zS8 := ip_Fr.trans gzS4 (ip_Fr.mono rfl (F_R_result hzq7))
        cases h
        exact (ip_Fr.upI rfl (ip_Fr.upI rfl (ip_Fr.trans gzS8 (ip_Fr.mono rfl (F_L_take_17_3)))))
      · rw [if_neg zhc6] at h
        cases h
        exact gzS4
def w_M_amend : List (Nat × Nat) := [(30, 2), (30, 4), (30, 5), (30, 14), (30, 16), (30, 17), (30, 20), (33, 99), (34, 99), (35, 99), (36, 99), (37, 99), (38, 99), (39, 99), (40, 99), (41, 99)]
theorem F_M_amend  {S : ip_St} {r : Int32} {S9 : ip_St} (h : f_M_amend S = some (r, S9)) : ip_Fr w_M_amend S S9 := by
  unfold f_M_amend at h
  by_cases zhc1 : (f_M_lacks S) = true
  · rw [if_pos zhc1] at h
    cases h
    exact ip_Fr.rf
  · rw [if_neg zhc1] at h
    obtain ⟨⟨zv3, zS4⟩, hzq2, h⟩ := ip_bind h
    dsimp only at h
    have gzS4 : ip_Fr w_M_amend S zS4 := ip_Fr.trans ip_Fr.rf (ip_Fr.mono rfl (F_M_goLawFrom hzq2))
    by_cases zhc5 : zv3 < (zS4.1 30 2)
    · rw [if_pos zhc5] at h
      cases h
      exact gzS4
    · rw [if_neg zhc5] at h
      by_cases zhc6 : (f_M_isLawWhole zS4) = true
      · rw [if_pos zhc6] at h
        obtain ⟨zS8, hzq7, h⟩ := ip_bind h
        have gzS8 : ip_Fr w_M_amend S zS8 := ip_Fr.trans gzS4 (ip_Fr.mono rfl (F_M_layLaw hzq7))
        obtain ⟨zv10, hzq9, h⟩ := ip_bind h
        cases h
        exact (ip_Fr.upI rfl gzS8)
      · rw [if_neg zhc6] at h
        cases h
        exact gzS4
def w_A_lawFault : List (Nat × Nat) := [(2, 9), (2, 10), (2, 11), (2, 12), (3, 0), (3, 1), (3, 2), (3, 3), (3, 4), (4, 99), (5, 99), (6, 99), (7, 99), (8, 99), (9, 99), (10, 99), (11, 99)]
theorem F_A_lawFault  {S : ip_St} {r : Int32} {S9 : ip_St} (h : f_A_lawFault S = some (r, S9)) : ip_Fr w_A_lawFault S S9 := by
  unfold f_A_lawFault at h
  obtain ⟨⟨zv2, zS3⟩, hzq1, h⟩ := ip_bind h
  dsimp only at h
  have gzS3 : ip_Fr w_A_lawFault S zS3 := ip_Fr.trans ip_Fr.rf (ip_Fr.mono rfl (F_A_scanLaw hzq1))
  cases h
  exact gzS3
def w_M_lawFault : List (Nat × Nat) := [(30, 4), (30, 5), (33, 99)]
theorem F_M_lawFault  {S : ip_St} {r : Int32} {S9 : ip_St} (h : f_M_lawFault S = some (r, S9)) : ip_Fr w_M_lawFault S S9 := by
  unfold f_M_lawFault at h
  obtain ⟨⟨zv2, zS3⟩, hzq1, h⟩ := ip_bind h
  dsimp only at h
  have gzS3 : ip_Fr w_M_lawFault S zS3 := ip_Fr.trans ip_Fr.rf (ip_Fr.mono rfl (F_M_goLawFrom hzq1))
  cases h
  exact gzS3
def w_P_spread : List (Nat × Nat) := [(26, 2), (26, 3), (26, 6), (26, 9), (27, 99), (28, 99)]
theorem F_P_spread_71 {k30 : Int32 → Int64 → Int32 → ip_St → Option (ip_St)} (hk30 : ∀ {x1 : Int32} {x2 : Int64} {x4 : Int32} {S : ip_St} {S9 : ip_St}, k30 x1 x2 x4 S = some S9 → ip_Fr w_P_spread S S9) : ∀ (n : Nat) {x1 : Int32} {x2 : Int64} {x4 : Int32} {x5 : Int64} {x7 : Int32} {S : ip_St} {S9 : ip_St}, f_P_spread_71 k30 n x1 x2 x4 x5 x7 S = some S9 → ip_Fr w_P_spread S S9 := by
  intro n
  induction n with
  | zero =>
    intro x1 x2 x4 x5 x7 S S9 h
    cases h
  | succ n ih =>
    intro x1 x2 x4 x5 x7 S S9 h
    rw [f_P_spread_71] at h
    by_cases zhc1 : (S.1 26 9) ≤ x7
    · rw [if_pos zhc1] at h
      obtain ⟨zS2, hzS2, h⟩ := ip_bind h
      have gzS2 : ip_Fr w_P_spread S zS2 := ip_Fr.wI hzS2 rfl ip_Fr.rf
      exact ip_Fr.trans (ip_Fr.upI rfl (ip_Fr.upI rfl gzS2)) (hk30 h)
    · rw [if_neg zhc1] at h
      obtain ⟨zv3, hzv3, h⟩ := ip_bind h
      obtain ⟨zS4, hzS4, h⟩ := ip_bind h
      have gzS4 : ip_Fr w_P_spread S zS4 := ip_Fr.wL hzS4 rfl ip_Fr.rf
      obtain ⟨zv5, hzv5, h⟩ := ip_bind h
      obtain ⟨zS6, hzS6, h⟩ := ip_bind h
      have gzS6 : ip_Fr w_P_spread S zS6 := ip_Fr.wL hzS6 rfl gzS4
      exact ip_Fr.trans gzS6 (ih h)
theorem F_P_spread_30 : ∀ (n : Nat) {x1 : Int32} {x2 : Int64} {x4 : Int32} {S : ip_St} {S9 : ip_St}, f_P_spread_30 n x1 x2 x4 S = some S9 → ip_Fr w_P_spread S S9 := by
  intro n
  induction n with
  | zero =>
    intro x1 x2 x4 S S9 h
    cases h
  | succ n ih =>
    intro x1 x2 x4 S S9 h
    rw [f_P_spread_30] at h
    by_cases zhc1 : 6 ≤ x4
    · rw [if_pos zhc1] at h
      cases h
      exact ip_Fr.rf
    · rw [if_neg zhc1] at h
      obtain ⟨zv3, hzq2, h⟩ := ip_bind h
      by_cases zhc4 : (x2 &&& zv3) = 0
      · rw [if_pos zhc4] at h
        exact ip_Fr.trans ip_Fr.rf (ih h)
      · rw [if_neg zhc4] at h
        by_cases zhc5 : (x2 &&& (zv3 ^^^ (-1))) = 0
        · rw [if_pos zhc5] at h
          exact ip_Fr.trans ip_Fr.rf (ih h)
        · rw [if_neg zhc5] at h
          exact ip_Fr.trans ip_Fr.rf (F_P_spread_71 ih ip_FU h)
theorem F_P_spread {p1 : Int32} {p2 : Int64} {S : ip_St} {S9 : ip_St} (h : f_P_spread p1 p2 S = some S9) : ip_Fr w_P_spread S S9 := by
  unfold f_P_spread at h
  obtain ⟨zS1, hzS1, h⟩ := ip_bind h
  have gzS1 : ip_Fr w_P_spread S zS1 := ip_Fr.wL hzS1 rfl (ip_Fr.upL rfl (ip_Fr.upI rfl ip_Fr.rf))
  exact ip_Fr.trans (ip_Fr.upI rfl (ip_Fr.upI rfl gzS1)) (F_P_spread_30 ip_FU h)
def w_P_weigh : List (Nat × Nat) := [(26, 0), (26, 1), (26, 4), (29, 99)]
theorem F_P_weigh_72 {k12 : Int64 → Int32 → ip_St → Option (ip_St)} (hk12 : ∀ {x1 : Int64} {x3 : Int32} {S : ip_St} {S9 : ip_St}, k12 x1 x3 S = some S9 → ip_Fr w_P_weigh S S9) {x1 : Int64} {x3 : Int32} {s1 : Int32} {s2 : Int32} {S : ip_St} {S9 : ip_St} (h : f_P_weigh_72 k12 x1 x3 s1 s2 S = some S9) : ip_Fr w_P_weigh S S9 := by
  unfold f_P_weigh_72 at h
  obtain ⟨zS1, hzS1, h⟩ := ip_bind h
  have gzS1 : ip_Fr w_P_weigh S zS1 := ip_Fr.wI hzS1 rfl ip_Fr.rf
  exact ip_Fr.trans gzS1 (hk12 h)
theorem F_P_weigh_51 {k12 : Int64 → Int32 → ip_St → Option (ip_St)} (hk12 : ∀ {x1 : Int64} {x3 : Int32} {S : ip_St} {S9 : ip_St}, k12 x1 x3 S = some S9 → ip_Fr w_P_weigh S S9) {x1 : Int64} {x3 : Int32} {s0 : Int32} {S : ip_St} {S9 : ip_St} (h : f_P_weigh_51 k12 x1 x3 s0 S = some S9) : ip_Fr w_P_weigh S S9 := by
  unfold f_P_weigh_51 at h
  by_cases zhc1 : s0 = 0
  · rw [if_pos zhc1] at h
    exact ip_Fr.trans ip_Fr.rf (F_P_weigh_72 hk12 h)
  · rw [if_neg zhc1] at h
    obtain ⟨zv3, hzq2, h⟩ := ip_bind h
    exact ip_Fr.trans ip_Fr.rf (F_P_weigh_72 hk12 h)
theorem F_P_weigh_50 {k12 : Int64 → Int32 → ip_St → Option (ip_St)} (hk12 : ∀ {x1 : Int64} {x3 : Int32} {S : ip_St} {S9 : ip_St}, k12 x1 x3 S = some S9 → ip_Fr w_P_weigh S S9) {x1 : Int64} {x3 : Int32} {S : ip_St} {S9 : ip_St} (h : f_P_weigh_50 k12 x1 x3 S = some S9) : ip_Fr w_P_weigh S S9 := by
  unfold f_P_weigh_50 at h
  exact ip_Fr.trans ip_Fr.rf (F_P_weigh_51 hk12 h)
theorem F_P_weigh_12 : ∀ (n : Nat) {x1 : Int64} {x3 : Int32} {S : ip_St} {S9 : ip_St}, f_P_weigh_12 n x1 x3 S = some S9 → ip_Fr w_P_weigh S S9 := by
  intro n
  induction n with
  | zero =>
    intro x1 x3 S S9 h
    cases h
  | succ n ih =>
    intro x1 x3 S S9 h
    rw [f_P_weigh_12] at h
    by_cases zhc1 : x3 < 0
    · rw [if_pos zhc1] at h
      obtain ⟨zv2, hzv2, h⟩ := ip_bind h
      obtain ⟨zv4, hzq3, h⟩ := ip_bind h
      cases h
      exact (ip_Fr.upI rfl (ip_Fr.upI rfl ip_Fr.rf))
    · rw [if_neg zhc1] at h
      obtain ⟨zv5, hzv5, h⟩ := ip_bind h
      by_cases zhc6 : (zv5 &&& x1) = 0
      · rw [if_pos zhc6] at h
        exact ip_Fr.trans ip_Fr.rf (F_P_weigh_50 ih h)
      · rw [if_neg zhc6] at h
        by_cases zhc7 : (zv5 &&& (x1 ^^^ (-1))) = 0
        · rw [if_pos zhc7] at h
          exact ip_Fr.trans ip_Fr.rf (F_P_weigh_50 ih h)
        · rw [if_neg zhc7] at h
          exact ip_Fr.trans ip_Fr.rf (F_P_weigh_51 ih h)
theorem F_P_weigh {p1 : Int64} {S : ip_St} {S9 : ip_St} (h : f_P_weigh p1 S = some S9) : ip_Fr w_P_weigh S S9 := by
  unfold f_P_weigh at h
  exact ip_Fr.trans (ip_Fr.upL rfl ip_Fr.rf) (F_P_weigh_12 ip_FU h)
def w_A_prospectOf : List (Nat × Nat) := [(26, 0), (26, 1), (26, 2), (26, 3), (26, 4), (26, 6), (26, 9), (27, 99), (28, 99), (29, 99)]
theorem F_A_prospectOf {p1 : Nat} {S : ip_St} {S9 : ip_St} (hp1 : ip_ob p1 = some 1) (h : f_A_prospectOf p1 S = some S9) : ip_Fr w_A_prospectOf S S9 := by
  unfold f_A_prospectOf at h
  obtain ⟨zv2, hzq1, h⟩ := ip_bind h
  obtain ⟨zv4, hzq3, h⟩ := ip_bind h
  by_cases zhc5 : (f_P_isFor (S.1 p1 0) zv2 zv4 S) = true
  · rw [if_pos zhc5] at h
    cases h
    exact ip_Fr.rf
  · rw [if_neg zhc5] at h
    obtain ⟨zS7, hzq6, h⟩ := ip_bind h
    have gzS7 : ip_Fr w_A_prospectOf S zS7 := ip_Fr.trans ip_Fr.rf (ip_Fr.mono rfl (F_P_spread hzq6))
    obtain ⟨zS9, hzq8, h⟩ := ip_bind h
    have gzS9 : ip_Fr w_A_prospectOf S zS9 := ip_Fr.trans gzS7 (ip_Fr.mono rfl (F_P_weigh hzq8))
    cases h
    exact gzS9
def w_A_judge : List (Nat × Nat) := [(26, 0), (26, 1), (26, 2), (26, 3), (26, 4), (26, 6), (26, 9), (27, 99), (28, 99), (29, 99)]
theorem F_A_judge_77 {x1 : Int32} {x2 : Int32} {c3 : Nat} {S : ip_St} {r : Int32} {S9 : ip_St} (hc3 : ip_ob c3 = some 1) (h : f_A_judge_77 x1 x2 c3 S = some (r, S9)) : ip_Fr w_A_judge S S9 := by
  unfold f_A_judge_77 at h
  by_cases zhs1_0 : x2 = 0
  · rw [if_pos zhs1_0] at h
    cases h
    exact ip_Fr.rf
  rw [if_neg zhs1_0] at h
  by_cases zhs1_1 : x2 = 1
  · rw [if_pos zhs1_1] at h
    obtain ⟨zv3, hzq2, h⟩ := ip_bind h
    cases h
    exact ip_Fr.rf
  rw [if_neg zhs1_1] at h
  by_cases zhs1_2 : x2 = 2
  · rw [if_pos zhs1_2] at h
    obtain ⟨zv5, hzq4, h⟩ := ip_bind h
    cases h
    exact ip_Fr.rf
  rw [if_neg zhs1_2] at h
  by_cases zhs1_3 : x2 = 3
  · rw [if_pos zhs1_3] at h
    obtain ⟨zv7, hzq6, h⟩ := ip_bind h
    cases h
    exact ip_Fr.rf
  rw [if_neg zhs1_3] at h
  by_cases zhs1_4 : x2 = 4
  · rw [if_pos zhs1_4] at h
    obtain ⟨zS9, hzq8, h⟩ := ip_bind h
    have gzS9 : ip_Fr w_A_judge S zS9 := ip_Fr.trans ip_Fr.rf (ip_Fr.mono rfl (F_A_prospectOf hc3 hzq8))
    cases h
    exact gzS9
  rw [if_neg zhs1_4] at h
  by_cases zhs1_5 : x2 = 5
  · rw [if_pos zhs1_5] at h
    obtain ⟨zS11, hzq10, h⟩ := ip_bind h
    have gzS11 : ip_Fr w_A_judge S zS11 := ip_Fr.trans ip_Fr.rf (ip_Fr.mono rfl (F_A_prospectOf hc3 hzq10))
    cases h
    exact gzS11
  rw [if_neg zhs1_5] at h
  by_cases zhs1_6 : x2 = 6
  · rw [if_pos zhs1_6] at h
    obtain ⟨zv13, hzq12, h⟩ := ip_bind h
    obtain ⟨zv15, hzq14, h⟩ := ip_bind h
    obtain ⟨zv17, hzq16, h⟩ := ip_bind h
    cases h
    exact ip_Fr.rf
  rw [if_neg zhs1_6] at h
  by_cases zhs1_7 : x2 = 7
  · rw [if_pos zhs1_7] at h
    cases h
    exact ip_Fr.rf
  rw [if_neg zhs1_7] at h
  by_cases zhs1_8 : x2 = 8
  · rw [if_pos zhs1_8] at h
    obtain ⟨zv19, hzq18, h⟩ := ip_bind h
    cases h
    exact ip_Fr.rf
  rw [if_neg zhs1_8] at h
  by_cases zhs1_9 : x2 = 9
  · rw [if_pos zhs1_9] at h
    obtain ⟨zv21, hzq20, h⟩ := ip_bind h
    cases h
    exact ip_Fr.rf
  rw [if_neg zhs1_9] at h
  by_cases zhs1_10 : x2 = 10
  · rw [if_pos zhs1_10] at h
    obtain ⟨zv23, hzq22, h⟩ := ip_bind h
    obtain ⟨zv25, hzq24, h⟩ := ip_bind h
    cases h
    exact ip_Fr.rf
  rw [if_neg zhs1_10] at h
  cases h
  exact ip_Fr.rf
theorem F_A_judge_49 {x1 : Int32} {x2 : Int32} {c3 : Nat} {S : ip_St} {r : Int32} {S9 : ip_St} (hc3 : ip_ob c3 = some 1) (h : f_A_judge_49 x1 x2 c3 S = some (r, S9)) : ip_Fr w_A_judge S S9 := by
  unfold f_A_judge_49 at h
  by_cases zhc1 : x2 < 30
  · rw [if_pos zhc1] at h
    exact ip_Fr.trans ip_Fr.rf (F_A_judge_77 hc3 h)
  · rw [if_neg zhc1] at h
    by_cases zhc2 : 36 ≤ x2
    · rw [if_pos zhc2] at h
      exact ip_Fr.trans ip_Fr.rf (F_A_judge_77 hc3 h)
    · rw [if_neg zhc2] at h
      cases h
      exact ip_Fr.rf
theorem F_A_judge {p1 : Int32} {p2 : Int32} {S : ip_St} {r : Int32} {S9 : ip_St} (h : f_A_judge p1 p2 S = some (r, S9)) : ip_Fr w_A_judge S S9 := by
  unfold f_A_judge at h
  by_cases zhc1 : (f_A_isJudge p1 S) = true
  · rw [if_pos zhc1] at h
    obtain ⟨zv2, hzv2, h⟩ := ip_bind h
    have hozv2 := ip_aA_ob hzv2
    by_cases zhc3 : p2 < 20
    · rw [if_pos zhc3] at h
      exact ip_Fr.trans ip_Fr.rf (F_A_judge_49 hozv2 h)
    · rw [if_neg zhc3] at h
      by_cases zhc4 : 26 ≤ p2
      · rw [if_pos zhc4] at h
        exact ip_Fr.trans ip_Fr.rf (F_A_judge_49 hozv2 h)
      · rw [if_neg zhc4] at h
        cases h
        exact ip_Fr.rf
  · rw [if_neg zhc1] at h
    cases h
    exact ip_Fr.rf
def w_M_strikeOf : List (Nat × Nat) := [(30, 14), (34, 99), (35, 99), (36, 99), (37, 99), (38, 99), (39, 99), (40, 99)]
theorem F_M_strikeOf_77 {k24 : Int32 → Int64 → Int32 → Int32 → Int32 → ip_St → Option (Int32 × ip_St)} (hk24 : ∀ {x1 : Int32} {x2 : Int64} {x4 : Int32} {x5 : Int32} {x6 : Int32} {S : ip_St} {r : Int32} {S9 : ip_St}, k24 x1 x2 x4 x5 x6 S = some (r, S9) → ip_Fr w_M_strikeOf S S9) {x1 : Int32} {x2 : Int64} {x5 : Int32} {x6 : Int32} {x7 : Int32} {s0 : Int32} {S : ip_St} {r : Int32} {S9 : ip_St} (h : f_M_strikeOf_77 k24 x1 x2 x5 x6 x7 s0 S = some (r, S9)) : ip_Fr w_M_strikeOf S S9 := by
  unfold f_M_strikeOf_77 at h
  by_cases zhc1 : x7 ≤ x5
  · rw [if_pos zhc1] at h
    exact ip_Fr.trans ip_Fr.rf (hk24 h)
  · rw [if_neg zhc1] at h
    exact ip_Fr.trans ip_Fr.rf (hk24 h)
theorem F_M_strikeOf_24 : ∀ (n : Nat) {x1 : Int32} {x2 : Int64} {x4 : Int32} {x5 : Int32} {x6 : Int32} {S : ip_St} {r : Int32} {S9 : ip_St}, f_M_strikeOf_24 n x1 x2 x4 x5 x6 S = some (r, S9) → ip_Fr w_M_strikeOf S S9 := by
  intro n
  induction n with
  | zero =>
    intro x1 x2 x4 x5 x6 S r S9 h
    cases h
  | succ n ih =>
    intro x1 x2 x4 x5 x6 S r S9 h
    rw [f_M_strikeOf_24] at h
    by_cases zhc1 : 6 ≤ x6
    · rw [if_pos zhc1] at h
      cases h
      exact ip_Fr.rf
    · rw [if_neg zhc1] at h
      obtain ⟨zv2, hzv2, h⟩ := ip_bind h
      obtain ⟨⟨zv4, zS5⟩, hzq3, h⟩ := ip_bind h
      dsimp only at h
      have gzS5 : ip_Fr w_M_strikeOf S zS5 := ip_Fr.trans ip_Fr.rf (ip_Fr.mono rfl (F_M_lawRow hzq3))
      obtain ⟨zv7, hzq6, h⟩ := ip_bind h
      obtain ⟨zv9, hzq8, h⟩ := ip_bind h
      by_cases zhc10 : zv9 ≤ x5
      · rw [if_pos zhc10] at h
        exact ip_Fr.trans gzS5 (F_M_strikeOf_77 ih h)
      · rw [if_neg zhc10] at h
        exact ip_Fr.trans gzS5 (F_M_strikeOf_77 ih h)
theorem F_M_strikeOf {p1 : Int32} {S : ip_St} {r : Int32} {S9 : ip_St} (h : f_M_strikeOf p1 S = some (r, S9)) : ip_Fr w_M_strikeOf S S9 := by
  unfold f_M_strikeOf at h
  obtain ⟨zv2, hzq1, h⟩ := ip_bind h
  obtain ⟨zv4, hzq3, h⟩ := ip_bind h
  obtain ⟨zv6, hzq5, h⟩ := ip_bind h
  exact ip_Fr.trans ip_Fr.rf (F_M_strikeOf_24 ip_FU h)
def w_M_layCode : List (Nat × Nat) := [(45, 99), (46, 99), (47, 99)]
theorem F_M_layCode_203 {k53 : Int32 → Int64 → Int32 → Int32 → ip_St → Option (ip_St)} {k80 : Int32 → Int64 → Int32 → Int32 → Int32 → Int32 → ip_St → Option (ip_St)} (hk53 : ∀ {x1 : Int32} {x2 : Int64} {x6 : Int32} {x7 : Int32} {S : ip_St} {S9 : ip_St}, k53 x1 x2 x6 x7 S = some S9 → ip_Fr w_M_layCode S S9) (hk80 : ∀ {x1 : Int32} {x2 : Int64} {x6 : Int32} {x7 : Int32} {x8 : Int32} {x9 : Int32} {S : ip_St} {S9 : ip_St}, k80 x1 x2 x6 x7 x8 x9 S = some S9 → ip_Fr w_M_layCode S S9) {x1 : Int32} {x2 : Int64} {x6 : Int32} {x7 : Int32} {x8 : Int32} {x9 : Int32} {s1 : Int32} {s2 : Int32} {S : ip_St} {S9 : ip_St} (h : f_M_layCode_203 k53 k80 x1 x2 x6 x7 x8 x9 s1 s2 S = some S9) : ip_Fr w_M_layCode S S9 := by
  unfold f_M_layCode_203 at h
  obtain ⟨zS1, hzS1, h⟩ := ip_bind h
  have gzS1 : ip_Fr w_M_layCode S zS1 := ip_Fr.wI hzS1 rfl ip_Fr.rf
  exact ip_Fr.trans gzS1 (hk80 h)
theorem F_M_layCode_197 {k53 : Int32 → Int64 → Int32 → Int32 → ip_St → Option (ip_St)} {k80 : Int32 → Int64 → Int32 → Int32 → Int32 → Int32 → ip_St → Option (ip_St)} (hk53 : ∀ {x1 : Int32} {x2 : Int64} {x6 : Int32} {x7 : Int32} {S : ip_St} {S9 : ip_St}, k53 x1 x2 x6 x7 S = some S9 → ip_Fr w_M_layCode S S9) (hk80 : ∀ {x1 : Int32} {x2 : Int64} {x6 : Int32} {x7 : Int32} {x8 : Int32} {x9 : Int32} {S : ip_St} {S9 : ip_St}, k80 x1 x2 x6 x7 x8 x9 S = some S9 → ip_Fr w_M_layCode S S9) {x1 : Int32} {x2 : Int64} {x6 : Int32} {x7 : Int32} {x8 : Int32} {x9 : Int32} {s1 : Int32} {S : ip_St} {S9 : ip_St} (h : f_M_layCode_197 k53 k80 x1 x2 x6 x7 x8 x9 s1 S = some S9) : ip_Fr w_M_layCode S S9 := by
  unfold f_M_layCode_197 at h
  obtain ⟨zv1, hzv1, h⟩ := ip_bind h
  exact ip_Fr.trans ip_Fr.rf (F_M_layCode_203 hk53 hk80 h)
theorem F_M_layCode_155 {k53 : Int32 → Int64 → Int32 → Int32 → ip_St → Option (ip_St)} {k80 : Int32 → Int64 → Int32 → Int32 → Int32 → Int32 → ip_St → Option (ip_St)} (hk53 : ∀ {x1 : Int32} {x2 : Int64} {x6 : Int32} {x7 : Int32} {S : ip_St} {S9 : ip_St}, k53 x1 x2 x6 x7 S = some S9 → ip_Fr w_M_layCode S S9) (hk80 : ∀ {x1 : Int32} {x2 : Int64} {x6 : Int32} {x7 : Int32} {x8 : Int32} {x9 : Int32} {S : ip_St} {S9 : ip_St}, k80 x1 x2 x6 x7 x8 x9 S = some S9 → ip_Fr w_M_layCode S S9) {x1 : Int32} {x2 : Int64} {x6 : Int32} {x7 : Int32} {x9 : Int32} {x10 : Int32} {x11 : Int32} {s0 : Int32} {S : ip_St} {S9 : ip_St} (h : f_M_layCode_155 k53 k80 x1 x2 x6 x7 x9 x10 x11 s0 S = some S9) : ip_Fr w_M_layCode S S9 := by
  unfold f_M_layCode_155 at h
  by_cases zhc1 : x11 = 0
  · rw [if_pos zhc1] at h
    exact ip_Fr.trans ip_Fr.rf (F_M_layCode_197 hk53 hk80 h)
  · rw [if_neg zhc1] at h
    obtain ⟨zv2, hzv2, h⟩ := ip_bind h
    obtain ⟨zv3, hzv3, h⟩ := ip_bind h
    by_cases zhc4 : zv3 ≤ (zv2 + 1)
    · rw [if_pos zhc4] at h
      exact ip_Fr.trans ip_Fr.rf (F_M_layCode_197 hk53 hk80 h)
    · rw [if_neg zhc4] at h
      obtain ⟨zv5, hzv5, h⟩ := ip_bind h
      exact ip_Fr.trans ip_Fr.rf (F_M_layCode_203 hk53 hk80 h)
theorem F_M_layCode_153 {k53 : Int32 → Int64 → Int32 → Int32 → ip_St → Option (ip_St)} {k80 : Int32 → Int64 → Int32 → Int32 → Int32 → Int32 → ip_St → Option (ip_St)} (hk53 : ∀ {x1 : Int32} {x2 : Int64} {x6 : Int32} {x7 : Int32} {S : ip_St} {S9 : ip_St}, k53 x1 x2 x6 x7 S = some S9 → ip_Fr w_M_layCode S S9) (hk80 : ∀ {x1 : Int32} {x2 : Int64} {x6 : Int32} {x7 : Int32} {x8 : Int32} {x9 : Int32} {S : ip_St} {S9 : ip_St}, k80 x1 x2 x6 x7 x8 x9 S = some S9 → ip_Fr w_M_layCode S S9) {x1 : Int32} {x2 : Int64} {x6 : Int32} {x7 : Int32} {x8 : Int32} {x9 : Int32} {x10 : Int32} {x11 : Int32} {S : ip_St} {S9 : ip_St} (h : f_M_layCode_153 k53 k80 x1 x2 x6 x7 x8 x9 x10 x11 S = some S9) : ip_Fr w_M_layCode S S9 := by
  unfold f_M_layCode_153 at h
  exact ip_Fr.trans ip_Fr.rf (F_M_layCode_155 hk53 hk80 h)
theorem F_M_layCode_124 {k53 : Int32 → Int64 → Int32 → Int32 → ip_St → Option (ip_St)} {k80 : Int32 → Int64 → Int32 → Int32 → Int32 → Int32 → ip_St → Option (ip_St)} (hk53 : ∀ {x1 : Int32} {x2 : Int64} {x6 : Int32} {x7 : Int32} {S : ip_St} {S9 : ip_St}, k53 x1 x2 x6 x7 S = some S9 → ip_Fr w_M_layCode S S9) (hk80 : ∀ {x1 : Int32} {x2 : Int64} {x6 : Int32} {x7 : Int32} {x8 : Int32} {x9 : Int32} {S : ip_St} {S9 : ip_St}, k80 x1 x2 x6 x7 x8 x9 S = some S9 → ip_Fr w_M_layCode S S9) {x1 : Int32} {x2 : Int64} {x6 : Int32} {x7 : Int32} {x8 : Int32} {x9 : Int32} {x10 : Int32} {s0 : Int32} {S : ip_St} {S9 : ip_St} (h : f_M_layCode_124 k53 k80 x1 x2 x6 x7 x8 x9 x10 s0 S = some S9) : ip_Fr w_M_layCode S S9 := by
  unfold f_M_layCode_124 at h
  by_cases zhc1 : s0 = 0
  · rw [if_pos zhc1] at h
    exact ip_Fr.trans ip_Fr.rf (F_M_layCode_153 hk53 hk80 h)
  · rw [if_neg zhc1] at h
    obtain ⟨zv2, hzv2, h⟩ := ip_bind h
    by_cases zhc3 : zv2 ≤ x8
    · rw [if_pos zhc3] at h
      exact ip_Fr.trans ip_Fr.rf (F_M_layCode_153 hk53 hk80 h)
    · rw [if_neg zhc3] at h
      obtain ⟨zv4, hzv4, h⟩ := ip_bind h
      exact ip_Fr.trans ip_Fr.rf (F_M_layCode_155 hk53 hk80 h)
theorem F_M_layCode_80 {k53 : Int32 → Int64 → Int32 → Int32 → ip_St → Option (ip_St)} (hk53 : ∀ {x1 : Int32} {x2 : Int64} {x6 : Int32} {x7 : Int32} {S : ip_St} {S9 : ip_St}, k53 x1 x2 x6 x7 S = some S9 → ip_Fr w_M_layCode S S9) : ∀ (n : Nat) {x1 : Int32} {x2 : Int64} {x6 : Int32} {x7 : Int32} {x8 : Int32} {x9 : Int32} {S : ip_St} {S9 : ip_St}, f_M_layCode_80 k53 n x1 x2 x6 x7 x8 x9 S = some S9 → ip_Fr w_M_layCode S S9 := by
  intro n
  induction n with
  | zero =>
    intro x1 x2 x6 x7 x8 x9 S S9 h
    cases h
  | succ n ih =>
    intro x1 x2 x6 x7 x8 x9 S S9 h
    rw [f_M_layCode_80] at h
    by_cases zhc1 : 2 ≤ x9
    · rw [if_pos zhc1] at h
      obtain ⟨zv2, hzv2, h⟩ := ip_bind h
      by_cases zhc3 : zv2 ≤ (x8 + 1)
      · rw [if_pos zhc3] at h
        exact ip_Fr.trans ip_Fr.rf (hk53 h)
      · rw [if_neg zhc3] at h
        obtain ⟨zS4, hzS4, h⟩ := ip_bind h
        have gzS4 : ip_Fr w_M_layCode S zS4 := ip_Fr.wI hzS4 rfl ip_Fr.rf
        obtain ⟨zS5, hzS5, h⟩ := ip_bind h
        have gzS5 : ip_Fr w_M_layCode S zS5 := ip_Fr.wI hzS5 rfl gzS4
        exact ip_Fr.trans gzS5 (hk53 h)
    · rw [if_neg zhc1] at h
      obtain ⟨zv6, hzv6, h⟩ := ip_bind h
      by_cases zhc7 : (x2 &&& (f_M_keptIf zv6 x9)) = 0
      · rw [if_pos zhc7] at h
        exact ip_Fr.trans ip_Fr.rf (F_M_layCode_124 hk53 ih h)
      · rw [if_neg zhc7] at h
        exact ip_Fr.trans ip_Fr.rf (F_M_layCode_124 hk53 ih h)
theorem F_M_layCode_53 : ∀ (n : Nat) {x1 : Int32} {x2 : Int64} {x6 : Int32} {x7 : Int32} {S : ip_St} {S9 : ip_St}, f_M_layCode_53 n x1 x2 x6 x7 S = some S9 → ip_Fr w_M_layCode S S9 := by
  intro n
  induction n with
  | zero =>
    intro x1 x2 x6 x7 S S9 h
    cases h
  | succ n ih =>
    intro x1 x2 x6 x7 S S9 h
    rw [f_M_layCode_53] at h
    by_cases zhc1 : 6 ≤ x7
    · rw [if_pos zhc1] at h
      cases h
      exact ip_Fr.rf
    · rw [if_neg zhc1] at h
      by_cases zhc2 : ¬ x6 = 0
      · rw [if_neg zhc2] at h
        cases h
        exact ip_Fr.rf
      · rw [if_pos (Decidable.of_not_not zhc2)] at h
        obtain ⟨zv4, hzq3, h⟩ := ip_bind h
        by_cases zhc5 : ¬ zv4 = 0
        · rw [if_neg zhc5] at h
          exact ip_Fr.trans ip_Fr.rf (ih h)
        · rw [if_pos (Decidable.of_not_not zhc5)] at h
          exact ip_Fr.trans ip_Fr.rf (F_M_layCode_80 ih ip_FU h)
theorem F_M_layCode_49 {x1 : Int32} {x2 : Int64} {x6 : Int32} {s1 : Int32} {s2 : Int32} {S : ip_St} {S9 : ip_St} (h : f_M_layCode_49 x1 x2 x6 s1 s2 S = some S9) : ip_Fr w_M_layCode S S9 := by
  unfold f_M_layCode_49 at h
  obtain ⟨zS1, hzS1, h⟩ := ip_bind h
  have gzS1 : ip_Fr w_M_layCode S zS1 := ip_Fr.wI hzS1 rfl ip_Fr.rf
  exact ip_Fr.trans gzS1 (F_M_layCode_53 ip_FU h)
theorem F_M_layCode_24 {x1 : Int32} {x2 : Int64} {x6 : Int32} {s1 : Int32} {s2 : Int32} {S : ip_St} {S9 : ip_St} (h : f_M_layCode_24 x1 x2 x6 s1 s2 S = some S9) : ip_Fr w_M_layCode S S9 := by
  unfold f_M_layCode_24 at h
  obtain ⟨zS1, hzS1, h⟩ := ip_bind h
  have gzS1 : ip_Fr w_M_layCode S zS1 := ip_Fr.wI hzS1 rfl ip_Fr.rf
  obtain ⟨zS2, hzS2, h⟩ := ip_bind h
  have gzS2 : ip_Fr w_M_layCode S zS2 := ip_Fr.wI hzS2 rfl gzS1
  by_cases zhc3 : ¬ x6 = 1
  · rw [if_neg zhc3] at h
    exact ip_Fr.trans gzS2 (F_M_layCode_49 h)
  · rw [if_pos (Decidable.of_not_not zhc3)] at h
    exact ip_Fr.trans gzS2 (F_M_layCode_49 h)
theorem F_M_layCode {p1 : Int32} {p2 : Int64} {p3 : Int64} {S : ip_St} {S9 : ip_St} (h : f_M_layCode p1 p2 p3 S = some S9) : ip_Fr w_M_layCode S S9 := by
  unfold f_M_layCode at h
  by_cases zhc1 : ¬ (f_M_verdictBy p2 p3) = 0
  · rw [if_neg zhc1] at h
    exact ip_Fr.trans ip_Fr.rf (F_M_layCode_24 h)
  · rw [if_pos (Decidable.of_not_not zhc1)] at h
    exact ip_Fr.trans ip_Fr.rf (F_M_layCode_24 h)
def w_M_layCodes : List (Nat × Nat) := [(45, 99), (46, 99), (47, 99), (48, 99)]
theorem F_M_layCodes_127 : ∀ (n : Nat) {x2 : Int64} {x4 : Int64} {x6 : Int32} {x7 : Int32} {S : ip_St} {r : Int32} {S9 : ip_St}, f_M_layCodes_127 n x2 x4 x6 x7 S = some (r, S9) → ip_Fr w_M_layCodes S S9 := by
  intro n
  induction n with
  | zero =>
    intro x2 x4 x6 x7 S r S9 h
    cases h
  | succ n ih =>
    intro x2 x4 x6 x7 S r S9 h
    rw [f_M_layCodes_127] at h
    by_cases zhc1 : x7 < 0
    · rw [if_pos zhc1] at h
      cases h
      exact ip_Fr.rf
    · rw [if_neg zhc1] at h
      obtain ⟨zv3, hzq2, h⟩ := ip_bind h
      obtain ⟨zS5, hzq4, h⟩ := ip_bind h
      have gzS5 : ip_Fr w_M_layCodes S zS5 := ip_Fr.trans ip_Fr.rf (ip_Fr.mono rfl (F_M_layCode hzq4))
      exact ip_Fr.trans gzS5 (ih h)
theorem F_M_layCodes_89 {k17 : Int32 → Int64 → Int64 → Int32 → Int32 → ip_St → Option (Int32 × ip_St)} (hk17 : ∀ {x1 : Int32} {x2 : Int64} {x4 : Int64} {x6 : Int32} {x7 : Int32} {S : ip_St} {r : Int32} {S9 : ip_St}, k17 x1 x2 x4 x6 x7 S = some (r, S9) → ip_Fr w_M_layCodes S S9) {x1 : Int32} {x4 : Int64} {x6 : Int32} {x7 : Int32} {s0 : Int64} {s1 : Int64} {S : ip_St} {r : Int32} {S9 : ip_St} (h : f_M_layCodes_89 k17 x1 x4 x6 x7 s0 s1 S = some (r, S9)) : ip_Fr w_M_layCodes S S9 := by
  unfold f_M_layCodes_89 at h
  obtain ⟨zv1, hzv1, h⟩ := ip_bind h
  exact ip_Fr.trans ip_Fr.rf (hk17 h)
theorem F_M_layCodes_17 : ∀ (n : Nat) {x1 : Int32} {x2 : Int64} {x4 : Int64} {x6 : Int32} {x7 : Int32} {S : ip_St} {r : Int32} {S9 : ip_St}, f_M_layCodes_17 n x1 x2 x4 x6 x7 S = some (r, S9) → ip_Fr w_M_layCodes S S9 := by
  intro n
  induction n with
  | zero =>
    intro x1 x2 x4 x6 x7 S r S9 h
    cases h
  | succ n ih =>
    intro x1 x2 x4 x6 x7 S r S9 h
    rw [f_M_layCodes_17] at h
    by_cases zhc1 : 6 ≤ x7
    · rw [if_pos zhc1] at h
      exact ip_Fr.trans ip_Fr.rf (F_M_layCodes_127 ip_FU h)
    · rw [if_neg zhc1] at h
      obtain ⟨zv2, hzv2, h⟩ := ip_bind h
      obtain ⟨zv4, hzq3, h⟩ := ip_bind h
      obtain ⟨zS5, hzS5, h⟩ := ip_bind h
      have gzS5 : ip_Fr w_M_layCodes S zS5 := ip_Fr.wL hzS5 rfl ip_Fr.rf
      obtain ⟨zv6, hzv6, h⟩ := ip_bind h
      by_cases zhc7 : ¬ zv6 = (-1)
      · rw [if_neg zhc7] at h
        obtain ⟨zv9, hzq8, h⟩ := ip_bind h
        obtain ⟨zv10, hzv10, h⟩ := ip_bind h
        exact ip_Fr.trans gzS5 (F_M_layCodes_89 ih h)
      · rw [if_pos (Decidable.of_not_not zhc7)] at h
        exact ip_Fr.trans gzS5 (F_M_layCodes_89 ih h)
theorem F_M_layCodes {p1 : Int32} {S : ip_St} {r : Int32} {S9 : ip_St} (h : f_M_layCodes p1 S = some (r, S9)) : ip_Fr w_M_layCodes S S9 := by
  unfold f_M_layCodes at h
  obtain ⟨zv2, hzq1, h⟩ := ip_bind h
  exact ip_Fr.trans ip_Fr.rf (F_M_layCodes_17 ip_FU h)
def w_M_leftOf : List (Nat × Nat) := [(45, 99), (46, 99), (47, 99), (48, 99)]
theorem F_M_leftOf {p1 : Int32} {p2 : Int32} {S : ip_St} {r : Int32} {S9 : ip_St} (h : f_M_leftOf p1 p2 S = some (r, S9)) : ip_Fr w_M_leftOf S S9 := by
  unfold f_M_leftOf at h
  obtain ⟨⟨zv2, zS3⟩, hzq1, h⟩ := ip_bind h
  dsimp only at h
  have gzS3 : ip_Fr w_M_leftOf S zS3 := ip_Fr.trans ip_Fr.rf (ip_Fr.mono rfl (F_M_layCodes hzq1))
  by_cases zhc4 : ¬ p2 = 4
  · rw [if_neg zhc4] at h
    by_cases zhc5 : ¬ p2 = 5
    · rw [if_neg zhc5] at h
      obtain ⟨zv6, hzv6, h⟩ := ip_bind h
      by_cases zhc7 : zv6 ≤ 9
      · rw [if_pos zhc7] at h
        obtain ⟨zv8, hzv8, h⟩ := ip_bind h
        cases h
        exact gzS3
      · rw [if_neg zhc7] at h
        cases h
        exact gzS3
    · rw [if_pos (Decidable.of_not_not zhc5)] at h
      obtain ⟨zv9, hzv9, h⟩ := ip_bind h
      cases h
      exact gzS3
  · rw [if_pos (Decidable.of_not_not zhc4)] at h
    obtain ⟨zv10, hzv10, h⟩ := ip_bind h
    cases h
    exact gzS3
def w_M_tellJudge : List (Nat × Nat) := [(30, 14), (34, 99), (35, 99), (36, 99), (37, 99), (38, 99), (39, 99), (40, 99), (45, 99), (46, 99), (47, 99), (48, 99)]
theorem F_M_tellJudge {p1 : Int32} {p2 : Int32} {S : ip_St} {r : Int32} {S9 : ip_St} (h : f_M_tellJudge p1 p2 S = some (r, S9)) : ip_Fr w_M_tellJudge S S9 := by
  unfold f_M_tellJudge at h
  by_cases zhc1 : (f_M_in (Int32.toInt64 p2) 20 25) = false
  · rw [if_pos zhc1] at h
    by_cases zhc2 : (f_M_in (Int32.toInt64 p2) 30 35) = false
    · rw [if_pos zhc2] at h
      by_cases zhs3_0 : p2 = 0
      · rw [if_pos zhs3_0] at h
        obtain ⟨zv4, hzv4, h⟩ := ip_bind h
        cases h
        exact ip_Fr.rf
      rw [if_neg zhs3_0] at h
      by_cases zhs3_1 : p2 = 1
      · rw [if_pos zhs3_1] at h
        obtain ⟨zv6, hzq5, h⟩ := ip_bind h
        obtain ⟨zv8, hzq7, h⟩ := ip_bind h
        cases h
        exact ip_Fr.rf
      rw [if_neg zhs3_1] at h
      by_cases zhs3_2 : p2 = 2
      · rw [if_pos zhs3_2] at h
        obtain ⟨zv10, hzq9, h⟩ := ip_bind h
        obtain ⟨zv12, hzq11, h⟩ := ip_bind h
        obtain ⟨zv14, hzq13, h⟩ := ip_bind h
        cases h
        exact ip_Fr.rf
      rw [if_neg zhs3_2] at h
      by_cases zhs3_3 : p2 = 3
      · rw [if_pos zhs3_3] at h
        obtain ⟨zv16, hzq15, h⟩ := ip_bind h
        obtain ⟨zv18, hzq17, h⟩ := ip_bind h
        cases h
        exact ip_Fr.rf
      rw [if_neg zhs3_3] at h
      by_cases zhs3_4 : p2 = 4
      · rw [if_pos zhs3_4] at h
        obtain ⟨⟨zv20, zS21⟩, hzq19, h⟩ := ip_bind h
        dsimp only at h
        have gzS21 : ip_Fr w_M_tellJudge S zS21 := ip_Fr.trans ip_Fr.rf (ip_Fr.mono rfl (F_M_leftOf hzq19))
        cases h
        exact gzS21
      rw [if_neg zhs3_4] at h
      by_cases zhs3_5 : p2 = 5
      · rw [if_pos zhs3_5] at h
        obtain ⟨⟨zv23, zS24⟩, hzq22, h⟩ := ip_bind h
        dsimp only at h
        have gzS24 : ip_Fr w_M_tellJudge S zS24 := ip_Fr.trans ip_Fr.rf (ip_Fr.mono rfl (F_M_leftOf hzq22))
        cases h
        exact gzS24
      rw [if_neg zhs3_5] at h
      by_cases zhs3_6 : p2 = 6
      · rw [if_pos zhs3_6] at h
        obtain ⟨⟨zv26, zS27⟩, hzq25, h⟩ := ip_bind h
        dsimp only at h
        have gzS27 : ip_Fr w_M_tellJudge S zS27 := ip_Fr.trans ip_Fr.rf (ip_Fr.mono rfl (F_M_leftOf hzq25))
        cases h
        exact gzS27
      rw [if_neg zhs3_6] at h
      by_cases zhs3_7 : p2 = 7
      · rw [if_pos zhs3_7] at h
        obtain ⟨zv29, hzq28, h⟩ := ip_bind h
        cases h
        exact ip_Fr.rf
      rw [if_neg zhs3_7] at h
      by_cases zhs3_8 : p2 = 8
      · rw [if_pos zhs3_8] at h
        obtain ⟨⟨zv31, zS32⟩, hzq30, h⟩ := ip_bind h
        dsimp only at h
        have gzS32 : ip_Fr w_M_tellJudge S zS32 := ip_Fr.trans ip_Fr.rf (ip_Fr.mono rfl (F_M_strikeOf hzq30))
        cases h
        exact gzS32
      rw [if_neg zhs3_8] at h
      by_cases zhs3_9 : p2 = 9
      · rw [if_pos zhs3_9] at h
        obtain ⟨zv34, hzq33, h⟩ := ip_bind h
        cases h
        exact ip_Fr.rf
      rw [if_neg zhs3_9] at h
      by_cases zhs3_10 : p2 = 10
      · rw [if_pos zhs3_10] at h
        obtain ⟨zv36, hzq35, h⟩ := ip_bind h
        cases h
        exact ip_Fr.rf
      rw [if_neg zhs3_10] at h
      cases h
      exact ip_Fr.rf
    · rw [if_neg zhc2] at h
      obtain ⟨zv37, hzv37, h⟩ := ip_bind h
      cases h
      exact ip_Fr.rf
  · rw [if_neg zhc1] at h
    obtain ⟨zv38, hzv38, h⟩ := ip_bind h
    cases h
    exact ip_Fr.rf
def w_M_judge : List (Nat × Nat) := [(30, 14), (34, 99), (35, 99), (36, 99), (37, 99), (38, 99), (39, 99), (40, 99), (45, 99), (46, 99), (47, 99), (48, 99)]
theorem F_M_judge {p1 : Int32} {p2 : Int32} {S : ip_St} {r : Int32} {S9 : ip_St} (h : f_M_judge p1 p2 S = some (r, S9)) : ip_Fr w_M_judge S S9 := by
  unfold f_M_judge at h
  by_cases zhc1 : (f_M_isJudge p1 S) = false
  · rw [if_pos zhc1] at h
    cases h
    exact ip_Fr.rf
  · rw [if_neg zhc1] at h
    obtain ⟨⟨zv3, zS4⟩, hzq2, h⟩ := ip_bind h
    dsimp only at h
    have gzS4 : ip_Fr w_M_judge S zS4 := ip_Fr.trans ip_Fr.rf (ip_Fr.mono rfl (F_M_tellJudge hzq2))
    cases h
    exact gzS4
def w_A_ask : List (Nat × Nat) := [(12, 4), (100, 0)]
theorem F_A_ask_115 {x2 : Int32} {x3 : Int32} {c4 : Nat} {S : ip_St} {r : Int32} {S9 : ip_St} (hc4 : ip_ob c4 = some 1) (h : f_A_ask_115 x2 x3 c4 S = some (r, S9)) : ip_Fr w_A_ask S S9 := by
  unfold f_A_ask_115 at h
  obtain ⟨zv2, hzq1, h⟩ := ip_bind h
  cases h
  exact (ip_Fr.upJ hc4 rfl (ip_Fr.upJ hc4 rfl ip_Fr.rf))
theorem F_A_ask {p1 : Int32} {p2 : Int32} {p3 : Int32} {S : ip_St} {r : Int32} {S9 : ip_St} (h : f_A_ask p1 p2 p3 S = some (r, S9)) : ip_Fr w_A_ask S S9 := by
  unfold f_A_ask at h
  by_cases zhc1 : (f_A_isJudge p1 S) = false
  · rw [if_pos zhc1] at h
    cases h
    exact ip_Fr.rf
  · rw [if_neg zhc1] at h
    by_cases zhc2 : (f_A_isFact p2) = true
    · rw [if_pos zhc2] at h
      by_cases zhc3 : (f_A_isAnswer p3) = true
      · rw [if_pos zhc3] at h
        obtain ⟨zv4, hzv4, h⟩ := ip_bind h
        have hozv4 := ip_aA_ob hzv4
        by_cases zhc5 : (f_A_bit (S.1 zv4 3) p2) = 1
        · rw [if_pos zhc5] at h
          cases h
          exact ip_Fr.rf
        · rw [if_neg zhc5] at h
          obtain ⟨zv7, hzq6, h⟩ := ip_bind h
          obtain ⟨zv9, hzq8, h⟩ := ip_bind h
          by_cases zhc10 : ¬ (zv7 &&& zv9) = 0
          · rw [if_neg zhc10] at h
            by_cases zhc11 : ¬ ((ip_upI S 12 4 ((S.1 12 4) + 1)).1 zv4 0) = 2
            · rw [if_neg zhc11] at h
              exact ip_Fr.trans (ip_Fr.upI rfl ip_Fr.rf) (F_A_ask_115 hozv4 h)
            · rw [if_pos (Decidable.of_not_not zhc11)] at h
              by_cases zhc12 : ¬ ((ip_upI S 12 4 ((S.1 12 4) + 1)).1 zv4 5) = 0
              · rw [if_neg zhc12] at h
                exact ip_Fr.trans (ip_Fr.upI rfl ip_Fr.rf) (F_A_ask_115 hozv4 h)
              · rw [if_pos (Decidable.of_not_not zhc12)] at h
                cases h
                exact (ip_Fr.upJ hozv4 rfl (ip_Fr.upI rfl ip_Fr.rf))
          · rw [if_pos (Decidable.of_not_not zhc10)] at h
            cases h
            exact ip_Fr.rf
      · rw [if_neg zhc3] at h
        cases h
        exact ip_Fr.rf
    · rw [if_neg zhc2] at h
      cases h
      exact ip_Fr.rf
def w_M_ask : List (Nat × Nat) := [(30, 19), (42, 99), (44, 99)]
theorem F_M_ask_123 {x1 : Int32} {x2 : Int32} {x3 : Int32} {S : ip_St} {r : Int32} {S9 : ip_St} (h : f_M_ask_123 x1 x2 x3 S = some (r, S9)) : ip_Fr w_M_ask S S9 := by
  unfold f_M_ask_123 at h
  obtain ⟨zS1, hzS1, h⟩ := ip_bind h
  have gzS1 : ip_Fr w_M_ask S zS1 := ip_Fr.wI hzS1 rfl ip_Fr.rf
  obtain ⟨zv3, hzq2, h⟩ := ip_bind h
  obtain ⟨zv5, hzq4, h⟩ := ip_bind h
  cases h
  exact gzS1
theorem F_M_ask {p1 : Int32} {p2 : Int32} {p3 : Int32} {S : ip_St} {r : Int32} {S9 : ip_St} (h : f_M_ask p1 p2 p3 S = some (r, S9)) : ip_Fr w_M_ask S S9 := by
  unfold f_M_ask at h
  by_cases zhc1 : (f_M_isJudge p1 S) = false
  · rw [if_pos zhc1] at h
    cases h
    exact ip_Fr.rf
  · rw [if_neg zhc1] at h
    by_cases zhc2 : (f_M_isFact p2) = true
    · rw [if_pos zhc2] at h
      by_cases zhc3 : (f_M_isBit p3) = true
      · rw [if_pos zhc3] at h
        obtain ⟨zv4, hzv4, h⟩ := ip_bind h
        by_cases zhc5 : ¬ zv4 = (-1)
        · rw [if_neg zhc5] at h
          cases h
          exact ip_Fr.rf
        · rw [if_pos (Decidable.of_not_not zhc5)] at h
          obtain ⟨zv7, hzq6, h⟩ := ip_bind h
          obtain ⟨zv8, hzv8, h⟩ := ip_bind h
          obtain ⟨zv10, hzq9, h⟩ := ip_bind h
          by_cases zhc11 : ¬ (zv7 &&& (f_M_keptIf zv10 p3)) = 0
          · rw [if_neg zhc11] at h
            obtain ⟨zv12, hzv12, h⟩ := ip_bind h
            by_cases zhc13 : ¬ zv12 = 2
            · rw [if_neg zhc13] at h
              exact ip_Fr.trans (ip_Fr.upI rfl ip_Fr.rf) (F_M_ask_123 h)
            · rw [if_pos (Decidable.of_not_not zhc13)] at h
              obtain ⟨zv14, hzv14, h⟩ := ip_bind h
              by_cases zhc15 : ¬ zv14 = 0
              · rw [if_neg zhc15] at h
                exact ip_Fr.trans (ip_Fr.upI rfl ip_Fr.rf) (F_M_ask_123 h)
              · rw [if_pos (Decidable.of_not_not zhc15)] at h
                obtain ⟨zS16, hzS16, h⟩ := ip_bind h
                have gzS16 : ip_Fr w_M_ask S zS16 := ip_Fr.wI hzS16 rfl (ip_Fr.upI rfl ip_Fr.rf)
                cases h
                exact gzS16
          · rw [if_pos (Decidable.of_not_not zhc11)] at h
            cases h
            exact ip_Fr.rf
      · rw [if_neg zhc3] at h
        cases h
        exact ip_Fr.rf
    · rw [if_neg zhc2] at h
      cases h
      exact ip_Fr.rf
def w_A_learn : List (Nat × Nat) := [(100, 0)]
theorem F_A_learn {p1 : Int32} {p2 : Int32} {p3 : Int32} {S : ip_St} {r : Int32} {S9 : ip_St} (h : f_A_learn p1 p2 p3 S = some (r, S9)) : ip_Fr w_A_learn S S9 := by
  unfold f_A_learn at h
  by_cases zhc1 : (f_A_isJudge p1 S) = false
  · rw [if_pos zhc1] at h
    cases h
    exact ip_Fr.rf
  · rw [if_neg zhc1] at h
    by_cases zhc2 : (f_A_isFact p2) = true
    · rw [if_pos zhc2] at h
      by_cases zhc3 : (f_A_isAnswer p3) = true
      · rw [if_pos zhc3] at h
        obtain ⟨zv4, hzv4, h⟩ := ip_bind h
        have hozv4 := ip_aA_ob hzv4
        by_cases zhc5 : (f_A_bit (S.1 zv4 1) p2) = 1
        · rw [if_pos zhc5] at h
          cases h
          exact ip_Fr.rf
        · rw [if_neg zhc5] at h
          obtain ⟨zv7, hzq6, h⟩ := ip_bind h
          obtain ⟨zv9, hzq8, h⟩ := ip_bind h
          by_cases zhc10 : ¬ (zv7 &&& zv9) = 0
          · rw [if_neg zhc10] at h
            obtain ⟨zv12, hzq11, h⟩ := ip_bind h
            cases h
            exact (ip_Fr.trans ip_Fr.rf (ip_Fr.mono rfl (F_J_know hozv4)))
          · rw [if_pos (Decidable.of_not_not zhc10)] at h
            cases h
            exact ip_Fr.rf
      · rw [if_neg zhc3] at h
        cases h
        exact ip_Fr.rf
    · rw [if_neg zhc2] at h
      cases h
      exact ip_Fr.rf
def w_M_learn : List (Nat × Nat) := [(43, 99)]
theorem F_M_learn {p1 : Int32} {p2 : Int32} {p3 : Int32} {S : ip_St} {r : Int32} {S9 : ip_St} (h : f_M_learn p1 p2 p3 S = some (r, S9)) : ip_Fr w_M_learn S S9 := by
  unfold f_M_learn at h
  by_cases zhc1 : (f_M_isJudge p1 S) = false
  · rw [if_pos zhc1] at h
    cases h
    exact ip_Fr.rf
  · rw [if_neg zhc1] at h
    by_cases zhc2 : (f_M_isFact p2) = true
    · rw [if_pos zhc2] at h
      by_cases zhc3 : (f_M_isBit p3) = true
      · rw [if_pos zhc3] at h
        obtain ⟨zv4, hzv4, h⟩ := ip_bind h
        by_cases zhc5 : ¬ zv4 = (-1)
        · rw [if_neg zhc5] at h
          cases h
          exact ip_Fr.rf
        · rw [if_pos (Decidable.of_not_not zhc5)] at h
          obtain ⟨zv7, hzq6, h⟩ := ip_bind h
          obtain ⟨zv9, hzq8, h⟩ := ip_bind h
          by_cases zhc10 : ¬ (zv7 &&& (f_M_keptIf zv9 p3)) = 0
          · rw [if_neg zhc10] at h
            obtain ⟨zS11, hzS11, h⟩ := ip_bind h
            have gzS11 : ip_Fr w_M_learn S zS11 := ip_Fr.wI hzS11 rfl ip_Fr.rf
            obtain ⟨zv13, hzq12, h⟩ := ip_bind h
            obtain ⟨zv15, hzq14, h⟩ := ip_bind h
            cases h
            exact gzS11
          · rw [if_pos (Decidable.of_not_not zhc10)] at h
            cases h
            exact ip_Fr.rf
      · rw [if_neg zhc3] at h
        cases h
        exact ip_Fr.rf
    · rw [if_neg zhc2] at h
      cases h
      exact ip_Fr.rf
def w_A_adjourn : List (Nat × Nat) := [(100, 0)]
theorem F_A_adjourn {p1 : Int32} {S : ip_St} {r : Int32} {S9 : ip_St} (h : f_A_adjourn p1 S = some (r, S9)) : ip_Fr w_A_adjourn S S9 := by
  unfold f_A_adjourn at h
  by_cases zhc1 : (f_A_isJudge p1 S) = true
  · rw [if_pos zhc1] at h
    obtain ⟨zv2, hzv2, h⟩ := ip_bind h
    have hozv2 := ip_aA_ob hzv2
    cases h
    exact (ip_Fr.trans ip_Fr.rf (ip_Fr.mono rfl (F_J_unhear hozv2)))
  · rw [if_neg zhc1] at h
    cases h
    exact ip_Fr.rf
def w_M_adjourn : List (Nat × Nat) := [(42, 99), (44, 99)]
theorem F_M_adjourn_19 : ∀ (n : Nat) {x1 : Int32} {x2 : Int32} {x3 : Int32} {S : ip_St} {r : Int32} {S9 : ip_St}, f_M_adjourn_19 n x1 x2 x3 S = some (r, S9) → ip_Fr w_M_adjourn S S9 := by
  intro n
  induction n with
  | zero =>
    intro x1 x2 x3 S r S9 h
    cases h
  | succ n ih =>
    intro x1 x2 x3 S r S9 h
    rw [f_M_adjourn_19] at h
    by_cases zhc1 : 6 ≤ x3
    · rw [if_pos zhc1] at h
      obtain ⟨zS2, hzS2, h⟩ := ip_bind h
      have gzS2 : ip_Fr w_M_adjourn S zS2 := ip_Fr.wI hzS2 rfl ip_Fr.rf
      cases h
      exact gzS2
    · rw [if_neg zhc1] at h
      obtain ⟨zS3, hzS3, h⟩ := ip_bind h
      have gzS3 : ip_Fr w_M_adjourn S zS3 := ip_Fr.wI hzS3 rfl ip_Fr.rf
      exact ip_Fr.trans gzS3 (ih h)
theorem F_M_adjourn {p1 : Int32} {S : ip_St} {r : Int32} {S9 : ip_St} (h : f_M_adjourn p1 S = some (r, S9)) : ip_Fr w_M_adjourn S S9 := by
  unfold f_M_adjourn at h
  by_cases zhc1 : (f_M_isJudge p1 S) = true
  · rw [if_pos zhc1] at h
    obtain ⟨zv3, hzq2, h⟩ := ip_bind h
    exact ip_Fr.trans ip_Fr.rf (F_M_adjourn_19 ip_FU h)
  · rw [if_neg zhc1] at h
    cases h
    exact ip_Fr.rf
def w_M_benchOf : List (Nat × Nat) := [(30, 14), (34, 99), (35, 99), (36, 99), (37, 99), (38, 99), (39, 99), (40, 99), (45, 99), (46, 99), (47, 99), (48, 99)]
theorem F_M_benchOf_4 : ∀ (n : Nat) {x1 : Int32} {x2 : Int32} {S : ip_St} {r : Int32} {S9 : ip_St}, f_M_benchOf_4 n x1 x2 S = some (r, S9) → ip_Fr w_M_benchOf S S9 := by
  intro n
  induction n with
  | zero =>
    intro x1 x2 S r S9 h
    cases h
  | succ n ih =>
    intro x1 x2 S r S9 h
    rw [f_M_benchOf_4] at h
    by_cases zhc1 : (S.1 30 18) ≤ x2
    · rw [if_pos zhc1] at h
      cases h
      exact ip_Fr.rf
    · rw [if_neg zhc1] at h
      obtain ⟨⟨zv3, zS4⟩, hzq2, h⟩ := ip_bind h
      dsimp only at h
      have gzS4 : ip_Fr w_M_benchOf S zS4 := ip_Fr.trans ip_Fr.rf (ip_Fr.mono rfl (F_M_tellJudge hzq2))
      obtain ⟨⟨zv6, zS7⟩, hzq5, h⟩ := ip_bind h
      dsimp only at h
      have gzS7 : ip_Fr w_M_benchOf S zS7 := ip_Fr.trans gzS4 (ip_Fr.mono rfl (F_M_tellJudge hzq5))
      obtain ⟨⟨zv9, zS10⟩, hzq8, h⟩ := ip_bind h
      dsimp only at h
      have gzS10 : ip_Fr w_M_benchOf S zS10 := ip_Fr.trans gzS7 (ip_Fr.mono rfl (F_M_tellJudge hzq8))
      obtain ⟨⟨zv12, zS13⟩, hzq11, h⟩ := ip_bind h
      dsimp only at h
      have gzS13 : ip_Fr w_M_benchOf S zS13 := ip_Fr.trans gzS10 (ip_Fr.mono rfl (F_M_tellJudge hzq11))
      by_cases zhc14 : (zv3 * zv6) ≤ (zv9 * zv12)
      · rw [if_pos zhc14] at h
        exact ip_Fr.trans gzS13 (ih h)
      · rw [if_neg zhc14] at h
        exact ip_Fr.trans gzS13 (ih h)
theorem F_M_benchOf  {S : ip_St} {r : Int32} {S9 : ip_St} (h : f_M_benchOf S = some (r, S9)) : ip_Fr w_M_benchOf S S9 := by
  unfold f_M_benchOf at h
  exact ip_Fr.trans ip_Fr.rf (F_M_benchOf_4 ip_FU h)
def w_M_bench : List (Nat × Nat) := [(30, 14), (34, 99), (35, 99), (36, 99), (37, 99), (38, 99), (39, 99), (40, 99), (45, 99), (46, 99), (47, 99), (48, 99)]
theorem F_M_bench  {S : ip_St} {r : Int32} {S9 : ip_St} (h : f_M_bench S = some (r, S9)) : ip_Fr w_M_bench S S9 := by
  unfold f_M_bench at h
  by_cases zhc1 : (f_M_lacks S) = false
  · rw [if_pos zhc1] at h
    obtain ⟨⟨zv3, zS4⟩, hzq2, h⟩ := ip_bind h
    dsimp only at h
    have gzS4 : ip_Fr w_M_bench S zS4 := ip_Fr.trans ip_Fr.rf (ip_Fr.mono rfl (F_M_benchOf hzq2))
    cases h
    exact gzS4
  · rw [if_neg zhc1] at h
    cases h
    exact ip_Fr.rf
def w_D_keepSeen_12 : List (Nat × Nat) := [(12, 6), (18, 99)]
theorem F_D_keepSeen_12 {p1 : Int32} {p2 : Int32} {p3 : Int32} {p4 : Int32} {S : ip_St} {S9 : ip_St} (h : f_D_keepSeen_12 p1 p2 p3 p4 S = some S9) : ip_Fr w_D_keepSeen_12 S S9 := by
  unfold f_D_keepSeen_12 at h
  by_cases zhc1 : 8 ≤ (S.1 12 6)
  · rw [if_pos zhc1] at h
    cases h
    exact ip_Fr.rf
  · rw [if_neg zhc1] at h
    obtain ⟨zS2, hzS2, h⟩ := ip_bind h
    have gzS2 : ip_Fr w_D_keepSeen_12 S zS2 := ip_Fr.wI hzS2 rfl ip_Fr.rf
    cases h
    exact (ip_Fr.upI rfl gzS2)
def w_A_see : List (Nat × Nat) := [(12, 6), (18, 99)]
theorem F_A_see {p1 : Int32} {p2 : Int32} {p3 : Int32} {p4 : Int32} {S : ip_St} {r : Int32} {S9 : ip_St} (h : f_A_see p1 p2 p3 p4 S = some (r, S9)) : ip_Fr w_A_see S S9 := by
  unfold f_A_see at h
  by_cases zhc1 : (f_A_isJudge p1 S) = false
  · rw [if_pos zhc1] at h
    cases h
    exact ip_Fr.rf
  · rw [if_neg zhc1] at h
    by_cases zhc2 : (f_A_isFact p2) = true
    · rw [if_pos zhc2] at h
      by_cases zhc3 : (f_A_isAnswer p3) = false
      · rw [if_pos zhc3] at h
        cases h
        exact ip_Fr.rf
      · rw [if_neg zhc3] at h
        by_cases zhc4 : (f_A_isAnswer p4) = true
        · rw [if_pos zhc4] at h
          by_cases zhc5 : (S.1 12 6) < 8
          · rw [if_pos zhc5] at h
            obtain ⟨zS7, hzq6, h⟩ := ip_bind h
            have gzS7 : ip_Fr w_A_see S zS7 := ip_Fr.trans ip_Fr.rf (ip_Fr.mono rfl (F_D_keepSeen_12 hzq6))
            cases h
            exact gzS7
          · rw [if_neg zhc5] at h
            cases h
            exact ip_Fr.rf
        · rw [if_neg zhc4] at h
          cases h
          exact ip_Fr.rf
    · rw [if_neg zhc2] at h
      cases h
      exact ip_Fr.rf
def w_M_see : List (Nat × Nat) := [(30, 29), (49, 99)]
theorem F_M_see {p1 : Int32} {p2 : Int32} {p3 : Int32} {p4 : Int32} {S : ip_St} {r : Int32} {S9 : ip_St} (h : f_M_see p1 p2 p3 p4 S = some (r, S9)) : ip_Fr w_M_see S S9 := by
  unfold f_M_see at h
  by_cases zhc1 : (f_M_isJudge p1 S) = false
  · rw [if_pos zhc1] at h
    cases h
    exact ip_Fr.rf
  · rw [if_neg zhc1] at h
    by_cases zhc2 : (f_M_isFact p2) = true
    · rw [if_pos zhc2] at h
      by_cases zhc3 : (f_M_isBit p3) = false
      · rw [if_pos zhc3] at h
        cases h
        exact ip_Fr.rf
      · rw [if_neg zhc3] at h
        by_cases zhc4 : (f_M_isBit p4) = true
        · rw [if_pos zhc4] at h
          by_cases zhc5 : ¬ (S.1 30 29) = 8
          · rw [if_neg zhc5] at h
            obtain ⟨zS6, hzS6, h⟩ := ip_bind h
            have gzS6 : ip_Fr w_M_see S zS6 := ip_Fr.wI hzS6 rfl ip_Fr.rf
            obtain ⟨zS7, hzS7, h⟩ := ip_bind h
            have gzS7 : ip_Fr w_M_see S zS7 := ip_Fr.wI hzS7 rfl gzS6
            obtain ⟨zS8, hzS8, h⟩ := ip_bind h
            have gzS8 : ip_Fr w_M_see S zS8 := ip_Fr.wI hzS8 rfl gzS7
            obtain ⟨zS9, hzS9, h⟩ := ip_bind h
            have gzS9 : ip_Fr w_M_see S zS9 := ip_Fr.wI hzS9 rfl gzS8
            cases h
            exact (ip_Fr.upI rfl gzS9)
          · rw [if_pos (Decidable.of_not_not zhc5)] at h
            cases h
            exact ip_Fr.rf
        · rw [if_neg zhc4] at h
          cases h
          exact ip_Fr.rf
    · rw [if_neg zhc2] at h
      cases h
      exact ip_Fr.rf
def w_A_forget : List (Nat × Nat) := [(12, 6)]
theorem F_A_forget  {S : ip_St} : ip_Fr w_A_forget S (f_A_forget S).2 := (ip_Fr.upI rfl ip_Fr.rf)
def w_M_forget : List (Nat × Nat) := [(30, 29)]
theorem F_M_forget  {S : ip_St} : ip_Fr w_M_forget S (f_M_forget S).2 := (ip_Fr.upI rfl ip_Fr.rf)
def w_M_draw : List (Nat × Nat) := [(30, 31)]
theorem F_M_draw {p1 : Int32} {S : ip_St} {r : Int32} {S9 : ip_St} (h : f_M_draw p1 S = some (r, S9)) : ip_Fr w_M_draw S S9 := by
  unfold f_M_draw at h
  have zhz1 : ¬ p1 = 0 := by
    intro hq
    rw [if_pos hq] at h
    cases h
  rw [if_neg zhz1] at h
  cases h
  exact (ip_Fr.upI rfl ip_Fr.rf)
def w_M_assizes : List (Nat × Nat) := [(30, 31)]
theorem F_M_assizes_77 {k55 : Int32 → Int32 → Int32 → Int32 → Int32 → ip_St → Option (Int32 × ip_St)} (hk55 : ∀ {x1 : Int32} {x3 : Int32} {x4 : Int32} {x5 : Int32} {x6 : Int32} {S : ip_St} {r : Int32} {S9 : ip_St}, k55 x1 x3 x4 x5 x6 S = some (r, S9) → ip_Fr w_M_assizes S S9) : ∀ (n : Nat) {x1 : Int32} {x3 : Int32} {x4 : Int32} {x5 : Int32} {x6 : Int32} {x7 : Int32} {x8 : Int32} {x9 : Int32} {S : ip_St} {r : Int32} {S9 : ip_St}, f_M_assizes_77 k55 n x1 x3 x4 x5 x6 x7 x8 x9 S = some (r, S9) → ip_Fr w_M_assizes S S9 := by
  intro n
  induction n with
  | zero =>
    intro x1 x3 x4 x5 x6 x7 x8 x9 S r S9 h
    cases h
  | succ n ih =>
    intro x1 x3 x4 x5 x6 x7 x8 x9 S r S9 h
    rw [f_M_assizes_77] at h
    by_cases zhc1 : 6 ≤ x9
    · rw [if_pos zhc1] at h
      obtain ⟨zv2, hzv2, h⟩ := ip_bind h
      exact ip_Fr.trans ip_Fr.rf (hk55 h)
    · rw [if_neg zhc1] at h
      obtain ⟨zv3, hzv3, h⟩ := ip_bind h
      by_cases zhc4 : ¬ zv3 = (-1)
      · rw [if_neg zhc4] at h
        obtain ⟨zv5, hzv5, h⟩ := ip_bind h
        exact ip_Fr.trans ip_Fr.rf (ih h)
      · rw [if_pos (Decidable.of_not_not zhc4)] at h
        obtain ⟨⟨zv7, zS8⟩, hzq6, h⟩ := ip_bind h
        dsimp only at h
        have gzS8 : ip_Fr w_M_assizes S zS8 := ip_Fr.trans ip_Fr.rf (ip_Fr.mono rfl (F_M_draw hzq6))
        exact ip_Fr.trans gzS8 (ih h)
theorem F_M_assizes_55 : ∀ (n : Nat) {x1 : Int32} {x3 : Int32} {x4 : Int32} {x5 : Int32} {x6 : Int32} {S : ip_St} {r : Int32} {S9 : ip_St}, f_M_assizes_55 n x1 x3 x4 x5 x6 S = some (r, S9) → ip_Fr w_M_assizes S S9 := by
  intro n
  induction n with
  | zero =>
    intro x1 x3 x4 x5 x6 S r S9 h
    cases h
  | succ n ih =>
    intro x1 x3 x4 x5 x6 S r S9 h
    rw [f_M_assizes_55] at h
    by_cases zhc1 : x1 ≤ x6
    · rw [if_pos zhc1] at h
      by_cases zhc2 : ¬ x3 = 0
      · rw [if_neg zhc2] at h
        by_cases zhc3 : ¬ x3 = 1
        · rw [if_neg zhc3] at h
          cases h
          exact ip_Fr.rf
        · rw [if_pos (Decidable.of_not_not zhc3)] at h
          cases h
          exact ip_Fr.rf
      · rw [if_pos (Decidable.of_not_not zhc2)] at h
        cases h
        exact ip_Fr.rf
    · rw [if_neg zhc1] at h
      obtain ⟨⟨zv5, zS6⟩, hzq4, h⟩ := ip_bind h
      dsimp only at h
      have gzS6 : ip_Fr w_M_assizes S zS6 := ip_Fr.trans ip_Fr.rf (ip_Fr.mono rfl (F_M_draw hzq4))
      exact ip_Fr.trans gzS6 (F_M_assizes_77 ih ip_FU h)
theorem F_M_assizes {p1 : Int32} {p2 : Int32} {p3 : Int32} {S : ip_St} {r : Int32} {S9 : ip_St} (h : f_M_assizes p1 p2 p3 S = some (r, S9)) : ip_Fr w_M_assizes S S9 := by
  unfold f_M_assizes at h
  by_cases zhc1 : (f_M_in (Int32.toInt64 p1) 1 60) = false
  · rw [if_pos zhc1] at h
    cases h
    exact ip_Fr.rf
  · rw [if_neg zhc1] at h
    by_cases zhc2 : p2 < 0
    · rw [if_pos zhc2] at h
      cases h
      exact ip_Fr.rf
    · rw [if_neg zhc2] at h
      by_cases zhc3 : (f_M_in (Int32.toInt64 p3) 0 2) = true
      · rw [if_pos zhc3] at h
        by_cases zhc4 : (f_M_lacks S) = false
        · rw [if_pos zhc4] at h
          exact ip_Fr.trans (ip_Fr.upI rfl ip_Fr.rf) (F_M_assizes_55 ip_FU h)
        · rw [if_neg zhc4] at h
          cases h
          exact ip_Fr.rf
      · rw [if_neg zhc3] at h
        cases h
        exact ip_Fr.rf
def w_J_take : List (Nat × Nat) := [(100, 0)]
theorem F_J_take {p0 : Nat} {p1 : Nat} {S : ip_St} {S9 : ip_St} (hp0 : ip_ob p0 = some 1) (hp1 : ip_ob p1 = some 1) (h : f_J_take p0 p1 S = some S9) : ip_Fr w_J_take S S9 := by
  unfold f_J_take at h
  have zhb1 : ip_isB ((ip_upI (ip_upI (ip_upI (ip_upI (ip_upI S p0 0 (S.1 p1 0)) p0 1 ((ip_upI S p0 0 (S.1 p1 0)).1 p1 1)) p0 2 ((ip_upI (ip_upI S p0 0 (S.1 p1 0)) p0 1 ((ip_upI S p0 0 (S.1 p1 0)).1 p1 1)).1 p1 2)) p0 3 ((ip_upI (ip_upI (ip_upI S p0 0 (S.1 p1 0)) p0 1 ((ip_upI S p0 0 (S.1 p1 0)).1 p1 1)) p0 2 ((ip_upI (ip_upI S p0 0 (S.1 p1 0)) p0 1 ((ip_upI S p0 0 (S.1 p1 0)).1 p1 1)).1 p1 2)).1 p1 3)) p0 4 ((ip_upI (ip_upI (ip_upI (ip_upI S p0 0 (S.1 p1 0)) p0 1 ((ip_upI S p0 0 (S.1 p1 0)).1 p1 1)) p0 2 ((ip_upI (ip_upI S p0 0 (S.1 p1 0)) p0 1 ((ip_upI S p0 0 (S.1 p1 0)).1 p1 1)).1 p1 2)) p0 3 ((ip_upI (ip_upI (ip_upI S p0 0 (S.1 p1 0)) p0 1 ((ip_upI S p0 0 (S.1 p1 0)).1 p1 1)) p0 2 ((ip_upI (ip_upI S p0 0 (S.1 p1 0)) p0 1 ((ip_upI S p0 0 (S.1 p1 0)).1 p1 1)).1 p1 2)).1 p1 3)).1 p1 4)).1 p1 5) = true := by
    cases hz : ip_isB ((ip_upI (ip_upI (ip_upI (ip_upI (ip_upI S p0 0 (S.1 p1 0)) p0 1 ((ip_upI S p0 0 (S.1 p1 0)).1 p1 1)) p0 2 ((ip_upI (ip_upI S p0 0 (S.1 p1 0)) p0 1 ((ip_upI S p0 0 (S.1 p1 0)).1 p1 1)).1 p1 2)) p0 3 ((ip_upI (ip_upI (ip_upI S p0 0 (S.1 p1 0)) p0 1 ((ip_upI S p0 0 (S.1 p1 0)).1 p1 1)) p0 2 ((ip_upI (ip_upI S p0 0 (S.1 p1 0)) p0 1 ((ip_upI S p0 0 (S.1 p1 0)).1 p1 1)).1 p1 2)).1 p1 3)) p0 4 ((ip_upI (ip_upI (ip_upI (ip_upI S p0 0 (S.1 p1 0)) p0 1 ((ip_upI S p0 0 (S.1 p1 0)).1 p1 1)) p0 2 ((ip_upI (ip_upI S p0 0 (S.1 p1 0)) p0 1 ((ip_upI S p0 0 (S.1 p1 0)).1 p1 1)).1 p1 2)) p0 3 ((ip_upI (ip_upI (ip_upI S p0 0 (S.1 p1 0)) p0 1 ((ip_upI S p0 0 (S.1 p1 0)).1 p1 1)) p0 2 ((ip_upI (ip_upI S p0 0 (S.1 p1 0)) p0 1 ((ip_upI S p0 0 (S.1 p1 0)).1 p1 1)).1 p1 2)).1 p1 3)).1 p1 4)).1 p1 5) with
    | true => rfl
    | false => rw [hz] at h; cases h
  rw [zhb1] at h
  dsimp only [cond] at h
  cases h
  exact (ip_Fr.upJ hp0 rfl (ip_Fr.upJ hp0 rfl (ip_Fr.upJ hp0 rfl (ip_Fr.upJ hp0 rfl (ip_Fr.upJ hp0 rfl (ip_Fr.upJ hp0 rfl ip_Fr.rf))))))
def w_L_take_24_17 : List (Nat × Nat) := [(24, 0), (24, 1), (24, 2), (24, 3), (24, 4)]
theorem F_L_take_24_17  {S : ip_St} : ip_Fr w_L_take_24_17 S (f_L_take_24_17 S) := (ip_Fr.upI rfl (ip_Fr.upI rfl (ip_Fr.upI rfl (ip_Fr.upI rfl (ip_Fr.upL rfl ip_Fr.rf)))))
def w_D_take_19_12 : List (Nat × Nat) := [(19, 1), (19, 3), (19, 4), (19, 6), (24, 0), (24, 1), (24, 2), (24, 3), (24, 4), (25, 99), (100, 0)]
theorem F_D_take_19_12_65 : ∀ (n : Nat) {x2 : Int32} {S : ip_St} {S9 : ip_St}, f_D_take_19_12_65 n x2 S = some S9 → ip_Fr w_D_take_19_12 S S9 := by
  intro n
  induction n with
  | zero =>
    intro x2 S S9 h
    cases h
  | succ n ih =>
    intro x2 S S9 h
    rw [f_D_take_19_12_65] at h
    by_cases zhc1 : 8 ≤ x2
    · rw [if_pos zhc1] at h
      cases h
      exact (ip_Fr.upI rfl ip_Fr.rf)
    · rw [if_neg zhc1] at h
      obtain ⟨zv2, hzv2, h⟩ := ip_bind h
      obtain ⟨zS3, hzS3, h⟩ := ip_bind h
      have gzS3 : ip_Fr w_D_take_19_12 S zS3 := ip_Fr.wI hzS3 rfl ip_Fr.rf
      exact ip_Fr.trans gzS3 (ih h)
theorem F_D_take_19_12_2 : ∀ (n : Nat) {x2 : Int32} {S : ip_St} {S9 : ip_St}, f_D_take_19_12_2 n x2 S = some S9 → ip_Fr w_D_take_19_12 S S9 := by
  intro n
  induction n with
  | zero =>
    intro x2 S S9 h
    cases h
  | succ n ih =>
    intro x2 S S9 h
    rw [f_D_take_19_12_2] at h
    by_cases zhc1 : 3 ≤ x2
    · rw [if_pos zhc1] at h
      exact ip_Fr.trans (ip_Fr.upI rfl (ip_Fr.upI rfl (ip_Fr.trans (ip_Fr.upI rfl ip_Fr.rf) (ip_Fr.mono rfl (F_L_take_24_17))))) (F_D_take_19_12_65 ip_FU h)
    · rw [if_neg zhc1] at h
      obtain ⟨zv2, hzv2, h⟩ := ip_bind h
      have hozv2 := ip_aA_ob hzv2
      obtain ⟨zv3, hzv3, h⟩ := ip_bind h
      have hozv3 := ip_aA_ob hzv3
      obtain ⟨zS5, hzq4, h⟩ := ip_bind h
      have gzS5 : ip_Fr w_D_take_19_12 S zS5 := ip_Fr.trans ip_Fr.rf (ip_Fr.mono rfl (F_J_take hozv2 hozv3 hzq4))
      exact ip_Fr.trans gzS5 (ih h)
theorem F_D_take_19_12  {S : ip_St} {S9 : ip_St} (h : f_D_take_19_12 S = some S9) : ip_Fr w_D_take_19_12 S S9 := by
  unfold f_D_take_19_12 at h
  exact ip_Fr.trans ip_Fr.rf (F_D_take_19_12_2 ip_FU h)
def w_A_image : List (Nat × Nat) := [(0, 6), (19, 1), (19, 3), (19, 4), (19, 6), (24, 0), (24, 1), (24, 2), (24, 3), (24, 4), (25, 99), (100, 0)]
theorem F_A_image  {S : ip_St} {r : Int32} {S9 : ip_St} (h : f_A_image S = some (r, S9)) : ip_Fr w_A_image S S9 := by
  unfold f_A_image at h
  by_cases zhc1 : (f_A_hasCourt S) = true
  · rw [if_pos zhc1] at h
    obtain ⟨zS3, hzq2, h⟩ := ip_bind h
    have gzS3 : ip_Fr w_A_image S zS3 := ip_Fr.trans ip_Fr.rf (ip_Fr.mono rfl (F_D_take_19_12 hzq2))
    cases h
    exact (ip_Fr.upI rfl gzS3)
  · rw [if_neg zhc1] at h
    cases h
    exact ip_Fr.rf
def w_M_copy_41_50 : List (Nat × Nat) := [(50, 99)]
theorem F_M_copy_41_50_2 : ∀ (n : Nat) {x2 : Int32} {S : ip_St} {S9 : ip_St}, f_M_copy_41_50_2 n x2 S = some S9 → ip_Fr w_M_copy_41_50 S S9 := by
  intro n
  induction n with
  | zero =>
    intro x2 S S9 h
    cases h
  | succ n ih =>
    intro x2 S S9 h
    rw [f_M_copy_41_50_2] at h
    by_cases zhc1 : 56 ≤ x2
    · rw [if_pos zhc1] at h
      cases h
      exact ip_Fr.rf
    · rw [if_neg zhc1] at h
      obtain ⟨zv2, hzv2, h⟩ := ip_bind h
      obtain ⟨zS3, hzS3, h⟩ := ip_bind h
      have gzS3 : ip_Fr w_M_copy_41_50 S zS3 := ip_Fr.wI hzS3 rfl ip_Fr.rf
      exact ip_Fr.trans gzS3 (ih h)
theorem F_M_copy_41_50  {S : ip_St} {S9 : ip_St} (h : f_M_copy_41_50 S = some S9) : ip_Fr w_M_copy_41_50 S S9 := by
  unfold f_M_copy_41_50 at h
  exact ip_Fr.trans ip_Fr.rf (F_M_copy_41_50_2 ip_FU h)
def w_M_copy_42_51 : List (Nat × Nat) := [(51, 99)]
theorem F_M_copy_42_51_2 : ∀ (n : Nat) {x2 : Int32} {S : ip_St} {S9 : ip_St}, f_M_copy_42_51_2 n x2 S = some S9 → ip_Fr w_M_copy_42_51 S S9 := by
  intro n
  induction n with
  | zero =>
    intro x2 S S9 h
    cases h
  | succ n ih =>
    intro x2 S S9 h
    rw [f_M_copy_42_51_2] at h
    by_cases zhc1 : 6 ≤ x2
    · rw [if_pos zhc1] at h
      cases h
      exact ip_Fr.rf
    · rw [if_neg zhc1] at h
      obtain ⟨zv2, hzv2, h⟩ := ip_bind h
      obtain ⟨zS3, hzS3, h⟩ := ip_bind h
      have gzS3 : ip_Fr w_M_copy_42_51 S zS3 := ip_Fr.wI hzS3 rfl ip_Fr.rf
      exact ip_Fr.trans gzS3 (ih h)
theorem F_M_copy_42_51  {S : ip_St} {S9 : ip_St} (h : f_M_copy_42_51 S = some S9) : ip_Fr w_M_copy_42_51 S S9 := by
  unfold f_M_copy_42_51 at h
  exact ip_Fr.trans ip_Fr.rf (F_M_copy_42_51_2 ip_FU h)
def w_M_copy_43_52 : List (Nat × Nat) := [(52, 99)]
theorem F_M_copy_43_52_2 : ∀ (n : Nat) {x2 : Int32} {S : ip_St} {S9 : ip_St}, f_M_copy_43_52_2 n x2 S = some S9 → ip_Fr w_M_copy_43_52 S S9 := by
  intro n
  induction n with
  | zero =>
    intro x2 S S9 h
    cases h
  | succ n ih =>
    intro x2 S S9 h
    rw [f_M_copy_43_52_2] at h
    by_cases zhc1 : 18 ≤ x2
    · rw [if_pos zhc1] at h
      cases h
      exact ip_Fr.rf
    · rw [if_neg zhc1] at h
      obtain ⟨zv2, hzv2, h⟩ := ip_bind h
      obtain ⟨zS3, hzS3, h⟩ := ip_bind h
      have gzS3 : ip_Fr w_M_copy_43_52 S zS3 := ip_Fr.wI hzS3 rfl ip_Fr.rf
      exact ip_Fr.trans gzS3 (ih h)
theorem F_M_copy_43_52  {S : ip_St} {S9 : ip_St} (h : f_M_copy_43_52 S = some S9) : ip_Fr w_M_copy_43_52 S S9 := by
  unfold f_M_copy_43_52 at h
  exact ip_Fr.trans ip_Fr.rf (F_M_copy_43_52_2 ip_FU h)
def w_M_copy_44_53 : List (Nat × Nat) := [(53, 99)]
theorem F_M_copy_44_53_2 : ∀ (n : Nat) {x2 : Int32} {S : ip_St} {S9 : ip_St}, f_M_copy_44_53_2 n x2 S = some S9 → ip_Fr w_M_copy_44_53 S S9 := by
  intro n
  induction n with
  | zero =>
    intro x2 S S9 h
    cases h
  | succ n ih =>
    intro x2 S S9 h
    rw [f_M_copy_44_53_2] at h
    by_cases zhc1 : 18 ≤ x2
    · rw [if_pos zhc1] at h
      cases h
      exact ip_Fr.rf
    · rw [if_neg zhc1] at h
      obtain ⟨zv2, hzv2, h⟩ := ip_bind h
      obtain ⟨zS3, hzS3, h⟩ := ip_bind h
      have gzS3 : ip_Fr w_M_copy_44_53 S zS3 := ip_Fr.wI hzS3 rfl ip_Fr.rf
      exact ip_Fr.trans gzS3 (ih h)
theorem F_M_copy_44_53  {S : ip_St} {S9 : ip_St} (h : f_M_copy_44_53 S = some S9) : ip_Fr w_M_copy_44_53 S S9 := by
  unfold f_M_copy_44_53 at h
  exact ip_Fr.trans ip_Fr.rf (F_M_copy_44_53_2 ip_FU h)
def w_M_copy_49_54 : List (Nat × Nat) := [(54, 99)]
theorem F_M_copy_49_54_2 : ∀ (n : Nat) {x2 : Int32} {S : ip_St} {S9 : ip_St}, f_M_copy_49_54_2 n x2 S = some S9 → ip_Fr w_M_copy_49_54 S S9 := by
  intro n
  induction n with
  | zero =>
    intro x2 S S9 h
    cases h
  | succ n ih =>
    intro x2 S S9 h
    rw [f_M_copy_49_54_2] at h
    by_cases zhc1 : 32 ≤ x2
    · rw [if_pos zhc1] at h
      cases h
      exact ip_Fr.rf
    · rw [if_neg zhc1] at h
      obtain ⟨zv2, hzv2, h⟩ := ip_bind h
      obtain ⟨zS3, hzS3, h⟩ := ip_bind h
      have gzS3 : ip_Fr w_M_copy_49_54 S zS3 := ip_Fr.wI hzS3 rfl ip_Fr.rf
      exact ip_Fr.trans gzS3 (ih h)
theorem F_M_copy_49_54  {S : ip_St} {S9 : ip_St} (h : f_M_copy_49_54 S = some S9) : ip_Fr w_M_copy_49_54 S S9 := by
  unfold f_M_copy_49_54 at h
  exact ip_Fr.trans ip_Fr.rf (F_M_copy_49_54_2 ip_FU h)
def w_M_image : List (Nat × Nat) := [(30, 32), (30, 33), (30, 34), (30, 35), (30, 36), (30, 37), (50, 99), (51, 99), (52, 99), (53, 99), (54, 99)]
theorem F_M_image  {S : ip_St} {r : Int32} {S9 : ip_St} (h : f_M_image S = some (r, S9)) : ip_Fr w_M_image S S9 := by
  unfold f_M_image at h
  by_cases zhc1 : (f_M_lacks S) = false
  · rw [if_pos zhc1] at h
    obtain ⟨zS3, hzq2, h⟩ := ip_bind h
    have gzS3 : ip_Fr w_M_image S zS3 := ip_Fr.trans ip_Fr.rf (ip_Fr.mono rfl (F_M_copy_41_50 hzq2))
    obtain ⟨zS5, hzq4, h⟩ := ip_bind h
    have gzS5 : ip_Fr w_M_image S zS5 := ip_Fr.trans gzS3 (ip_Fr.mono rfl (F_M_copy_42_51 hzq4))
    obtain ⟨zS7, hzq6, h⟩ := ip_bind h
    have gzS7 : ip_Fr w_M_image S zS7 := ip_Fr.trans gzS5 (ip_Fr.mono rfl (F_M_copy_43_52 hzq6))
    obtain ⟨zS9, hzq8, h⟩ := ip_bind h
    have gzS9 : ip_Fr w_M_image S zS9 := ip_Fr.trans gzS7 (ip_Fr.mono rfl (F_M_copy_44_53 hzq8))
    obtain ⟨zS11, hzq10, h⟩ := ip_bind h
    have gzS11 : ip_Fr w_M_image S zS11 := ip_Fr.trans gzS9 (ip_Fr.mono rfl (F_M_copy_49_54 hzq10))
    cases h
    exact (ip_Fr.upI rfl (ip_Fr.upI rfl (ip_Fr.upI rfl (ip_Fr.upI rfl (ip_Fr.upL rfl (ip_Fr.upI rfl gzS11))))))
  · rw [if_neg zhc1] at h
    cases h
    exact ip_Fr.rf
def w_L_take_17_24 : List (Nat × Nat) := [(17, 0), (17, 1), (17, 2), (17, 3), (17, 4)]
theorem F_L_take_17_24  {S : ip_St} : ip_Fr w_L_take_17_24 S (f_L_take_17_24 S) := (ip_Fr.upI rfl (ip_Fr.upI rfl (ip_Fr.upI rfl (ip_Fr.upI rfl (ip_Fr.upL rfl ip_Fr.rf)))))
def w_D_take_12_19 : List (Nat × Nat) := [(12, 1), (12, 3), (12, 4), (12, 6), (17, 0), (17, 1), (17, 2), (17, 3), (17, 4), (18, 99), (100, 0)]
theorem F_D_take_12_19_65 : ∀ (n : Nat) {x2 : Int32} {S : ip_St} {S9 : ip_St}, f_D_take_12_19_65 n x2 S = some S9 → ip_Fr w_D_take_12_19 S S9 := by
  intro n
  induction n with
  | zero =>
    intro x2 S S9 h
    cases h
  | succ n ih =>
    intro x2 S S9 h
    rw [f_D_take_12_19_65] at h
    by_cases zhc1 : 8 ≤ x2
    · rw [if_pos zhc1] at h
      cases h
      exact (ip_Fr.upI rfl ip_Fr.rf)
    · rw [if_neg zhc1] at h
      obtain ⟨zv2, hzv2, h⟩ := ip_bind h
      obtain ⟨zS3, hzS3, h⟩ := ip_bind h
      have gzS3 : ip_Fr w_D_take_12_19 S zS3 := ip_Fr.wI hzS3 rfl ip_Fr.rf
      exact ip_Fr.trans gzS3 (ih h)
theorem F_D_take_12_19_2 : ∀ (n : Nat) {x2 : Int32} {S : ip_St} {S9 : ip_St}, f_D_take_12_19_2 n x2 S = some S9 → ip_Fr w_D_take_12_19 S S9 := by
  intro n
  induction n with
  | zero =>
    intro x2 S S9 h
    cases h
  | succ n ih =>
    intro x2 S S9 h
    rw [f_D_take_12_19_2] at h
    by_cases zhc1 : 3 ≤ x2
    · rw [if_pos zhc1] at h
      exact ip_Fr.trans (ip_Fr.upI rfl (ip_Fr.upI rfl (ip_Fr.trans (ip_Fr.upI rfl ip_Fr.rf) (ip_Fr.mono rfl (F_L_take_17_24))))) (F_D_take_12_19_65 ip_FU h)
    · rw [if_neg zhc1] at h
      obtain ⟨zv2, hzv2, h⟩ := ip_bind h
      have hozv2 := ip_aA_ob hzv2
      obtain ⟨zv3, hzv3, h⟩ := ip_bind h
      have hozv3 := ip_aA_ob hzv3
      obtain ⟨zS5, hzq4, h⟩ := ip_bind h
      have gzS5 : ip_Fr w_D_take_12_19 S zS5 := ip_Fr.trans ip_Fr.rf (ip_Fr.mono rfl (F_J_take hozv2 hozv3 hzq4))
      exact ip_Fr.trans gzS5 (ih h)
theorem F_D_take_12_19  {S : ip_St} {S9 : ip_St} (h : f_D_take_12_19 S = some S9) : ip_Fr w_D_take_12_19 S S9 := by
  unfold f_D_take_12_19 at h
  exact ip_Fr.trans ip_Fr.rf (F_D_take_12_19_2 ip_FU h)
def w_A_restore : List (Nat × Nat) := [(12, 1), (12, 3), (12, 4), (12, 6), (17, 0), (17, 1), (17, 2), (17, 3), (17, 4), (18, 99), (100, 0)]
theorem F_A_restore  {S : ip_St} {r : Int32} {S9 : ip_St} (h : f_A_restore S = some (r, S9)) : ip_Fr w_A_restore S S9 := by
  unfold f_A_restore at h
  by_cases zhc1 : ¬ (S.1 0 6) = 0
  · rw [if_neg zhc1] at h
    obtain ⟨zS3, hzq2, h⟩ := ip_bind h
    have gzS3 : ip_Fr w_A_restore S zS3 := ip_Fr.trans ip_Fr.rf (ip_Fr.mono rfl (F_D_take_12_19 hzq2))
    cases h
    exact gzS3
  · rw [if_pos (Decidable.of_not_not zhc1)] at h
    cases h
    exact ip_Fr.rf
def w_M_copy_50_41 : List (Nat × Nat) := [(41, 99)]
theorem F_M_copy_50_41_2 : ∀ (n : Nat) {x2 : Int32} {S : ip_St} {S9 : ip_St}, f_M_copy_50_41_2 n x2 S = some S9 → ip_Fr w_M_copy_50_41 S S9 := by
  intro n
  induction n with
  | zero =>
    intro x2 S S9 h
    cases h
  | succ n ih =>
    intro x2 S S9 h
    rw [f_M_copy_50_41_2] at h
    by_cases zhc1 : 56 ≤ x2
    · rw [if_pos zhc1] at h
      cases h
      exact ip_Fr.rf
    · rw [if_neg zhc1] at h
      obtain ⟨zv2, hzv2, h⟩ := ip_bind h
      obtain ⟨zS3, hzS3, h⟩ := ip_bind h
      have gzS3 : ip_Fr w_M_copy_50_41 S zS3 := ip_Fr.wI hzS3 rfl ip_Fr.rf
      exact ip_Fr.trans gzS3 (ih h)
theorem F_M_copy_50_41  {S : ip_St} {S9 : ip_St} (h : f_M_copy_50_41 S = some S9) : ip_Fr w_M_copy_50_41 S S9 := by
  unfold f_M_copy_50_41 at h
  exact ip_Fr.trans ip_Fr.rf (F_M_copy_50_41_2 ip_FU h)
def w_M_copy_51_42 : List (Nat × Nat) := [(42, 99)]
theorem F_M_copy_51_42_2 : ∀ (n : Nat) {x2 : Int32} {S : ip_St} {S9 : ip_St}, f_M_copy_51_42_2 n x2 S = some S9 → ip_Fr w_M_copy_51_42 S S9 := by
  intro n
  induction n with
  | zero =>
    intro x2 S S9 h
    cases h
  | succ n ih =>
    intro x2 S S9 h
    rw [f_M_copy_51_42_2] at h
    by_cases zhc1 : 6 ≤ x2
    · rw [if_pos zhc1] at h
      cases h
      exact ip_Fr.rf
    · rw [if_neg zhc1] at h
      obtain ⟨zv2, hzv2, h⟩ := ip_bind h
      obtain ⟨zS3, hzS3, h⟩ := ip_bind h
      have gzS3 : ip_Fr w_M_copy_51_42 S zS3 := ip_Fr.wI hzS3 rfl ip_Fr.rf
      exact ip_Fr.trans gzS3 (ih h)
theorem F_M_copy_51_42  {S : ip_St} {S9 : ip_St} (h : f_M_copy_51_42 S = some S9) : ip_Fr w_M_copy_51_42 S S9 := by
  unfold f_M_copy_51_42 at h
  exact ip_Fr.trans ip_Fr.rf (F_M_copy_51_42_2 ip_FU h)
def w_M_copy_52_43 : List (Nat × Nat) := [(43, 99)]
theorem F_M_copy_52_43_2 : ∀ (n : Nat) {x2 : Int32} {S : ip_St} {S9 : ip_St}, f_M_copy_52_43_2 n x2 S = some S9 → ip_Fr w_M_copy_52_43 S S9 := by
  intro n
  induction n with
  | zero =>
    intro x2 S S9 h
    cases h
  | succ n ih =>
    intro x2 S S9 h
    rw [f_M_copy_52_43_2] at h
    by_cases zhc1 : 18 ≤ x2
    · rw [if_pos zhc1] at h
      cases h
      exact ip_Fr.rf
    · rw [if_neg zhc1] at h
      obtain ⟨zv2, hzv2, h⟩ := ip_bind h
      obtain ⟨zS3, hzS3, h⟩ := ip_bind h
      have gzS3 : ip_Fr w_M_copy_52_43 S zS3 := ip_Fr.wI hzS3 rfl ip_Fr.rf
      exact ip_Fr.trans gzS3 (ih h)
theorem F_M_copy_52_43  {S : ip_St} {S9 : ip_St} (h : f_M_copy_52_43 S = some S9) : ip_Fr w_M_copy_52_43 S S9 := by
  unfold f_M_copy_52_43 at h
  exact ip_Fr.trans ip_Fr.rf (F_M_copy_52_43_2 ip_FU h)
def w_M_copy_53_44 : List (Nat × Nat) := [(44, 99)]
theorem F_M_copy_53_44_2 : ∀ (n : Nat) {x2 : Int32} {S : ip_St} {S9 : ip_St}, f_M_copy_53_44_2 n x2 S = some S9 → ip_Fr w_M_copy_53_44 S S9 := by
  intro n
  induction n with
  | zero =>
    intro x2 S S9 h
    cases h
  | succ n ih =>
    intro x2 S S9 h
    rw [f_M_copy_53_44_2] at h
    by_cases zhc1 : 18 ≤ x2
    · rw [if_pos zhc1] at h
      cases h
      exact ip_Fr.rf
    · rw [if_neg zhc1] at h
      obtain ⟨zv2, hzv2, h⟩ := ip_bind h
      obtain ⟨zS3, hzS3, h⟩ := ip_bind h
      have gzS3 : ip_Fr w_M_copy_53_44 S zS3 := ip_Fr.wI hzS3 rfl ip_Fr.rf
      exact ip_Fr.trans gzS3 (ih h)
theorem F_M_copy_53_44  {S : ip_St} {S9 : ip_St} (h : f_M_copy_53_44 S = some S9) : ip_Fr w_M_copy_53_44 S S9 := by
  unfold f_M_copy_53_44 at h
  exact ip_Fr.trans ip_Fr.rf (F_M_copy_53_44_2 ip_FU h)
def w_M_copy_54_49 : List (Nat × Nat) := [(49, 99)]
theorem F_M_copy_54_49_2 : ∀ (n : Nat) {x2 : Int32} {S : ip_St} {S9 : ip_St}, f_M_copy_54_49_2 n x2 S = some S9 → ip_Fr w_M_copy_54_49 S S9 := by
  intro n
  induction n with
  | zero =>
    intro x2 S S9 h
    cases h
  | succ n ih =>
    intro x2 S S9 h
    rw [f_M_copy_54_49_2] at h
    by_cases zhc1 : 32 ≤ x2
    · rw [if_pos zhc1] at h
      cases h
      exact ip_Fr.rf
    · rw [if_neg zhc1] at h
      obtain ⟨zv2, hzv2, h⟩ := ip_bind h
      obtain ⟨zS3, hzS3, h⟩ := ip_bind h
      have gzS3 : ip_Fr w_M_copy_54_49 S zS3 := ip_Fr.wI hzS3 rfl ip_Fr.rf
      exact ip_Fr.trans gzS3 (ih h)
theorem F_M_copy_54_49  {S : ip_St} {S9 : ip_St} (h : f_M_copy_54_49 S = some S9) : ip_Fr w_M_copy_54_49 S S9 := by
  unfold f_M_copy_54_49 at h
  exact ip_Fr.trans ip_Fr.rf (F_M_copy_54_49_2 ip_FU h)
def w_M_restore : List (Nat × Nat) := [(30, 16), (30, 17), (30, 19), (30, 20), (30, 29), (41, 99), (42, 99), (43, 99), (44, 99), (49, 99)]
theorem F_M_restore  {S : ip_St} {r : Int32} {S9 : ip_St} (h : f_M_restore S = some (r, S9)) : ip_Fr w_M_restore S S9 := by
  unfold f_M_restore at h
  by_cases zhc1 : (S.1 30 32) = (S.1 30 21)
  · rw [if_pos zhc1] at h
    obtain ⟨zS3, hzq2, h⟩ := ip_bind h
    have gzS3 : ip_Fr w_M_restore S zS3 := ip_Fr.trans ip_Fr.rf (ip_Fr.mono rfl (F_M_copy_50_41 hzq2))
    obtain ⟨zS5, hzq4, h⟩ := ip_bind h
    have gzS5 : ip_Fr w_M_restore S zS5 := ip_Fr.trans gzS3 (ip_Fr.mono rfl (F_M_copy_51_42 hzq4))
    obtain ⟨zS7, hzq6, h⟩ := ip_bind h
    have gzS7 : ip_Fr w_M_restore S zS7 := ip_Fr.trans gzS5 (ip_Fr.mono rfl (F_M_copy_52_43 hzq6))
    obtain ⟨zS9, hzq8, h⟩ := ip_bind h
    have gzS9 : ip_Fr w_M_restore S zS9 := ip_Fr.trans gzS7 (ip_Fr.mono rfl (F_M_copy_53_44 hzq8))
    obtain ⟨zS11, hzq10, h⟩ := ip_bind h
    have gzS11 : ip_Fr w_M_restore S zS11 := ip_Fr.trans gzS9 (ip_Fr.mono rfl (F_M_copy_54_49 hzq10))
    cases h
    exact (ip_Fr.upI rfl (ip_Fr.upI rfl (ip_Fr.upI rfl (ip_Fr.upL rfl (ip_Fr.upI rfl gzS11)))))
  · rw [if_neg zhc1] at h
    cases h
    exact ip_Fr.rf
def w_A_withJudge : List (Nat × Nat) := [(26, 0), (26, 1), (26, 2), (26, 3), (26, 4), (26, 6), (26, 9), (27, 99), (28, 99), (29, 99)]
theorem F_A_withJudge_75 : ∀ (n : Nat) {x3 : Int32} {x4 : Int64} {x6 : Int32} {S : ip_St} {r : Int64} {S9 : ip_St}, f_A_withJudge_75 n x3 x4 x6 S = some (r, S9) → ip_Fr w_A_withJudge S S9 := by
  intro n
  induction n with
  | zero =>
    intro x3 x4 x6 S r S9 h
    cases h
  | succ n ih =>
    intro x3 x4 x6 S r S9 h
    rw [f_A_withJudge_75] at h
    by_cases zhc1 : 6 ≤ x6
    · rw [if_pos zhc1] at h
      obtain ⟨zv3, hzq2, h⟩ := ip_bind h
      obtain ⟨zv5, hzq4, h⟩ := ip_bind h
      obtain ⟨zv7, hzq6, h⟩ := ip_bind h
      obtain ⟨zv9, hzq8, h⟩ := ip_bind h
      obtain ⟨zv11, hzq10, h⟩ := ip_bind h
      cases h
      exact ip_Fr.rf
    · rw [if_neg zhc1] at h
      obtain ⟨⟨zv13, zS14⟩, hzq12, h⟩ := ip_bind h
      dsimp only at h
      have gzS14 : ip_Fr w_A_withJudge S zS14 := ip_Fr.trans ip_Fr.rf (ip_Fr.mono rfl (F_A_judge hzq12))
      exact ip_Fr.trans gzS14 (ih h)
theorem F_A_withJudge_39 : ∀ (n : Nat) {x3 : Int32} {x4 : Int64} {x6 : Int32} {S : ip_St} {r : Int64} {S9 : ip_St}, f_A_withJudge_39 n x3 x4 x6 S = some (r, S9) → ip_Fr w_A_withJudge S S9 := by
  intro n
  induction n with
  | zero =>
    intro x3 x4 x6 S r S9 h
    cases h
  | succ n ih =>
    intro x3 x4 x6 S r S9 h
    rw [f_A_withJudge_39] at h
    by_cases zhc1 : 6 ≤ x6
    · rw [if_pos zhc1] at h
      exact ip_Fr.trans ip_Fr.rf (F_A_withJudge_75 ip_FU h)
    · rw [if_neg zhc1] at h
      obtain ⟨⟨zv3, zS4⟩, hzq2, h⟩ := ip_bind h
      dsimp only at h
      have gzS4 : ip_Fr w_A_withJudge S zS4 := ip_Fr.trans ip_Fr.rf (ip_Fr.mono rfl (F_A_judge hzq2))
      exact ip_Fr.trans gzS4 (ih h)
theorem F_A_withJudge_6 : ∀ (n : Nat) {x3 : Int32} {x4 : Int64} {x6 : Int32} {S : ip_St} {r : Int64} {S9 : ip_St}, f_A_withJudge_6 n x3 x4 x6 S = some (r, S9) → ip_Fr w_A_withJudge S S9 := by
  intro n
  induction n with
  | zero =>
    intro x3 x4 x6 S r S9 h
    cases h
  | succ n ih =>
    intro x3 x4 x6 S r S9 h
    rw [f_A_withJudge_6] at h
    by_cases zhc1 : 10 < x6
    · rw [if_pos zhc1] at h
      exact ip_Fr.trans ip_Fr.rf (F_A_withJudge_39 ip_FU h)
    · rw [if_neg zhc1] at h
      obtain ⟨⟨zv3, zS4⟩, hzq2, h⟩ := ip_bind h
      dsimp only at h
      have gzS4 : ip_Fr w_A_withJudge S zS4 := ip_Fr.trans ip_Fr.rf (ip_Fr.mono rfl (F_A_judge hzq2))
      exact ip_Fr.trans gzS4 (ih h)
theorem F_A_withJudge {p1 : Int64} {p2 : Int32} {S : ip_St} {r : Int64} {S9 : ip_St} (h : f_A_withJudge p1 p2 S = some (r, S9)) : ip_Fr w_A_withJudge S S9 := by
  unfold f_A_withJudge at h
  exact ip_Fr.trans ip_Fr.rf (F_A_withJudge_6 ip_FU h)
def w_A_digest : List (Nat × Nat) := [(26, 0), (26, 1), (26, 2), (26, 3), (26, 4), (26, 6), (26, 9), (27, 99), (28, 99), (29, 99)]
theorem F_A_digest_107 : ∀ (n : Nat) {x1 : Int64} {x3 : Int32} {S : ip_St} {r : Int64} {S9 : ip_St}, f_A_digest_107 n x1 x3 S = some (r, S9) → ip_Fr w_A_digest S S9 := by
  intro n
  induction n with
  | zero =>
    intro x1 x3 S r S9 h
    cases h
  | succ n ih =>
    intro x1 x3 S r S9 h
    rw [f_A_digest_107] at h
    by_cases zhc1 : 12 ≤ x3
    · rw [if_pos zhc1] at h
      cases h
      exact ip_Fr.rf
    · rw [if_neg zhc1] at h
      obtain ⟨zv3, hzq2, h⟩ := ip_bind h
      exact ip_Fr.trans ip_Fr.rf (ih h)
theorem F_A_digest_77 : ∀ (n : Nat) {x1 : Int64} {x3 : Int32} {S : ip_St} {r : Int64} {S9 : ip_St}, f_A_digest_77 n x1 x3 S = some (r, S9) → ip_Fr w_A_digest S S9 := by
  intro n
  induction n with
  | zero =>
    intro x1 x3 S r S9 h
    cases h
  | succ n ih =>
    intro x1 x3 S r S9 h
    rw [f_A_digest_77] at h
    by_cases zhc1 : (S.1 0 1) ≤ x3
    · rw [if_pos zhc1] at h
      exact ip_Fr.trans ip_Fr.rf (F_A_digest_107 ip_FU h)
    · rw [if_neg zhc1] at h
      obtain ⟨zv2, hzv2, h⟩ := ip_bind h
      exact ip_Fr.trans ip_Fr.rf (ih h)
theorem F_A_digest_39 : ∀ (n : Nat) {x1 : Int64} {x3 : Int32} {S : ip_St} {r : Int64} {S9 : ip_St}, f_A_digest_39 n x1 x3 S = some (r, S9) → ip_Fr w_A_digest S S9 := by
  intro n
  induction n with
  | zero =>
    intro x1 x3 S r S9 h
    cases h
  | succ n ih =>
    intro x1 x3 S r S9 h
    rw [f_A_digest_39] at h
    by_cases zhc1 : 5 < x3
    · rw [if_pos zhc1] at h
      obtain ⟨zv3, hzq2, h⟩ := ip_bind h
      exact ip_Fr.trans ip_Fr.rf (F_A_digest_77 ip_FU h)
    · rw [if_neg zhc1] at h
      obtain ⟨zv5, hzq4, h⟩ := ip_bind h
      exact ip_Fr.trans ip_Fr.rf (ih h)
theorem F_A_digest_6 : ∀ (n : Nat) {x1 : Int64} {x3 : Int32} {S : ip_St} {r : Int64} {S9 : ip_St}, f_A_digest_6 n x1 x3 S = some (r, S9) → ip_Fr w_A_digest S S9 := by
  intro n
  induction n with
  | zero =>
    intro x1 x3 S r S9 h
    cases h
  | succ n ih =>
    intro x1 x3 S r S9 h
    rw [f_A_digest_6] at h
    by_cases zhc1 : (S.1 12 1) ≤ x3
    · rw [if_pos zhc1] at h
      by_cases zhc2 : (f_A_hasCourt S) = false
      · rw [if_pos zhc2] at h
        exact ip_Fr.trans ip_Fr.rf (F_A_digest_77 ip_FU h)
      · rw [if_neg zhc2] at h
        exact ip_Fr.trans ip_Fr.rf (F_A_digest_39 ip_FU h)
    · rw [if_neg zhc1] at h
      obtain ⟨⟨zv4, zS5⟩, hzq3, h⟩ := ip_bind h
      dsimp only at h
      have gzS5 : ip_Fr w_A_digest S zS5 := ip_Fr.trans ip_Fr.rf (ip_Fr.mono rfl (F_A_withJudge hzq3))
      exact ip_Fr.trans gzS5 (ih h)
theorem F_A_digest  {S : ip_St} {r : Int64} {S9 : ip_St} (h : f_A_digest S = some (r, S9)) : ip_Fr w_A_digest S S9 := by
  unfold f_A_digest at h
  exact ip_Fr.trans ip_Fr.rf (F_A_digest_6 ip_FU h)
def w_M_say : List (Nat × Nat) := [(30, 43)]
theorem F_M_say {p1 : Int64} {S : ip_St} : ip_Fr w_M_say S (f_M_say p1 S) := (ip_Fr.upL rfl ip_Fr.rf)
def w_M_sayJudge : List (Nat × Nat) := [(30, 14), (30, 43), (34, 99), (35, 99), (36, 99), (37, 99), (38, 99), (39, 99), (40, 99), (45, 99), (46, 99), (47, 99), (48, 99)]
theorem F_M_sayJudge_34 {k2 : Int32 → Int32 → ip_St → Option (ip_St)} (hk2 : ∀ {x1 : Int32} {x2 : Int32} {S : ip_St} {S9 : ip_St}, k2 x1 x2 S = some S9 → ip_Fr w_M_sayJudge S S9) {x1 : Int32} {x2 : Int32} {S : ip_St} {S9 : ip_St} (h : f_M_sayJudge_34 k2 x1 x2 S = some S9) : ip_Fr w_M_sayJudge S S9 := by
  unfold f_M_sayJudge_34 at h
  obtain ⟨⟨zv2, zS3⟩, hzq1, h⟩ := ip_bind h
  dsimp only at h
  have gzS3 : ip_Fr w_M_sayJudge S zS3 := ip_Fr.trans ip_Fr.rf (ip_Fr.mono rfl (F_M_tellJudge hzq1))
  exact ip_Fr.trans (ip_Fr.trans gzS3 (ip_Fr.mono rfl (F_M_say))) (hk2 h)
theorem F_M_sayJudge_2 : ∀ (n : Nat) {x1 : Int32} {x2 : Int32} {S : ip_St} {S9 : ip_St}, f_M_sayJudge_2 n x1 x2 S = some S9 → ip_Fr w_M_sayJudge S S9 := by
  intro n
  induction n with
  | zero =>
    intro x1 x2 S S9 h
    cases h
  | succ n ih =>
    intro x1 x2 S S9 h
    rw [f_M_sayJudge_2] at h
    by_cases zhc1 : 36 ≤ x2
    · rw [if_pos zhc1] at h
      obtain ⟨zv3, hzq2, h⟩ := ip_bind h
      obtain ⟨zv5, hzq4, h⟩ := ip_bind h
      obtain ⟨zv7, hzq6, h⟩ := ip_bind h
      obtain ⟨zv9, hzq8, h⟩ := ip_bind h
      obtain ⟨zv11, hzq10, h⟩ := ip_bind h
      cases h
      exact (ip_Fr.trans (ip_Fr.trans (ip_Fr.trans (ip_Fr.trans (ip_Fr.trans ip_Fr.rf (ip_Fr.mono rfl (F_M_say))) (ip_Fr.mono rfl (F_M_say))) (ip_Fr.mono rfl (F_M_say))) (ip_Fr.mono rfl (F_M_say))) (ip_Fr.mono rfl (F_M_say)))
    · rw [if_neg zhc1] at h
      by_cases zhc12 : x2 < 11
      · rw [if_pos zhc12] at h
        exact ip_Fr.trans ip_Fr.rf (F_M_sayJudge_34 ih h)
      · rw [if_neg zhc12] at h
        by_cases zhc13 : (f_M_in (Int32.toInt64 x2) 20 25) = true
        · rw [if_pos zhc13] at h
          exact ip_Fr.trans ip_Fr.rf (F_M_sayJudge_34 ih h)
        · rw [if_neg zhc13] at h
          by_cases zhc14 : x2 ≤ 29
          · rw [if_pos zhc14] at h
            exact ip_Fr.trans ip_Fr.rf (ih h)
          · rw [if_neg zhc14] at h
            exact ip_Fr.trans ip_Fr.rf (F_M_sayJudge_34 ih h)
theorem F_M_sayJudge {p1 : Int32} {S : ip_St} {S9 : ip_St} (h : f_M_sayJudge p1 S = some S9) : ip_Fr w_M_sayJudge S S9 := by
  unfold f_M_sayJudge at h
  exact ip_Fr.trans ip_Fr.rf (F_M_sayJudge_2 ip_FU h)
def w_M_digest : List (Nat × Nat) := [(30, 14), (30, 43), (34, 99), (35, 99), (36, 99), (37, 99), (38, 99), (39, 99), (40, 99), (45, 99), (46, 99), (47, 99), (48, 99)]
theorem F_M_digest_97 : ∀ (n : Nat) {x1 : Int32} {S : ip_St} {r : Int64} {S9 : ip_St}, f_M_digest_97 n x1 S = some (r, S9) → ip_Fr w_M_digest S S9 := by
  intro n
  induction n with
  | zero =>
    intro x1 S r S9 h
    cases h
  | succ n ih =>
    intro x1 S r S9 h
    rw [f_M_digest_97] at h
    by_cases zhc1 : 12 ≤ x1
    · rw [if_pos zhc1] at h
      cases h
      exact ip_Fr.rf
    · rw [if_neg zhc1] at h
      obtain ⟨zv3, hzq2, h⟩ := ip_bind h
      exact ip_Fr.trans (ip_Fr.trans ip_Fr.rf (ip_Fr.mono rfl (F_M_say))) (ih h)
theorem F_M_digest_70 : ∀ (n : Nat) {x1 : Int32} {S : ip_St} {r : Int64} {S9 : ip_St}, f_M_digest_70 n x1 S = some (r, S9) → ip_Fr w_M_digest S S9 := by
  intro n
  induction n with
  | zero =>
    intro x1 S r S9 h
    cases h
  | succ n ih =>
    intro x1 S r S9 h
    rw [f_M_digest_70] at h
    by_cases zhc1 : (S.1 30 2) ≤ x1
    · rw [if_pos zhc1] at h
      exact ip_Fr.trans ip_Fr.rf (F_M_digest_97 ip_FU h)
    · rw [if_neg zhc1] at h
      obtain ⟨zv2, hzv2, h⟩ := ip_bind h
      exact ip_Fr.trans (ip_Fr.trans ip_Fr.rf (ip_Fr.mono rfl (F_M_say))) (ih h)
theorem F_M_digest_37 : ∀ (n : Nat) {x1 : Int32} {S : ip_St} {r : Int64} {S9 : ip_St}, f_M_digest_37 n x1 S = some (r, S9) → ip_Fr w_M_digest S S9 := by
  intro n
  induction n with
  | zero =>
    intro x1 S r S9 h
    cases h
  | succ n ih =>
    intro x1 S r S9 h
    rw [f_M_digest_37] at h
    by_cases zhc1 : 6 ≤ x1
    · rw [if_pos zhc1] at h
      obtain ⟨⟨zv3, zS4⟩, hzq2, h⟩ := ip_bind h
      dsimp only at h
      have gzS4 : ip_Fr w_M_digest S zS4 := ip_Fr.trans ip_Fr.rf (ip_Fr.mono rfl (F_M_benchOf hzq2))
      exact ip_Fr.trans (ip_Fr.trans gzS4 (ip_Fr.mono rfl (F_M_say))) (F_M_digest_70 ip_FU h)
    · rw [if_neg zhc1] at h
      obtain ⟨zv6, hzq5, h⟩ := ip_bind h
      exact ip_Fr.trans (ip_Fr.trans ip_Fr.rf (ip_Fr.mono rfl (F_M_say))) (ih h)
theorem F_M_digest_9 : ∀ (n : Nat) {x1 : Int32} {S : ip_St} {r : Int64} {S9 : ip_St}, f_M_digest_9 n x1 S = some (r, S9) → ip_Fr w_M_digest S S9 := by
  intro n
  induction n with
  | zero =>
    intro x1 S r S9 h
    cases h
  | succ n ih =>
    intro x1 S r S9 h
    rw [f_M_digest_9] at h
    by_cases zhc1 : (S.1 30 18) ≤ x1
    · rw [if_pos zhc1] at h
      by_cases zhc2 : (f_M_lacks S) = true
      · rw [if_pos zhc2] at h
        exact ip_Fr.trans ip_Fr.rf (F_M_digest_70 ip_FU h)
      · rw [if_neg zhc2] at h
        exact ip_Fr.trans ip_Fr.rf (F_M_digest_37 ip_FU h)
    · rw [if_neg zhc1] at h
      obtain ⟨zS4, hzq3, h⟩ := ip_bind h
      have gzS4 : ip_Fr w_M_digest S zS4 := ip_Fr.trans ip_Fr.rf (ip_Fr.mono rfl (F_M_sayJudge hzq3))
      exact ip_Fr.trans gzS4 (ih h)
theorem F_M_digest  {S : ip_St} {r : Int64} {S9 : ip_St} (h : f_M_digest S = some (r, S9)) : ip_Fr w_M_digest S S9 := by
  unfold f_M_digest at h
  exact ip_Fr.trans (ip_Fr.upL rfl ip_Fr.rf) (F_M_digest_9 ip_FU h)
