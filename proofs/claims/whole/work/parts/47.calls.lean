/-! ===== both on one state ===== -/
def wC30 : List (Nat × Nat) := [(0, 99), (1, 99), (2, 99), (3, 99), (4, 99), (5, 99), (6, 99), (7, 99), (8, 99), (9, 99), (10, 99), (11, 99), (12, 99), (13, 99), (14, 99), (15, 99), (16, 99), (17, 99), (18, 99), (19, 99), (20, 99), (21, 99), (22, 99), (23, 99), (24, 99), (25, 99), (26, 99), (27, 99), (28, 99), (29, 99), (100, 0)]
def wM30 : List (Nat × Nat) := [(30, 99), (31, 99), (32, 99), (33, 99), (34, 99), (35, 99), (36, 99), (37, 99), (38, 99), (39, 99), (40, 99), (41, 99), (42, 99), (43, 99), (44, 99), (45, 99), (46, 99), (47, 99), (48, 99), (49, 99), (50, 99), (51, 99), (52, 99), (53, 99), (54, 99)]
theorem Rel2.m30 {N : Nat} {C M M' : ip_St} (h : Rel2 N C M) (hf : ip_Fr wC30 M M') : Rel2 N C M' := by
  have e41 : M'.1 41 = M.1 41 := funext fun k => (hf 41 k rfl).1
  have e42 : M'.1 42 = M.1 42 := funext fun k => (hf 42 k rfl).1
  have e43 : M'.1 43 = M.1 43 := funext fun k => (hf 43 k rfl).1
  have e44 : M'.1 44 = M.1 44 := funext fun k => (hf 44 k rfl).1
  have e49 : M'.1 49 = M.1 49 := funext fun k => (hf 49 k rfl).1
  have e50 : M'.1 50 = M.1 50 := funext fun k => (hf 50 k rfl).1
  have e51 : M'.1 51 = M.1 51 := funext fun k => (hf 51 k rfl).1
  have e52 : M'.1 52 = M.1 52 := funext fun k => (hf 52 k rfl).1
  have e53 : M'.1 53 = M.1 53 := funext fun k => (hf 53 k rfl).1
  have e54 : M'.1 54 = M.1 54 := funext fun k => (hf 54 k rfl).1
  have e32 : M'.1 32 = M.1 32 := funext fun k => (hf 32 k rfl).1
  have e31 : M'.2 31 = M.2 31 := funext fun k => (hf 31 k rfl).2
  have g2 := (hf 30 2 rfl).1
  have g16 := (hf 30 16 rfl).1
  have g17 := (hf 30 17 rfl).2
  have g18 := (hf 30 18 rfl).1
  have g19 := (hf 30 19 rfl).1
  have g20 := (hf 30 20 rfl).1
  have g21 := (hf 30 21 rfl).1
  have g29 := (hf 30 29 rfl).1
  have g32 := (hf 30 32 rfl).1
  have g33 := (hf 30 33 rfl).1
  have g34 := (hf 30 34 rfl).1
  have g35 := (hf 30 35 rfl).1
  have g36 := (hf 30 36 rfl).1
  have g37 := (hf 30 37 rfl).2
  unfold Rel2 RT RPg RIm RNow RKep RDk RJs RSeen RSn1 RLaw jM at h ⊢
  rw [e31, e32, e41, e42, e43, e44, e49, e50, e51, e52, e53, e54, g2, g16, g17, g18, g19, g20, g21, g29, g32, g33, g34, g35, g36, g37]
  exact h
theorem Rel2.c30 {N : Nat} {C C' M : ip_St} (h : Rel2 N C M) (hf : ip_Fr wM30 C C') : Rel2 N C' M := by
  have a1 : C'.1 1 = C.1 1 := funext fun k => (hf 1 k rfl).1
  have a12 : C'.1 12 = C.1 12 := funext fun k => (hf 12 k rfl).1
  have a14 : C'.1 14 = C.1 14 := funext fun k => (hf 14 k rfl).1
  have a15 : C'.1 15 = C.1 15 := funext fun k => (hf 15 k rfl).1
  have a16 : C'.1 16 = C.1 16 := funext fun k => (hf 16 k rfl).1
  have a17 : C'.1 17 = C.1 17 := funext fun k => (hf 17 k rfl).1
  have b17 : C'.2 17 = C.2 17 := funext fun k => (hf 17 k rfl).2
  have a18 : C'.1 18 = C.1 18 := funext fun k => (hf 18 k rfl).1
  have a19 : C'.1 19 = C.1 19 := funext fun k => (hf 19 k rfl).1
  have a21 : C'.1 21 = C.1 21 := funext fun k => (hf 21 k rfl).1
  have a22 : C'.1 22 = C.1 22 := funext fun k => (hf 22 k rfl).1
  have a23 : C'.1 23 = C.1 23 := funext fun k => (hf 23 k rfl).1
  have a24 : C'.1 24 = C.1 24 := funext fun k => (hf 24 k rfl).1
  have b24 : C'.2 24 = C.2 24 := funext fun k => (hf 24 k rfl).2
  have a25 : C'.1 25 = C.1 25 := funext fun k => (hf 25 k rfl).1
  have a26 : C'.1 26 = C.1 26 := funext fun k => (hf 26 k rfl).1
  have b26 : C'.2 26 = C.2 26 := funext fun k => (hf 26 k rfl).2
  have g1 := (hf 0 1 rfl).1
  have g6 := (hf 0 6 rfl).1
  have g7 := (hf 0 7 rfl).1
  have jj : ∀ B, B = 14 ∨ B = 21 → ∀ J, J ≤ 3 → ∀ r kn hd, RJs C M J B r kn hd → RJs C' M J B r kn hd := by
    intro B hB J hJ r kn hd hh j hj
    obtain ⟨d, d1, d2, d3, d4⟩ := hh j hj
    refine ⟨d, d1, d2, ?_, d4⟩
    have : C'.1 (B + j) = C.1 (B + j) := by
      rcases hB with rfl | rfl
      · rcases (show j = 0 ∨ j = 1 ∨ j = 2 by omega) with rfl | rfl | rfl
        · exact a14
        · exact a15
        · exact a16
      · rcases (show j = 0 ∨ j = 1 ∨ j = 2 by omega) with rfl | rfl | rfl
        · exact a21
        · exact a22
        · exact a23
    unfold jC at d3 ⊢
    rw [this]
    exact d3
  obtain ⟨hT, hPg, hX, J, cr, c1, c2, c3, c4, c5, c6, c7⟩ := h
  refine ⟨hT, ?_, ?_, J, cr, c1, c2, ?_, c4, by rw [g7]; exact c5, c6, ?_⟩
  · unfold RPg at hPg ⊢
    rw [a1, g1]
    exact hPg
  · unfold RX at hX ⊢
    rw [a26, b26]
    exact hX
  · obtain ⟨x1, x2, x3, x4, x5, x6⟩ := c3
    refine ⟨by rw [a12]; exact x1, by rw [a12]; exact x2, by rw [a12]; exact x3, jj 14 (Or.inl rfl) J c1 _ _ _ x4, fun hJ => ?_, ?_⟩
    · have := x5 hJ
      unfold RLaw at this ⊢
      rw [show 12 + 5 = 17 from rfl] at this ⊢
      rw [a17, b17]
      exact this
    · unfold RSeen RSn1 at x6 ⊢
      rw [show 12 + 6 = 18 from rfl] at x6 ⊢
      rw [a12, a18]
      exact x6
  · unfold RIm at c7 ⊢
    rw [g6]
    rcases c7 with ⟨y1, y2, y3, x1, x2, x3, x4, x5, x6⟩ | c7
    · refine Or.inl ⟨y1, y2, y3, by rw [a19]; exact x1, by rw [a19]; exact x2, by rw [a19]; exact x3, jj 21 (Or.inr rfl) J c1 _ _ _ x4, fun hJ => ?_, ?_⟩
      · have := x5 hJ
        unfold RLaw at this ⊢
        rw [show 19 + 5 = 24 from rfl] at this ⊢
        rw [a24, b24]
        exact this
      · unfold RSeen RSn1 at x6 ⊢
        rw [show 19 + 6 = 25 from rfl] at x6 ⊢
        rw [a19, a25]
        exact x6
    · exact Or.inr c7
theorem RB_u {S : ip_St} {c k : Nat} {v : Int32} (h : RB S) (hk : ¬ k = 5 ∨ ip_isB v = true) : RB (ip_upI S c k v) := by
  have key : ∀ a, ip_isB (S.1 a 5) = true → ip_isB ((ip_upI S c k v).1 a 5) = true := by
    intro a ha
    rw [upI_f]
    by_cases z : a = c ∧ 5 = k
    · rw [if_pos z]
      rcases hk with y | y
      · exact absurd z.2.symm y
      · exact y
    · rw [if_neg z]
      exact ha
  intro j hj
  exact ⟨key _ (h j hj).1, key _ (h j hj).2⟩
theorem RB_ask {p1 p2 p3 : Int32} {S S9 : ip_St} {r : Int32} (h : f_A_ask p1 p2 p3 S = some (r, S9)) (hB : RB S) : RB S9 := by
  have h115 : ∀ {x2 x3 : Int32} {c4 : Nat} {X : ip_St}, RB X → f_A_ask_115 x2 x3 c4 X = some (r, S9) → RB S9 := by
    intro x2 x3 c4 X hX hq
    unfold f_A_ask_115 at hq
    obtain ⟨v, -, hq⟩ := ip_bind hq
    cases hq
    exact RB_u (RB_u hX (Or.inl (by decide))) (Or.inl (by decide))
  unfold f_A_ask at h
  split at h
  · cases h; exact hB
  · split at h
    · split at h
      · obtain ⟨c, -, h⟩ := ip_bind h
        split at h
        · cases h; exact hB
        · obtain ⟨v7, -, h⟩ := ip_bind h
          obtain ⟨v9, -, h⟩ := ip_bind h
          split at h
          · cases h; exact hB
          · have hB1 : RB (ip_upI S 12 4 (S.1 12 4 + 1)) := RB_u hB (Or.inl (by decide))
            split at h
            · split at h
              · cases h
                exact RB_u hB1 (Or.inr (by decide))
              · exact h115 hB1 h
            · exact h115 hB1 h
      · cases h; exact hB
    · cases h; exact hB
theorem RB_learn {p1 p2 p3 : Int32} {S S9 : ip_St} {r : Int32} (h : f_A_learn p1 p2 p3 S = some (r, S9)) (hB : RB S) : RB S9 := by
  unfold f_A_learn at h
  split at h
  · cases h; exact hB
  · split at h
    · split at h
      · obtain ⟨c, -, h⟩ := ip_bind h
        split at h
        · cases h; exact hB
        · obtain ⟨v7, -, h⟩ := ip_bind h
          obtain ⟨v9, -, h⟩ := ip_bind h
          split at h
          · cases h; exact hB
          · obtain ⟨v12, -, h⟩ := ip_bind h
            cases h
            unfold f_J_know
            exact RB_u (RB_u hB (Or.inl (by decide))) (Or.inl (by decide))
      · cases h; exact hB
    · cases h; exact hB
theorem RB_adjourn {p1 : Int32} {S S9 : ip_St} {r : Int32} (h : f_A_adjourn p1 S = some (r, S9)) (hB : RB S) : RB S9 := by
  unfold f_A_adjourn at h
  split at h
  · obtain ⟨c, -, h⟩ := ip_bind h
    cases h
    unfold f_J_unhear
    exact RB_u (RB_u (RB_u hB (Or.inl (by decide))) (Or.inl (by decide))) (Or.inr (by decide))
  · cases h; exact hB
def Inv (N L : Nat) (xs : Nat → Int32) (S : ip_St) : Prop := Rel2 N S S ∧ RB S ∧ ip_Sc L xs S
theorem Sc_fr {w : List (Nat × Nat)} {L : Nat} {xs : Nat → Int32} {S S' : ip_St} (h : ip_Sc L xs S) (hf : ip_Fr w S S') (u1 : unt w 58 = true) (u2 : unt w 59 = true) : ip_Sc L xs S' := by
  refine ⟨?_, fun j hj => ?_⟩
  · rw [fr1 hf u2]; exact h.1
  · rw [fr1 hf u1]; exact h.2 j hj
theorem Sc_c30 {L : Nat} {xs : Nat → Int32} {S S' : ip_St} (h : ip_Sc L xs S) (hf : ip_Fr wC30 S S') : ip_Sc L xs S' := by
  refine ⟨?_, fun j hj => ?_⟩
  · rw [(hf 59 0 rfl).1]; exact h.1
  · rw [(hf 58 j rfl).1]; exact h.2 j hj
theorem lift2 {ρ : Type} {A B : ip_St → Option (ρ × ip_St)} {N L : Nat} {xs : Nat → Int32} {S : ip_St} (op : ∀ C M, Rel2 N C M → RB C → ∃ r C' M', A C = some (r, C') ∧ B M = some (r, M') ∧ Rel2 (N + 1) C' M' ∧ RB C') (fA : ∀ S r S', A S = some (r, S') → ip_Fr wC30 S S') (fB : ∀ S r S', B S = some (r, S') → ip_Fr wM30 S S') (h : Inv N L xs S) : ∃ r S1 S2, A S = some (r, S1) ∧ B S1 = some (r, S2) ∧ ip_Sc L xs S1 ∧ Inv (N + 1) L xs S2 := by
  obtain ⟨h1, h2, h3⟩ := h
  obtain ⟨r0, S1, -, a1, -⟩ := op S S h1 h2
  have f1 := fA _ _ _ a1
  obtain ⟨r, C', S2, b1, b2, b3, b4⟩ := op S S1 (h1.m30 f1) h2
  rw [a1] at b1
  cases b1
  have f2 := fB _ _ _ b2
  exact ⟨r0, S1, S2, a1, b2, Sc_c30 h3 f1, b3.c30 f2, RB_fr f2 rfl b4, Sc_fr (Sc_c30 h3 f1) f2 rfl rfl⟩
theorem c_letter {N L : Nat} {xs : Nat → Int32} {S : ip_St} (h : Inv N L xs S) (p1 : Int32) : ∃ r S1 S2, ip_Me 0 [.ref 0, .int p1] S (some (.int r)) S1 ∧ ip_Me 102 [.ref 30, .int p1] S1 (some (.int r)) S2 ∧ ip_Sc L xs S1 ∧ Inv (N + 1) L xs S2 := by
  obtain ⟨r, S1, S2, a1, a2, a3, a4⟩ := lift2 (ρ := Int32) (A := (fun X => f_A_letter p1 X)) (B := (fun X => f_M_letter p1 X)) (N := N) (fun C M hR hB => by
    obtain ⟨r, C', M', q1, q2, q3⟩ := op_letter hR p1
    exact ⟨r, C', M', q1, q2, q3.up (by omega), RB_fr (F_A_letter q1) rfl hB⟩)
    (fun X r X' q => ip_Fr.mono (by decide) (F_A_letter q)) (fun X r X' q => ip_Fr.mono (by decide) (F_M_letter q)) h
  exact ⟨r, S1, S2, T_A_letter a1, T_M_letter a2, a3, a4⟩
theorem c_blank {N L : Nat} {xs : Nat → Int32} {S : ip_St} (h : Inv N L xs S) : ∃ r S1 S2, ip_Me 1 [.ref 0] S (some (.int r)) S1 ∧ ip_Me 103 [.ref 30] S1 (some (.int r)) S2 ∧ ip_Sc L xs S1 ∧ Inv (N + 1) L xs S2 := by
  obtain ⟨r, S1, S2, a1, a2, a3, a4⟩ := lift2 (ρ := Int32) (A := (fun X => some (f_A_blank X))) (B := (fun X => some (f_M_blank X))) (N := N) (fun C M hR hB => by
    obtain ⟨q1, q2⟩ := op_blank hR
    exact ⟨(f_A_blank C).1, (f_A_blank C).2, (f_M_blank M).2, rfl, congrArg some (Prod.ext q1.symm rfl), q2.up (by omega), RB_fr F_A_blank rfl hB⟩)
    (fun X r X' q => by have e : f_A_blank X = (r, X') := Option.some.inj q; have f := F_A_blank (S := X); rw [e] at f; exact ip_Fr.mono (by decide) f) (fun X r X' q => by have e : f_M_blank X = (r, X') := Option.some.inj q; have f := F_M_blank (S := X); rw [e] at f; exact ip_Fr.mono (by decide) f) h
  exact ⟨r, S1, S2, T_A_blank (Option.some.inj a1), T_M_blank (Option.some.inj a2), a3, a4⟩
theorem c_fault {N L : Nat} {xs : Nat → Int32} {S : ip_St} (h : Inv N L xs S) : ∃ r S1 S2, ip_Me 20 [.ref 0] S (some (.int r)) S1 ∧ ip_Me 113 [.ref 30] S1 (some (.int r)) S2 ∧ ip_Sc L xs S1 ∧ Inv (N + 1) L xs S2 := by
  obtain ⟨r, S1, S2, a1, a2, a3, a4⟩ := lift2 (ρ := Int32) (A := (fun X => f_A_fault X)) (B := (fun X => f_M_fault X)) (N := N) (fun C M hR hB => by
    obtain ⟨r, C', M', q1, q2, q3⟩ := op_fault hR
    exact ⟨r, C', M', q1, q2, q3.up (by omega), RB_fr (F_A_fault q1) rfl hB⟩)
    (fun X r X' q => ip_Fr.mono (by decide) (F_A_fault q)) (fun X r X' q => ip_Fr.mono (by decide) (F_M_fault q)) h
  exact ⟨r, S1, S2, T_A_fault a1, T_M_fault a2, a3, a4⟩
theorem c_court {N L : Nat} {xs : Nat → Int32} {S : ip_St} (h : Inv N L xs S) : ∃ r S1 S2, ip_Me 29 [.ref 0] S (some (.int r)) S1 ∧ ip_Me 125 [.ref 30] S1 (some (.int r)) S2 ∧ ip_Sc L xs S1 ∧ Inv (N + 1) L xs S2 := by
  obtain ⟨r, S1, S2, a1, a2, a3, a4⟩ := lift2 (ρ := Int32) (A := (fun X => f_A_court X)) (B := (fun X => f_M_court X)) (N := N) (fun C M hR hB => by
    exact op_court hR hB)
    (fun X r X' q => ip_Fr.mono (by decide) (F_A_court q)) (fun X r X' q => ip_Fr.mono (by decide) (F_M_court q)) h
  exact ⟨r, S1, S2, T_A_court a1, T_M_court a2, a3, a4⟩
theorem c_amend {N L : Nat} {xs : Nat → Int32} {S : ip_St} (h : Inv N L xs S) : ∃ r S1 S2, ip_Me 32 [.ref 0] S (some (.int r)) S1 ∧ ip_Me 128 [.ref 30] S1 (some (.int r)) S2 ∧ ip_Sc L xs S1 ∧ Inv (N + 1) L xs S2 := by
  obtain ⟨r, S1, S2, a1, a2, a3, a4⟩ := lift2 (ρ := Int32) (A := (fun X => f_A_amend X)) (B := (fun X => f_M_amend X)) (N := N) (fun C M hR hB => by
    obtain ⟨r, C', M', q1, q2, q3⟩ := op_amend hR
    exact ⟨r, C', M', q1, q2, q3.up (by omega), RB_fr (F_A_amend q1) rfl hB⟩)
    (fun X r X' q => ip_Fr.mono (by decide) (F_A_amend q)) (fun X r X' q => ip_Fr.mono (by decide) (F_M_amend q)) h
  exact ⟨r, S1, S2, T_A_amend a1, T_M_amend a2, a3, a4⟩
theorem c_lawFault {N L : Nat} {xs : Nat → Int32} {S : ip_St} (h : Inv N L xs S) : ∃ r S1 S2, ip_Me 33 [.ref 0] S (some (.int r)) S1 ∧ ip_Me 114 [.ref 30] S1 (some (.int r)) S2 ∧ ip_Sc L xs S1 ∧ Inv (N + 1) L xs S2 := by
  obtain ⟨r, S1, S2, a1, a2, a3, a4⟩ := lift2 (ρ := Int32) (A := (fun X => f_A_lawFault X)) (B := (fun X => f_M_lawFault X)) (N := N) (fun C M hR hB => by
    obtain ⟨r, C', M', q1, q2, q3⟩ := op_lawFault hR
    exact ⟨r, C', M', q1, q2, q3.up (by omega), RB_fr (F_A_lawFault q1) rfl hB⟩)
    (fun X r X' q => ip_Fr.mono (by decide) (F_A_lawFault q)) (fun X r X' q => ip_Fr.mono (by decide) (F_M_lawFault q)) h
  exact ⟨r, S1, S2, T_A_lawFault a1, T_M_lawFault a2, a3, a4⟩
theorem c_statute {N L : Nat} {xs : Nat → Int32} {S : ip_St} (h : Inv N L xs S) (p1 : Int32) : ∃ r S1 S2, ip_Me 36 [.ref 0, .int p1] S (some (.int r)) S1 ∧ ip_Me 133 [.ref 30, .int p1] S1 (some (.int r)) S2 ∧ ip_Sc L xs S1 ∧ Inv (N + 1) L xs S2 := by
  obtain ⟨r, S1, S2, a1, a2, a3, a4⟩ := lift2 (ρ := Int32) (A := (fun X => (f_A_statute p1 X).map (fun r => (r, X)))) (B := (fun X => (f_M_statute p1 X).map (fun r => (r, X)))) (N := N) (fun C M hR hB => by
    obtain ⟨r, q1, q2⟩ := op_statute hR p1
    exact ⟨r, C, M, by show (f_A_statute p1 C).map _ = _; rw [q1]; rfl, by show (f_M_statute p1 M).map _ = _; rw [q2]; rfl, hR.up (by omega), hB⟩)
    (fun X r X' q => by cases z : f_A_statute p1 X with | none => rw [z] at q; cases q | some v => rw [z] at q; cases q; exact ip_Fr.rf) (fun X r X' q => by cases z : f_M_statute p1 X with | none => rw [z] at q; cases q | some v => rw [z] at q; cases q; exact ip_Fr.rf) h
  exact ⟨r, S1, S2, (by cases z : f_A_statute p1 S with | none => (have q : (f_A_statute p1 S).map (fun r => (r, S)) = some (r, S1) := a1; rw [z] at q; cases q) | some v => (have q : (f_A_statute p1 S).map (fun r => (r, S)) = some (r, S1) := a1; rw [z] at q; cases q; exact T_A_statute z)), (by cases z : f_M_statute p1 S1 with | none => (have q : (f_M_statute p1 S1).map (fun r => (r, S1)) = some (r, S2) := a2; rw [z] at q; cases q) | some v => (have q : (f_M_statute p1 S1).map (fun r => (r, S1)) = some (r, S2) := a2; rw [z] at q; cases q; exact T_M_statute z)), a3, a4⟩
theorem c_holds {N L : Nat} {xs : Nat → Int32} {S : ip_St} (h : Inv N L xs S) (p1 : Int32) : ∃ r S1 S2, ip_Me 39 [.ref 0, .int p1] S (some (.int r)) S1 ∧ ip_Me 134 [.ref 30, .int p1] S1 (some (.int r)) S2 ∧ ip_Sc L xs S1 ∧ Inv (N + 1) L xs S2 := by
  obtain ⟨r, S1, S2, a1, a2, a3, a4⟩ := lift2 (ρ := Int32) (A := (fun X => some (f_A_holds p1 X, X))) (B := (fun X => some (f_M_holds p1 X, X))) (N := N) (fun C M hR hB => by
    exact ⟨f_A_holds p1 C, C, M, rfl, congrArg some (Prod.ext (op_holds hR p1).symm rfl), hR.up (by omega), hB⟩)
    (fun X r X' q => by cases q; exact ip_Fr.rf) (fun X r X' q => by cases q; exact ip_Fr.rf) h
  exact ⟨r, S1, S2, (by have e := Option.some.inj a1; cases e; exact T_A_holds rfl), (by have e := Option.some.inj a2; cases e; exact T_M_holds rfl), a3, a4⟩
theorem c_judge {N L : Nat} {xs : Nat → Int32} {S : ip_St} (h : Inv N L xs S) (p1 p2 : Int32) : ∃ r S1 S2, ip_Me 67 [.ref 0, .int p1, .int p2] S (some (.int r)) S1 ∧ ip_Me 154 [.ref 30, .int p1, .int p2] S1 (some (.int r)) S2 ∧ ip_Sc L xs S1 ∧ Inv (N + 1) L xs S2 := by
  obtain ⟨r, S1, S2, a1, a2, a3, a4⟩ := lift2 (ρ := Int32) (A := (fun X => f_A_judge p1 p2 X)) (B := (fun X => f_M_judge p1 p2 X)) (N := N) (fun C M hR hB => by
    obtain ⟨r, C', M', q1, q2, q3, -⟩ := op_judge hR p1 p2
    exact ⟨r, C', M', q1, q2, q3.up (by omega), RB_fr (F_A_judge q1) rfl hB⟩)
    (fun X r X' q => ip_Fr.mono (by decide) (F_A_judge q)) (fun X r X' q => ip_Fr.mono (by decide) (F_M_judge q)) h
  exact ⟨r, S1, S2, T_A_judge a1, T_M_judge a2, a3, a4⟩
theorem c_as {N L : Nat} {xs : Nat → Int32} {S : ip_St} (h : Inv N L xs S) (p1 p2 : Int32) : ∃ r S1 S2, ip_Me 69 [.ref 0, .int p1, .int p2] S (some (.int r)) S1 ∧ ip_Me 155 [.ref 30, .int p1, .int p2] S1 (some (.int r)) S2 ∧ ip_Sc L xs S1 ∧ Inv (N + 1) L xs S2 := by
  obtain ⟨r, S1, S2, a1, a2, a3, a4⟩ := lift2 (ρ := Int32) (A := (fun X => (f_A_as p1 p2 X).map (fun r => (r, X)))) (B := (fun X => (f_M_as p1 p2 X).map (fun r => (r, X)))) (N := N) (fun C M hR hB => by
    obtain ⟨r, q1, q2⟩ := op_as hR p1 p2
    exact ⟨r, C, M, by show (f_A_as p1 p2 C).map _ = _; rw [q1]; rfl, by show (f_M_as p1 p2 M).map _ = _; rw [q2]; rfl, hR.up (by omega), hB⟩)
    (fun X r X' q => by cases z : f_A_as p1 p2 X with | none => rw [z] at q; cases q | some v => rw [z] at q; cases q; exact ip_Fr.rf) (fun X r X' q => by cases z : f_M_as p1 p2 X with | none => rw [z] at q; cases q | some v => rw [z] at q; cases q; exact ip_Fr.rf) h
  exact ⟨r, S1, S2, (by cases z : f_A_as p1 p2 S with | none => (have q : (f_A_as p1 p2 S).map (fun r => (r, S)) = some (r, S1) := a1; rw [z] at q; cases q) | some v => (have q : (f_A_as p1 p2 S).map (fun r => (r, S)) = some (r, S1) := a1; rw [z] at q; cases q; exact T_A_as z)), (by cases z : f_M_as p1 p2 S1 with | none => (have q : (f_M_as p1 p2 S1).map (fun r => (r, S1)) = some (r, S2) := a2; rw [z] at q; cases q) | some v => (have q : (f_M_as p1 p2 S1).map (fun r => (r, S1)) = some (r, S2) := a2; rw [z] at q; cases q; exact T_M_as z)), a3, a4⟩
theorem c_ways {N L : Nat} {xs : Nat → Int32} {S : ip_St} (h : Inv N L xs S) (p1 : Int32) : ∃ r S1 S2, ip_Me 70 [.ref 0, .int p1] S (some (.long r)) S1 ∧ ip_Me 156 [.ref 30, .int p1] S1 (some (.long r)) S2 ∧ ip_Sc L xs S1 ∧ Inv (N + 1) L xs S2 := by
  obtain ⟨r, S1, S2, a1, a2, a3, a4⟩ := lift2 (ρ := Int64) (A := (fun X => (f_A_ways p1 X).map (fun r => (r, X)))) (B := (fun X => (f_M_ways p1 X).map (fun r => (r, X)))) (N := N) (fun C M hR hB => by
    obtain ⟨r, q1, q2⟩ := op_ways hR p1
    exact ⟨r, C, M, by show (f_A_ways p1 C).map _ = _; rw [q1]; rfl, by show (f_M_ways p1 M).map _ = _; rw [q2]; rfl, hR.up (by omega), hB⟩)
    (fun X r X' q => by cases z : f_A_ways p1 X with | none => rw [z] at q; cases q | some v => rw [z] at q; cases q; exact ip_Fr.rf) (fun X r X' q => by cases z : f_M_ways p1 X with | none => rw [z] at q; cases q | some v => rw [z] at q; cases q; exact ip_Fr.rf) h
  exact ⟨r, S1, S2, (by cases z : f_A_ways p1 S with | none => (have q : (f_A_ways p1 S).map (fun r => (r, S)) = some (r, S1) := a1; rw [z] at q; cases q) | some v => (have q : (f_A_ways p1 S).map (fun r => (r, S)) = some (r, S1) := a1; rw [z] at q; cases q; exact T_A_ways z)), (by cases z : f_M_ways p1 S1 with | none => (have q : (f_M_ways p1 S1).map (fun r => (r, S1)) = some (r, S2) := a2; rw [z] at q; cases q) | some v => (have q : (f_M_ways p1 S1).map (fun r => (r, S1)) = some (r, S2) := a2; rw [z] at q; cases q; exact T_M_ways z)), a3, a4⟩
theorem c_says {N L : Nat} {xs : Nat → Int32} {S : ip_St} (h : Inv N L xs S) (p1 p2 : Int32) : ∃ r S1 S2, ip_Me 71 [.ref 0, .int p1, .int p2] S (some (.int r)) S1 ∧ ip_Me 157 [.ref 30, .int p1, .int p2] S1 (some (.int r)) S2 ∧ ip_Sc L xs S1 ∧ Inv (N + 1) L xs S2 := by
  obtain ⟨r, S1, S2, a1, a2, a3, a4⟩ := lift2 (ρ := Int32) (A := (fun X => (f_A_says p1 p2 X).map (fun r => (r, X)))) (B := (fun X => (f_M_says p1 p2 X).map (fun r => (r, X)))) (N := N) (fun C M hR hB => by
    obtain ⟨r, q1, q2⟩ := op_says hR p1 p2
    exact ⟨r, C, M, by show (f_A_says p1 p2 C).map _ = _; rw [q1]; rfl, by show (f_M_says p1 p2 M).map _ = _; rw [q2]; rfl, hR.up (by omega), hB⟩)
    (fun X r X' q => by cases z : f_A_says p1 p2 X with | none => rw [z] at q; cases q | some v => rw [z] at q; cases q; exact ip_Fr.rf) (fun X r X' q => by cases z : f_M_says p1 p2 X with | none => rw [z] at q; cases q | some v => rw [z] at q; cases q; exact ip_Fr.rf) h
  exact ⟨r, S1, S2, (by cases z : f_A_says p1 p2 S with | none => (have q : (f_A_says p1 p2 S).map (fun r => (r, S)) = some (r, S1) := a1; rw [z] at q; cases q) | some v => (have q : (f_A_says p1 p2 S).map (fun r => (r, S)) = some (r, S1) := a1; rw [z] at q; cases q; exact T_A_says z)), (by cases z : f_M_says p1 p2 S1 with | none => (have q : (f_M_says p1 p2 S1).map (fun r => (r, S1)) = some (r, S2) := a2; rw [z] at q; cases q) | some v => (have q : (f_M_says p1 p2 S1).map (fun r => (r, S1)) = some (r, S2) := a2; rw [z] at q; cases q; exact T_M_says z)), a3, a4⟩
theorem c_odds {N L : Nat} {xs : Nat → Int32} {S : ip_St} (h : Inv N L xs S) (p1 p2 : Int32) : ∃ r S1 S2, ip_Me 73 [.ref 0, .int p1, .int p2] S (some (.int r)) S1 ∧ ip_Me 160 [.ref 30, .int p1, .int p2] S1 (some (.int r)) S2 ∧ ip_Sc L xs S1 ∧ Inv (N + 1) L xs S2 := by
  obtain ⟨r, S1, S2, a1, a2, a3, a4⟩ := lift2 (ρ := Int32) (A := (fun X => (f_A_odds p1 p2 X).map (fun r => (r, X)))) (B := (fun X => (f_M_odds p1 p2 X).map (fun r => (r, X)))) (N := N) (fun C M hR hB => by
    obtain ⟨r, q1, q2⟩ := op_odds hR p1 p2
    exact ⟨r, C, M, by show (f_A_odds p1 p2 C).map _ = _; rw [q1]; rfl, by show (f_M_odds p1 p2 M).map _ = _; rw [q2]; rfl, hR.up (by omega), hB⟩)
    (fun X r X' q => by cases z : f_A_odds p1 p2 X with | none => rw [z] at q; cases q | some v => rw [z] at q; cases q; exact ip_Fr.rf) (fun X r X' q => by cases z : f_M_odds p1 p2 X with | none => rw [z] at q; cases q | some v => rw [z] at q; cases q; exact ip_Fr.rf) h
  exact ⟨r, S1, S2, (by cases z : f_A_odds p1 p2 S with | none => (have q : (f_A_odds p1 p2 S).map (fun r => (r, S)) = some (r, S1) := a1; rw [z] at q; cases q) | some v => (have q : (f_A_odds p1 p2 S).map (fun r => (r, S)) = some (r, S1) := a1; rw [z] at q; cases q; exact T_A_odds z)), (by cases z : f_M_odds p1 p2 S1 with | none => (have q : (f_M_odds p1 p2 S1).map (fun r => (r, S1)) = some (r, S2) := a2; rw [z] at q; cases q) | some v => (have q : (f_M_odds p1 p2 S1).map (fun r => (r, S1)) = some (r, S2) := a2; rw [z] at q; cases q; exact T_M_odds z)), a3, a4⟩
theorem c_ask {N L : Nat} {xs : Nat → Int32} {S : ip_St} (h : Inv N L xs S) (p1 p2 p3 : Int32) : ∃ r S1 S2, ip_Me 76 [.ref 0, .int p1, .int p2, .int p3] S (some (.int r)) S1 ∧ ip_Me 163 [.ref 30, .int p1, .int p2, .int p3] S1 (some (.int r)) S2 ∧ ip_Sc L xs S1 ∧ Inv (N + 1) L xs S2 := by
  obtain ⟨r, S1, S2, a1, a2, a3, a4⟩ := lift2 (ρ := Int32) (A := (fun X => f_A_ask p1 p2 p3 X)) (B := (fun X => f_M_ask p1 p2 p3 X)) (N := N) (fun C M hR hB => by
    obtain ⟨r, C', M', q1, q2, q3⟩ := op_ask hR p1 p2 p3
    exact ⟨r, C', M', q1, q2, q3.up (by omega), RB_ask q1 hB⟩)
    (fun X r X' q => ip_Fr.mono (by decide) (F_A_ask q)) (fun X r X' q => ip_Fr.mono (by decide) (F_M_ask q)) h
  exact ⟨r, S1, S2, T_A_ask a1, T_M_ask a2, a3, a4⟩
theorem c_learn {N L : Nat} {xs : Nat → Int32} {S : ip_St} (h : Inv N L xs S) (p1 p2 p3 : Int32) : ∃ r S1 S2, ip_Me 77 [.ref 0, .int p1, .int p2, .int p3] S (some (.int r)) S1 ∧ ip_Me 164 [.ref 30, .int p1, .int p2, .int p3] S1 (some (.int r)) S2 ∧ ip_Sc L xs S1 ∧ Inv (N + 1) L xs S2 := by
  obtain ⟨r, S1, S2, a1, a2, a3, a4⟩ := lift2 (ρ := Int32) (A := (fun X => f_A_learn p1 p2 p3 X)) (B := (fun X => f_M_learn p1 p2 p3 X)) (N := N) (fun C M hR hB => by
    obtain ⟨r, C', M', q1, q2, q3⟩ := op_learn hR p1 p2 p3
    exact ⟨r, C', M', q1, q2, q3.up (by omega), RB_learn q1 hB⟩)
    (fun X r X' q => ip_Fr.mono (by decide) (F_A_learn q)) (fun X r X' q => ip_Fr.mono (by decide) (F_M_learn q)) h
  exact ⟨r, S1, S2, T_A_learn a1, T_M_learn a2, a3, a4⟩
theorem c_adjourn {N L : Nat} {xs : Nat → Int32} {S : ip_St} (h : Inv N L xs S) (p1 : Int32) : ∃ r S1 S2, ip_Me 78 [.ref 0, .int p1] S (some (.int r)) S1 ∧ ip_Me 165 [.ref 30, .int p1] S1 (some (.int r)) S2 ∧ ip_Sc L xs S1 ∧ Inv (N + 1) L xs S2 := by
  obtain ⟨r, S1, S2, a1, a2, a3, a4⟩ := lift2 (ρ := Int32) (A := (fun X => f_A_adjourn p1 X)) (B := (fun X => f_M_adjourn p1 X)) (N := N) (fun C M hR hB => by
    obtain ⟨r, C', M', q1, q2, q3⟩ := op_adjourn hR p1
    exact ⟨r, C', M', q1, q2, q3.up (by omega), RB_adjourn q1 hB⟩)
    (fun X r X' q => ip_Fr.mono (by decide) (F_A_adjourn q)) (fun X r X' q => ip_Fr.mono (by decide) (F_M_adjourn q)) h
  exact ⟨r, S1, S2, T_A_adjourn a1, T_M_adjourn a2, a3, a4⟩
theorem c_find {N L : Nat} {xs : Nat → Int32} {S : ip_St} (h : Inv N L xs S) (p1 p2 p3 : Int32) : ∃ r S1 S2, ip_Me 80 [.ref 0, .int p1, .int p2, .int p3] S (some (.int r)) S1 ∧ ip_Me 169 [.ref 30, .int p1, .int p2, .int p3] S1 (some (.int r)) S2 ∧ ip_Sc L xs S1 ∧ Inv (N + 1) L xs S2 := by
  obtain ⟨r, S1, S2, a1, a2, a3, a4⟩ := lift2 (ρ := Int32) (A := (fun X => (f_A_find p1 p2 p3 X).map (fun r => (r, X)))) (B := (fun X => (f_M_find p1 p2 p3 X).map (fun r => (r, X)))) (N := N) (fun C M hR hB => by
    obtain ⟨r, q1, q2⟩ := op_find hR p1 p2 p3
    exact ⟨r, C, M, by show (f_A_find p1 p2 p3 C).map _ = _; rw [q1]; rfl, by show (f_M_find p1 p2 p3 M).map _ = _; rw [q2]; rfl, hR.up (by omega), hB⟩)
    (fun X r X' q => by cases z : f_A_find p1 p2 p3 X with | none => rw [z] at q; cases q | some v => rw [z] at q; cases q; exact ip_Fr.rf) (fun X r X' q => by cases z : f_M_find p1 p2 p3 X with | none => rw [z] at q; cases q | some v => rw [z] at q; cases q; exact ip_Fr.rf) h
  exact ⟨r, S1, S2, (by cases z : f_A_find p1 p2 p3 S with | none => (have q : (f_A_find p1 p2 p3 S).map (fun r => (r, S)) = some (r, S1) := a1; rw [z] at q; cases q) | some v => (have q : (f_A_find p1 p2 p3 S).map (fun r => (r, S)) = some (r, S1) := a1; rw [z] at q; cases q; exact T_A_find z)), (by cases z : f_M_find p1 p2 p3 S1 with | none => (have q : (f_M_find p1 p2 p3 S1).map (fun r => (r, S1)) = some (r, S2) := a2; rw [z] at q; cases q) | some v => (have q : (f_M_find p1 p2 p3 S1).map (fun r => (r, S1)) = some (r, S2) := a2; rw [z] at q; cases q; exact T_M_find z)), a3, a4⟩
theorem c_bench {N L : Nat} {xs : Nat → Int32} {S : ip_St} (h : Inv N L xs S) : ∃ r S1 S2, ip_Me 81 [.ref 0] S (some (.int r)) S1 ∧ ip_Me 171 [.ref 30] S1 (some (.int r)) S2 ∧ ip_Sc L xs S1 ∧ Inv (N + 1) L xs S2 := by
  obtain ⟨r, S1, S2, a1, a2, a3, a4⟩ := lift2 (ρ := Int32) (A := (fun X => (f_A_bench X).map (fun r => (r, X)))) (B := (fun X => f_M_bench X)) (N := N) (fun C M hR hB => by
    obtain ⟨r, q1, q2⟩ := bench_eq hR
    exact ⟨r, C, M, by show (f_A_bench C).map _ = _; rw [q1]; rfl, q2, hR.up (by omega), hB⟩)
    (fun X r X' q => by cases z : f_A_bench X with | none => rw [z] at q; cases q | some v => rw [z] at q; cases q; exact ip_Fr.rf) (fun X r X' q => ip_Fr.mono (by decide) (F_M_bench q)) h
  exact ⟨r, S1, S2, (by cases z : f_A_bench S with | none => (have q : (f_A_bench S).map (fun r => (r, S)) = some (r, S1) := a1; rw [z] at q; cases q) | some v => (have q : (f_A_bench S).map (fun r => (r, S)) = some (r, S1) := a1; rw [z] at q; cases q; exact T_A_bench z)), T_M_bench a2, a3, a4⟩
theorem c_see {N L : Nat} {xs : Nat → Int32} {S : ip_St} (h : Inv N L xs S) (p1 p2 p3 p4 : Int32) : ∃ r S1 S2, ip_Me 83 [.ref 0, .int p1, .int p2, .int p3, .int p4] S (some (.int r)) S1 ∧ ip_Me 172 [.ref 30, .int p1, .int p2, .int p3, .int p4] S1 (some (.int r)) S2 ∧ ip_Sc L xs S1 ∧ Inv (N + 1) L xs S2 := by
  obtain ⟨r, S1, S2, a1, a2, a3, a4⟩ := lift2 (ρ := Int32) (A := (fun X => f_A_see p1 p2 p3 p4 X)) (B := (fun X => f_M_see p1 p2 p3 p4 X)) (N := N) (fun C M hR hB => by
    obtain ⟨r, C', M', q1, q2, q3⟩ := op_see hR p1 p2 p3 p4
    exact ⟨r, C', M', q1, q2, q3.up (by omega), RB_fr (F_A_see q1) rfl hB⟩)
    (fun X r X' q => ip_Fr.mono (by decide) (F_A_see q)) (fun X r X' q => ip_Fr.mono (by decide) (F_M_see q)) h
  exact ⟨r, S1, S2, T_A_see a1, T_M_see a2, a3, a4⟩
theorem c_forget {N L : Nat} {xs : Nat → Int32} {S : ip_St} (h : Inv N L xs S) : ∃ r S1 S2, ip_Me 84 [.ref 0] S (some (.int r)) S1 ∧ ip_Me 173 [.ref 30] S1 (some (.int r)) S2 ∧ ip_Sc L xs S1 ∧ Inv (N + 1) L xs S2 := by
  obtain ⟨r, S1, S2, a1, a2, a3, a4⟩ := lift2 (ρ := Int32) (A := (fun X => some (f_A_forget X))) (B := (fun X => some (f_M_forget X))) (N := N) (fun C M hR hB => by
    obtain ⟨q1, q2⟩ := op_forget hR
    exact ⟨(f_A_forget C).1, (f_A_forget C).2, (f_M_forget M).2, rfl, congrArg some (Prod.ext q1.symm rfl), q2.up (by omega), RB_fr F_A_forget rfl hB⟩)
    (fun X r X' q => by have e : f_A_forget X = (r, X') := Option.some.inj q; have f := F_A_forget (S := X); rw [e] at f; exact ip_Fr.mono (by decide) f) (fun X r X' q => by have e : f_M_forget X = (r, X') := Option.some.inj q; have f := F_M_forget (S := X); rw [e] at f; exact ip_Fr.mono (by decide) f) h
  exact ⟨r, S1, S2, T_A_forget (Option.some.inj a1), T_M_forget (Option.some.inj a2), a3, a4⟩
theorem c_assizes {N L : Nat} {xs : Nat → Int32} {S : ip_St} (h : Inv N L xs S) (p1 p2 p3 : Int32) : ∃ r S1 S2, ip_Me 87 [.ref 0, .int p1, .int p2, .int p3] S (some (.int r)) S1 ∧ ip_Me 175 [.ref 30, .int p1, .int p2, .int p3] S1 (some (.int r)) S2 ∧ ip_Sc L xs S1 ∧ Inv (N + 1) L xs S2 := by
  obtain ⟨r, S1, S2, a1, a2, a3, a4⟩ := lift2 (ρ := Int32) (A := (fun X => (f_A_assizes p1 p2 p3 X).map (fun r => (r, X)))) (B := (fun X => f_M_assizes p1 p2 p3 X)) (N := N) (fun C M hR hB => by
    obtain ⟨r, M', q1, q2, q3⟩ := op_assizes hR p1 p2 p3
    exact ⟨r, C, M', by show (f_A_assizes p1 p2 p3 C).map _ = _; rw [q1]; rfl, q2, q3.up (by omega), hB⟩)
    (fun X r X' q => by cases z : f_A_assizes p1 p2 p3 X with | none => rw [z] at q; cases q | some v => rw [z] at q; cases q; exact ip_Fr.rf) (fun X r X' q => ip_Fr.mono (by decide) (F_M_assizes q)) h
  exact ⟨r, S1, S2, (by cases z : f_A_assizes p1 p2 p3 S with | none => (have q : (f_A_assizes p1 p2 p3 S).map (fun r => (r, S)) = some (r, S1) := a1; rw [z] at q; cases q) | some v => (have q : (f_A_assizes p1 p2 p3 S).map (fun r => (r, S)) = some (r, S1) := a1; rw [z] at q; cases q; exact T_A_assizes z)), T_M_assizes a2, a3, a4⟩
theorem c_image {N L : Nat} {xs : Nat → Int32} {S : ip_St} (h : Inv N L xs S) : ∃ r S1 S2, ip_Me 90 [.ref 0] S (some (.int r)) S1 ∧ ip_Me 177 [.ref 30] S1 (some (.int r)) S2 ∧ ip_Sc L xs S1 ∧ Inv (N + 1) L xs S2 := by
  obtain ⟨r, S1, S2, a1, a2, a3, a4⟩ := lift2 (ρ := Int32) (A := (fun X => f_A_image X)) (B := (fun X => f_M_image X)) (N := N) (fun C M hR hB => by
    obtain ⟨r, C', M', q1, q2, q3, q4⟩ := op_image hR hB
    exact ⟨r, C', M', q1, q2, q3.up (by omega), q4⟩)
    (fun X r X' q => ip_Fr.mono (by decide) (F_A_image q)) (fun X r X' q => ip_Fr.mono (by decide) (F_M_image q)) h
  exact ⟨r, S1, S2, T_A_image a1, T_M_image a2, a3, a4⟩
theorem c_restore {N L : Nat} {xs : Nat → Int32} {S : ip_St} (hN : N < 2 ^ 31) (h : Inv N L xs S) : ∃ r S1 S2, ip_Me 91 [.ref 0] S (some (.int r)) S1 ∧ ip_Me 178 [.ref 30] S1 (some (.int r)) S2 ∧ ip_Sc L xs S1 ∧ Inv (N + 1) L xs S2 := by
  obtain ⟨r, S1, S2, a1, a2, a3, a4⟩ := lift2 (ρ := Int32) (A := (fun X => f_A_restore X)) (B := (fun X => f_M_restore X)) (N := N) (fun C M hR hB => by
    obtain ⟨r, C', M', q1, q2, q3, q4⟩ := op_restore hN hR hB
    exact ⟨r, C', M', q1, q2, q3.up (by omega), q4⟩)
    (fun X r X' q => ip_Fr.mono (by decide) (F_A_restore q)) (fun X r X' q => ip_Fr.mono (by decide) (F_M_restore q)) h
  exact ⟨r, S1, S2, T_A_restore a1, T_M_restore a2, a3, a4⟩
theorem c_count {N L : Nat} {xs : Nat → Int32} {S : ip_St} (h : Inv N L xs S) (p1 : Int32) : ∃ r S1 S2, ip_Me 96 [.ref 0, .int p1] S (some (.int r)) S1 ∧ ip_Me 185 [.ref 30, .int p1] S1 (some (.int r)) S2 ∧ ip_Sc L xs S1 ∧ Inv (N + 1) L xs S2 := by
  obtain ⟨r, S1, S2, a1, a2, a3, a4⟩ := lift2 (ρ := Int32) (A := (fun X => (f_A_count p1 X).map (fun r => (r, X)))) (B := (fun X => (f_M_count p1 X).map (fun r => (r, X)))) (N := N) (fun C M hR hB => by
    obtain ⟨r, q1, q2⟩ := op_count hR p1
    exact ⟨r, C, M, by show (f_A_count p1 C).map _ = _; rw [q1]; rfl, by show (f_M_count p1 M).map _ = _; rw [q2]; rfl, hR.up (by omega), hB⟩)
    (fun X r X' q => by cases z : f_A_count p1 X with | none => rw [z] at q; cases q | some v => rw [z] at q; cases q; exact ip_Fr.rf) (fun X r X' q => by cases z : f_M_count p1 X with | none => rw [z] at q; cases q | some v => rw [z] at q; cases q; exact ip_Fr.rf) h
  exact ⟨r, S1, S2, (by cases z : f_A_count p1 S with | none => (have q : (f_A_count p1 S).map (fun r => (r, S)) = some (r, S1) := a1; rw [z] at q; cases q) | some v => (have q : (f_A_count p1 S).map (fun r => (r, S)) = some (r, S1) := a1; rw [z] at q; cases q; exact T_A_count z)), (by cases z : f_M_count p1 S1 with | none => (have q : (f_M_count p1 S1).map (fun r => (r, S1)) = some (r, S2) := a2; rw [z] at q; cases q) | some v => (have q : (f_M_count p1 S1).map (fun r => (r, S1)) = some (r, S2) := a2; rw [z] at q; cases q; exact T_M_count z)), a3, a4⟩
theorem c_digest {N L : Nat} {xs : Nat → Int32} {S : ip_St} (h : Inv N L xs S) : ∃ r S1 S2, ip_Me 98 [.ref 0] S (some (.long r)) S1 ∧ ip_Me 188 [.ref 30] S1 (some (.long r)) S2 ∧ ip_Sc L xs S1 ∧ Inv (N + 1) L xs S2 := by
  obtain ⟨r, S1, S2, a1, a2, a3, a4⟩ := lift2 (ρ := Int64) (A := (fun X => f_A_digest X)) (B := (fun X => f_M_digest X)) (N := N) (fun C M hR hB => by
    obtain ⟨r, C', M', q1, q2, q3⟩ := op_digest hR
    exact ⟨r, C', M', q1, q2, q3.up (by omega), RB_fr (F_A_digest q1) rfl hB⟩)
    (fun X r X' q => ip_Fr.mono (by decide) (F_A_digest q)) (fun X r X' q => ip_Fr.mono (by decide) (F_M_digest q)) h
  exact ⟨r, S1, S2, T_A_digest a1, T_M_digest a2, a3, a4⟩
