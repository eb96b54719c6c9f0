/-! ===== the relation between the class's cells (of C) and the reference's (of M) ===== -/
def inR (x lo hi : Int32) : Bool := decide (lo ≤ x) && decide (x ≤ hi)
def ctR (t : Nat → Int32) (lo hi : Int32) (m : Nat) : Nat := ct (fun k => inR (t k) lo hi) m
/-- how deep a text is: now, at most -/
def dpp (t : Nat → Int32) : Nat → Int32 × Int32
  | 0 => (0, 0)
  | k + 1 =>
    let now := (dpp t k).1 + (if t k = 40 then 1 else if t k = 91 then 1 else if t k = 41 then -1 else if t k = 93 then -1 else 0)
    (now, if (dpp t k).2 < now then now else (dpp t k).2)
def LawF (t : Nat → Int32) (m : Nat) (h : Int64) (a b c d : Int32) : Prop := a = nI (ctR t 97 102 m) ∧ b = nI (ctR t 33 33 m) ∧ c = nI (ctR t 49 51 m) ∧ d = (dpp t m).2 ∧
  ∀ f, f < 6 → ∀ M : ip_St, RT M → (∀ k, k < m → M.1 41 k = t k) → ∃ M', f_M_lawRow (nI m) (nI f) M = some (pin h f false, M')
def RLaw (C M : ip_St) (L T lm ln : Nat) : Prop := ∃ m, m ≤ 56 ∧ M.1 30 lm = nI m ∧ C.2 L 0 = M.2 30 ln ∧ LawF (M.1 T) m (C.2 L 0) (C.1 L 1) (C.1 L 2) (C.1 L 3) (C.1 L 4)
def RSn1 (C M : ip_St) (sn sg i : Nat) : Prop := ∃ j f is sd, j < 3 ∧ f < 6 ∧ is < 2 ∧ sd < 2 ∧ C.1 sn i = nI ((j * 6 + f) * 4 + is * 2 + sd) ∧ M.1 sg (4 * i) = nI j ∧ M.1 sg (4 * i + 1) = nI f ∧ M.1 sg (4 * i + 2) = nI is ∧ M.1 sg (4 * i + 3) = nI sd
def RSeen (C M : ip_St) (b sn sg sc : Nat) : Prop := ∃ s, s ≤ 8 ∧ C.1 b 6 = nI s ∧ M.1 30 sc = nI s ∧ ∀ i, i < s → RSn1 C M sn sg i
def RJs (C M : ip_St) (J B r kn hd : Nat) : Prop := ∀ j, j < J → ∃ d : JD, jok d ∧ ¬ wy d = 0 ∧ jC C (B + j) d ∧ jM M r kn hd j d
def RDk (C M : ip_St) (J b r kn hd sg T lm ln qs am sc : Nat) : Prop := C.1 b 1 = nI J ∧ C.1 b 3 = M.1 30 am ∧ C.1 b 4 = M.1 30 qs ∧ RJs C M J (b + 2) r kn hd ∧ (0 < J → RLaw C M (b + 5) T lm ln) ∧ RSeen C M b (b + 6) sg sc
abbrev RNow (C M : ip_St) (J : Nat) : Prop := RDk C M J 12 42 43 44 49 41 16 17 19 20 29
abbrev RKep (C M : ip_St) (J : Nat) : Prop := RDk C M J 19 51 52 53 54 50 36 37 33 34 35
def RPg (C M : ip_St) : Prop := ∃ n, n ≤ 56 ∧ C.1 0 1 = nI n ∧ M.1 30 2 = nI n ∧ ∀ k, k < n → C.1 1 k = M.1 32 k
def RIm (C M : ip_St) (J cr : Nat) : Prop := (C.1 0 6 = 1 ∧ 0 < J ∧ M.1 30 32 = nI cr ∧ RKep C M J) ∨ (C.1 0 6 = 0 ∧ (M.1 30 32 = -1 ∨ ∃ kc, kc < cr ∧ M.1 30 32 = nI kc))
-- by how few questions: the least number, over the facts R (as bits), from the worlds W
def opn (W F : Int64) : Bool := decide (¬ W &&& F = 0) && decide (¬ W &&& (F ^^^ (-1)) = 0)
def sr (k f : Nat) (b : Bool) : Int64 := f_M_keptIf (srow k f) (b2 b)
def anyF (p : Nat → Bool) : Nat → Bool
  | 0 => false
  | n + 1 => anyF p n || p n
/-- within n questions it is no more open -/
def QL (k : Nat) (F : Int64) : Nat → Int64 → Bool
  | 0, W => !(opn W F)
  | n + 1, W => !(opn W F) || anyF (fun f => QL k F n (W &&& sr k f false) && QL k F n (W &&& sr k f true)) 6
def fstF (p : Nat → Bool) : Nat → Int32
  | 0 => -1
  | n + 1 => if fstF p n = -1 then (if p n = true then nI n else -1) else fstF p n
def lfN (k : Nat) (W F : Int64) : Nat := ct (fun n => !(QL k F n W)) 6
def lfF (k : Nat) (W F : Int64) : Int32 := if opn W F = true then fstF (fun f => QL k F (lfN k W F - 1) (W &&& sr k f false) && QL k F (lfN k W F - 1) (W &&& sr k f true)) 6 else -1
def RX (C : ip_St) : Prop := C.2 26 3 = 0 ∨ ∃ k, k < 5 ∧ C.1 26 2 = nI k ∧ C.1 26 0 = nI (lfN k (C.2 26 3) (C.2 26 4)) ∧ C.1 26 1 = lfF k (C.2 26 3) (C.2 26 4)
def Rel2 (N : Nat) (C M : ip_St) : Prop := RT M ∧ RPg C M ∧ RX C ∧ ∃ J cr, J ≤ 3 ∧ M.1 30 18 = nI J ∧ RNow C M J ∧ cr ≤ N ∧ C.1 0 7 = nI cr ∧ M.1 30 21 = nI cr ∧ RIm C M J cr
theorem Rel2.up {N N' : Nat} {C M : ip_St} (h : Rel2 N C M) (hn : N ≤ N') : Rel2 N' C M := by
  obtain ⟨a, b, x, J, cr, c1, c2, c3, c4, c5⟩ := h
  exact ⟨a, b, x, J, cr, c1, c2, c3, Nat.le_trans c4 hn, c5⟩
-- what neither side's relation reads
def wScrM : List (Nat × Nat) := [(30, 4), (30, 5), (30, 6), (30, 14), (30, 31), (30, 43), (33, 99), (34, 99), (35, 99), (36, 99), (37, 99), (38, 99), (39, 99), (40, 99), (45, 99), (46, 99), (47, 99), (48, 99)]
def wScrC : List (Nat × Nat) := [(0, 3), (2, 9), (2, 10), (2, 11), (2, 12), (3, 0), (3, 1), (3, 2), (3, 3), (3, 4), (4, 99), (5, 99), (6, 99), (7, 99), (8, 99), (9, 99), (10, 99), (11, 99)]
theorem Rel2.scrM {N : Nat} {C M M' : ip_St} (h : Rel2 N C M) (hf : ip_Fr wScrM M M') : Rel2 N C M' := by
  have e41 : M'.1 41 = M.1 41 := funext fun k => (hf 41 k rfl).1
  have e42 : M'.1 42 = M.1 42 := funext fun k => (hf 42 k rfl).1
  have e43 : M'.1 43 = M.1 43 := funext fun k => (hf 43 k rfl).1
  have e44 : M'.1 44 = M.1 44 := funext fun k => (hf 44 k rfl).1
  have e49 : M'.1 49 = M.1 49 := funext fun k => (hf 49 k rfl).1
  have e50 : M'.1 50 = M.1 50 := funext fun k => (hf 50 k rfl).1
  have e51 : M'.1 51 = M.1 51 := funext fun k => (hf 51 k rfl).1
  have e52 : M'.1 52 = M.1 52 := funext fun k => (hf 52 k rfl).1
  have e53 : M'.1 53 = M.1 53 := funext fun k => (hf 53 k rfl).1
  have e54 : M'.1 54 = M.1 54 := funext fun k => (hf 54 k rfl).1
  have e32 : M'.1 32 = M.1 32 := funext fun k => (hf 32 k rfl).1
  have e31 : M'.2 31 = M.2 31 := funext fun k => (hf 31 k rfl).2
  have g2 := (hf 30 2 rfl).1
  have g16 := (hf 30 16 rfl).1
  have g17 := (hf 30 17 rfl).2
  have g18 := (hf 30 18 rfl).1
  have g19 := (hf 30 19 rfl).1
  have g20 := (hf 30 20 rfl).1
  have g21 := (hf 30 21 rfl).1
  have g29 := (hf 30 29 rfl).1
  have g32 := (hf 30 32 rfl).1
  have g33 := (hf 30 33 rfl).1
  have g34 := (hf 30 34 rfl).1
  have g35 := (hf 30 35 rfl).1
  have g36 := (hf 30 36 rfl).1
  have g37 := (hf 30 37 rfl).2
  unfold Rel2 RT RPg RIm RNow RKep RDk RJs RSeen RSn1 RLaw jM at h ⊢
  rw [e31, e32, e41, e42, e43, e44, e49, e50, e51, e52, e53, e54, g2, g16, g17, g18, g19, g20, g21, g29, g32, g33, g34, g35, g36, g37]
  exact h
theorem Rel2.scrC {N : Nat} {C C' M : ip_St} (h : Rel2 N C M) (hf : ip_Fr wScrC C C') : Rel2 N C' M := by
  have a1 : C'.1 1 = C.1 1 := funext fun k => (hf 1 k rfl).1
  have a12 : C'.1 12 = C.1 12 := funext fun k => (hf 12 k rfl).1
  have a14 : C'.1 14 = C.1 14 := funext fun k => (hf 14 k rfl).1
  have a15 : C'.1 15 = C.1 15 := funext fun k => (hf 15 k rfl).1
  have a16 : C'.1 16 = C.1 16 := funext fun k => (hf 16 k rfl).1
  have a17 : C'.1 17 = C.1 17 := funext fun k => (hf 17 k rfl).1
  have b17 : C'.2 17 = C.2 17 := funext fun k => (hf 17 k rfl).2
  have a18 : C'.1 18 = C.1 18 := funext fun k => (hf 18 k rfl).1
  have a19 : C'.1 19 = C.1 19 := funext fun k => (hf 19 k rfl).1
  have a21 : C'.1 21 = C.1 21 := funext fun k => (hf 21 k rfl).1
  have a22 : C'.1 22 = C.1 22 := funext fun k => (hf 22 k rfl).1
  have a23 : C'.1 23 = C.1 23 := funext fun k => (hf 23 k rfl).1
  have a24 : C'.1 24 = C.1 24 := funext fun k => (hf 24 k rfl).1
  have b24 : C'.2 24 = C.2 24 := funext fun k => (hf 24 k rfl).2
  have a25 : C'.1 25 = C.1 25 := funext fun k => (hf 25 k rfl).1
  have a26 : C'.1 26 = C.1 26 := funext fun k => (hf 26 k rfl).1
  have b26 : C'.2 26 = C.2 26 := funext fun k => (hf 26 k rfl).2
  have g1 := (hf 0 1 rfl).1
  have g6 := (hf 0 6 rfl).1
  have g7 := (hf 0 7 rfl).1
  have jj : ∀ B, B = 14 ∨ B = 21 → ∀ J, J ≤ 3 → ∀ r kn hd, RJs C M J B r kn hd → RJs C' M J B r kn hd := by
    intro B hB J hJ r kn hd hh j hj
    obtain ⟨d, d1, d2, d3, d4⟩ := hh j hj
    refine ⟨d, d1, d2, ?_, d4⟩
    have : C'.1 (B + j) = C.1 (B + j) := by
      rcases hB with rfl | rfl
      · rcases (show j = 0 ∨ j = 1 ∨ j = 2 by omega) with rfl | rfl | rfl
        · exact a14
        · exact a15
        · exact a16
      · rcases (show j = 0 ∨ j = 1 ∨ j = 2 by omega) with rfl | rfl | rfl
        · exact a21
        · exact a22
        · exact a23
    unfold jC at d3 ⊢
    rw [this]
    exact d3
  obtain ⟨hT, hPg, hX, J, cr, c1, c2, c3, c4, c5, c6, c7⟩ := h
  refine ⟨hT, ?_, ?_, J, cr, c1, c2, ?_, c4, by rw [g7]; exact c5, c6, ?_⟩
  · unfold RPg at hPg ⊢
    rw [a1, g1]
    exact hPg
  · unfold RX at hX ⊢
    rw [a26, b26]
    exact hX
  · obtain ⟨x1, x2, x3, x4, x5, x6⟩ := c3
    refine ⟨by rw [a12]; exact x1, by rw [a12]; exact x2, by rw [a12]; exact x3, jj 14 (Or.inl rfl) J c1 _ _ _ x4, fun hJ => ?_, ?_⟩
    · have := x5 hJ
      unfold RLaw at this ⊢
      rw [show 12 + 5 = 17 from rfl] at this ⊢
      rw [a17, b17]
      exact this
    · unfold RSeen RSn1 at x6 ⊢
      rw [show 12 + 6 = 18 from rfl] at x6 ⊢
      rw [a12, a18]
      exact x6
  · unfold RIm at c7 ⊢
    rw [g6]
    rcases c7 with ⟨y1, y2, y3, x1, x2, x3, x4, x5, x6⟩ | c7
    · refine Or.inl ⟨y1, y2, y3, by rw [a19]; exact x1, by rw [a19]; exact x2, by rw [a19]; exact x3, jj 21 (Or.inr rfl) J c1 _ _ _ x4, fun hJ => ?_, ?_⟩
      · have := x5 hJ
        unfold RLaw at this ⊢
        rw [show 19 + 5 = 24 from rfl] at this ⊢
        rw [a24, b24]
        exact this
      · unfold RSeen RSn1 at x6 ⊢
        rw [show 19 + 6 = 25 from rfl] at x6 ⊢
        rw [a19, a25]
        exact x6
    · exact Or.inr c7
-- numbers that name judges, facts, answers
theorem wide_lt (a b : Int32) : a.toInt64 < b.toInt64 ↔ a < b := by
  rw [Int64.lt_iff_toInt_lt, Int32.lt_iff_toInt_lt, Int32.toInt_toInt64, Int32.toInt_toInt64]
theorem in_wide (x lo hi : Int32) : f_M_in x.toInt64 lo.toInt64 hi.toInt64 = inR x lo hi := by
  unfold f_M_in inR
  by_cases h1 : x < lo
  · rw [if_pos ((wide_lt x lo).mpr h1)]
    have : ¬ lo ≤ x := by
      rw [Int32.le_iff_toInt_le]
      rw [Int32.lt_iff_toInt_lt] at h1
      omega
    simp [this]
  · rw [if_neg (fun q => h1 ((wide_lt x lo).mp q))]
    have h1' : lo ≤ x := by
      rw [Int32.le_iff_toInt_le]
      rw [Int32.lt_iff_toInt_lt] at h1
      omega
    by_cases h2 : hi < x
    · rw [if_pos ((wide_lt hi x).mpr h2)]
      have : ¬ x ≤ hi := by
        rw [Int32.le_iff_toInt_le]
        rw [Int32.lt_iff_toInt_lt] at h2
        omega
      simp [this]
    · rw [if_neg (fun q => h2 ((wide_lt hi x).mp q))]
      have : x ≤ hi := by
        rw [Int32.le_iff_toInt_le]
        rw [Int32.lt_iff_toInt_lt] at h2
        omega
      simp [h1', this]
theorem inR_nI {n a b : Nat} (hn : n < 2 ^ 31) (ha : a < 2 ^ 31) (hb : b < 2 ^ 31) : inR (nI n) (nI a) (nI b) = (decide (a ≤ n) && decide (n ≤ b)) := by
  unfold inR
  rw [show decide (nI a ≤ nI n) = decide (a ≤ n) from decide_eq_decide.mpr (nI_leI ha hn), show decide (nI n ≤ nI b) = decide (n ≤ b) from decide_eq_decide.mpr (nI_leI hn hb)]
theorem neg_lt {x : Int32} {n : Nat} (h : x < 0) (hn : n < 2 ^ 31) : x < nI n ∧ ¬ nI n ≤ x := by
  have h0 := nI_toInt hn
  rw [Int32.lt_iff_toInt_lt] at h ⊢
  rw [Int32.le_iff_toInt_le, h0]
  have : (0 : Int32).toInt = 0 := rfl
  omega
theorem inR_neg {x : Int32} {a : Nat} (ha : a < 2 ^ 31) (h : x < 0) (hi : Int32) : inR x (nI a) hi = false := by
  unfold inR
  have := (neg_lt h ha).2
  simp [this]
theorem inR_big {x : Int32} {n : Nat} (h : nI (n + 1) ≤ x) (hn : n + 1 < 2 ^ 31) (lo : Int32) : inR x lo (nI n) = false := by
  unfold inR
  have : ¬ x ≤ nI n := by
    have h1 := nI_toInt hn
    have h2 := nI_toInt (show n < 2 ^ 31 by omega)
    rw [Int32.le_iff_toInt_le] at h ⊢
    omega
  simp [this]
/-- a number under n, or outside: both sides say so -/
theorem judge_cs {C M : ip_St} {J : Nat} (hJ : J ≤ 3) (hC : C.1 12 1 = nI J) (hM : M.1 30 18 = nI J) (p : Int32) : (∃ j, j < J ∧ p = nI j ∧ f_A_isJudge p C = true ∧ f_M_isJudge p M = true) ∨ (f_A_isJudge p C = false ∧ f_M_isJudge p M = false) := by
  unfold f_A_isJudge f_M_isJudge
  rw [hC, hM, show (0 : Int64) = (0 : Int32).toInt64 from rfl, in_wide]
  rcases pk_ix p (show J < 2 ^ 31 by omega) with h | h | ⟨j, hj, rfl⟩
  · right
    rw [if_pos h]
    exact ⟨rfl, inR_neg (a := 0) (by decide) h _⟩
  · right
    by_cases h0 : p < 0
    · rw [if_pos h0]
      exact ⟨rfl, inR_neg (a := 0) (by decide) h0 _⟩
    · rw [if_neg h0, if_pos h]
      refine ⟨rfl, ?_⟩
      cases J with
      | zero =>
        unfold inR
        have : ¬ p ≤ nI 0 - 1 := by
          rw [show nI 0 - 1 = (-1 : Int32) from rfl, Int32.le_iff_toInt_le]
          rw [Int32.lt_iff_toInt_lt] at h0
          have h3 : (0 : Int32).toInt = 0 := rfl
          have h4 : (-1 : Int32).toInt = -1 := rfl
          omega
        simp [this]
      | succ J =>
        rw [nI_pred]
        exact inR_big h (by omega) _
  · left
    refine ⟨j, hj, rfl, ?_, ?_⟩
    · rw [if_neg (nI_pos (by omega)), if_neg (by rw [nI_leI (by omega) (by omega)]; omega)]
    · obtain ⟨J', rfl⟩ : ∃ J', J = J' + 1 := ⟨J - 1, by omega⟩
      rw [nI_pred, show (0 : Int32) = nI 0 from rfl, inR_nI (by omega) (by omega) (by omega)]
      simp
      omega
theorem fact_cs (p : Int32) : (∃ f, f < 6 ∧ p = nI f ∧ f_A_isFact p = true ∧ f_M_isFact p = true) ∨ (f_A_isFact p = false ∧ f_M_isFact p = false) := by
  unfold f_A_isFact f_M_isFact
  rw [show (0 : Int64) = (0 : Int32).toInt64 from rfl, show (5 : Int64) = (5 : Int32).toInt64 from rfl, in_wide]
  rcases pk_ix p (show 6 < 2 ^ 31 by decide) with h | h | ⟨j, hj, rfl⟩
  · right
    rw [if_pos h]
    exact ⟨rfl, inR_neg (a := 0) (by decide) h _⟩
  · right
    refine ⟨?_, inR_big (n := 5) h (by decide) _⟩
    rw [if_pos (c := (6 : Int32) ≤ p) h]
    split <;> rfl
  · left
    refine ⟨j, hj, rfl, ?_⟩
    rcases (show j = 0 ∨ j = 1 ∨ j = 2 ∨ j = 3 ∨ j = 4 ∨ j = 5 by omega) with rfl | rfl | rfl | rfl | rfl | rfl <;> decide
theorem ans_cs (p : Int32) : (∃ b : Bool, p = b2 b ∧ f_A_isAnswer p = true ∧ f_M_isBit p = true) ∨ (f_A_isAnswer p = false ∧ f_M_isBit p = false) := by
  unfold f_A_isAnswer f_M_isBit
  rw [show (0 : Int64) = (0 : Int32).toInt64 from rfl, show (1 : Int64) = (1 : Int32).toInt64 from rfl, in_wide]
  rcases pk_ix p (show 2 < 2 ^ 31 by decide) with h | h | ⟨j, hj, rfl⟩
  · right
    have h0 : ¬ p = 0 := fun q => by rw [q] at h; exact absurd h (by decide)
    have h1 : ¬ p = 1 := fun q => by rw [q] at h; exact absurd h (by decide)
    rw [if_neg h0, if_neg h1]
    exact ⟨rfl, inR_neg (a := 0) (by decide) h _⟩
  · right
    have h0 : ¬ p = 0 := fun q => by rw [q] at h; exact absurd h (by decide)
    have h1 : ¬ p = 1 := fun q => by rw [q] at h; exact absurd h (by decide)
    rw [if_neg h0, if_neg h1]
    exact ⟨rfl, inR_big (n := 1) h (by decide) _⟩
  · left
    rcases (show j = 0 ∨ j = 1 by omega) with rfl | rfl
    · exact ⟨false, rfl, by decide, by decide⟩
    · exact ⟨true, rfl, by decide, by decide⟩
