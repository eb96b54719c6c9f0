/-! ===== reading and writing rows at a number; the relation of the class's cells and the reference's ===== -/
theorem in_at {i n : Nat} (hi : i < n) (hn : n < 2 ^ 31) : ip_in (nI i) n = true := by
  unfold ip_in
  rw [nI_clamp (by omega)]
  simp [nI_pos (show i < 2 ^ 31 by omega), hi]
theorem aI_at {S : ip_St} {c n i : Nat} (hc : ip_ar c = some (0, n)) (hi : i < n) : ip_aI S c (nI i) = some (S.1 c i) := by
  have hn := (ip_ar_lt hc).2.2.2.2.2.1
  dsimp only at hn
  unfold ip_aI
  rw [hc]
  show cond (ip_in (nI i) n) (some (S.1 c (nI i).toNatClampNeg)) none = _
  rw [in_at hi (by omega), nI_clamp (by omega)]
  rfl
theorem aL_at {S : ip_St} {c n i : Nat} (hc : ip_ar c = some (1, n)) (hi : i < n) : ip_aL S c (nI i) = some (S.2 c i) := by
  have hn := (ip_ar_lt hc).2.2.2.2.2.1
  dsimp only at hn
  unfold ip_aL
  rw [hc]
  show cond (ip_in (nI i) n) (some (S.2 c (nI i).toNatClampNeg)) none = _
  rw [in_at hi (by omega), nI_clamp (by omega)]
  rfl
theorem aZ_at {S : ip_St} {c n i : Nat} (hc : ip_ar c = some (2, n)) (hi : i < n) : ip_aZ S c (nI i) = some (S.1 c i) := by
  have hn := (ip_ar_lt hc).2.2.2.2.2.1
  dsimp only at hn
  unfold ip_aZ
  rw [hc]
  show cond (ip_in (nI i) n) (some (S.1 c (nI i).toNatClampNeg)) none = _
  rw [in_at hi (by omega), nI_clamp (by omega)]
  rfl
theorem wI_at {S : ip_St} {c n i : Nat} {v : Int32} (hc : ip_ar c = some (0, n)) (hi : i < n) : ip_wI S c (nI i) v = some (ip_upI S c i v) := by
  have hn := (ip_ar_lt hc).2.2.2.2.2.1
  dsimp only at hn
  unfold ip_wI
  rw [hc]
  show cond (ip_in (nI i) n) (some (ip_upI S c (nI i).toNatClampNeg v)) none = _
  rw [in_at hi (by omega), nI_clamp (by omega)]
  rfl
theorem wL_at {S : ip_St} {c n i : Nat} {v : Int64} (hc : ip_ar c = some (1, n)) (hi : i < n) : ip_wL S c (nI i) v = some (ip_upL S c i v) := by
  have hn := (ip_ar_lt hc).2.2.2.2.2.1
  dsimp only at hn
  unfold ip_wL
  rw [hc]
  show cond (ip_in (nI i) n) (some (ip_upL S c (nI i).toNatClampNeg v)) none = _
  rw [in_at hi (by omega), nI_clamp (by omega)]
  rfl
theorem wZ_at {S : ip_St} {c n i : Nat} {v : Int32} (hc : ip_ar c = some (2, n)) (hi : i < n) : ip_wZ S c (nI i) v = some (ip_upI S c i (v &&& 1)) := by
  have hn := (ip_ar_lt hc).2.2.2.2.2.1
  dsimp only at hn
  unfold ip_wZ
  rw [hc]
  show cond (ip_in (nI i) n) (some (ip_upI S c (nI i).toNatClampNeg (v &&& 1))) none = _
  rw [in_at hi (by omega), nI_clamp (by omega)]
  rfl
theorem aA13 : ∀ j, j < 3 → ip_aA 13 (nI j) = some (14 + j) := by decide +kernel
theorem aA20 : ∀ j, j < 3 → ip_aA 20 (nI j) = some (21 + j) := by decide +kernel
theorem ob14 : ∀ j, j < 3 → ip_ob (14 + j) = some 1 := by decide +kernel
theorem ob21 : ∀ j, j < 3 → ip_ob (21 + j) = some 1 := by decide +kernel
theorem upI_same (S : ip_St) (c k : Nat) (v : Int32) : (ip_upI S c k v).1 c k = v := by simp [ip_upI]
theorem upI_ne (S : ip_St) {c k c' k' : Nat} (v : Int32) (h : ¬ (c' = c ∧ k' = k)) : (ip_upI S c k v).1 c' k' = S.1 c' k' := by simp only [ip_upI, if_neg h]
theorem upI_2 (S : ip_St) (c k : Nat) (v : Int32) : (ip_upI S c k v).2 = S.2 := rfl
theorem upL_same (S : ip_St) (c k : Nat) (v : Int64) : (ip_upL S c k v).2 c k = v := by simp [ip_upL]
theorem upL_ne (S : ip_St) {c k c' k' : Nat} (v : Int64) (h : ¬ (c' = c ∧ k' = k)) : (ip_upL S c k v).2 c' k' = S.2 c' k' := by simp only [ip_upL, if_neg h]
theorem upL_1 (S : ip_St) (c k : Nat) (v : Int64) : (ip_upL S c k v).1 = S.1 := rfl
theorem upI_f (S : ip_St) (c k : Nat) (v : Int32) (a b : Nat) : (ip_upI S c k v).1 a b = if a = c ∧ b = k then v else S.1 a b := rfl
theorem upL_f (S : ip_St) (c k : Nat) (v : Int64) (a b : Nat) : (ip_upL S c k v).2 a b = if a = c ∧ b = k then v else S.2 a b := rfl
def b2 (b : Bool) : Int32 := if b then 1 else 0
/-- one judge: kind, coughed, which facts are known, how they are, which were heard, what was said -/
abbrev JD : Type := Nat × Bool × Nat × Nat × Nat × Nat
def kf (b v f : Nat) : Int32 := if b.testBit f then b2 (v.testBit f) else -1
def jok (d : JD) : Prop := d.1 < 5 ∧ d.2.2.1 < 64 ∧ d.2.2.2.1 < 64 ∧ d.2.2.2.2.1 < 64 ∧ d.2.2.2.2.2 < 64 ∧ (∀ f, f < 6 → d.2.2.2.1.testBit f = true → d.2.2.1.testBit f = true) ∧ ∀ f, f < 6 → d.2.2.2.2.2.testBit f = true → d.2.2.2.2.1.testBit f = true
def jC (C : ip_St) (c : Nat) (d : JD) : Prop := C.1 c 0 = nI d.1 ∧ C.1 c 1 = nI d.2.2.1 ∧ C.1 c 2 = nI d.2.2.2.1 ∧ C.1 c 3 = nI d.2.2.2.2.1 ∧ C.1 c 4 = nI d.2.2.2.2.2 ∧ C.1 c 5 = b2 d.2.1
def jM (M : ip_St) (r kn hd j : Nat) (d : JD) : Prop := M.1 r (2 * j) = nI d.1 ∧ M.1 r (2 * j + 1) = b2 d.2.1 ∧ (∀ f, f < 6 → M.1 kn (6 * j + f) = kf d.2.2.1 d.2.2.2.1 f) ∧ ∀ f, f < 6 → M.1 hd (6 * j + f) = kf d.2.2.2.2.1 d.2.2.2.2.2 f
/-- the ways of a judge -/
def wyF (d : JD) : Nat → Int64
  | 0 => -1
  | f + 1 => (wyF d f &&& (if d.2.2.1.testBit f then f_M_keptIf (rw0 f) (b2 (d.2.2.2.1.testBit f)) else -1)) &&& (if d.2.2.2.2.1.testBit f then f_M_keptIf (srow d.1 f) (b2 (d.2.2.2.2.2.testBit f)) else -1)
def wy (d : JD) : Int64 := wyF d 6
theorem and_m1 (x : Int64) : x &&& (-1) = x := by
  apply lb_ext
  intro w hw
  rw [lb_and, lb_m1 hw, Bool.and_true]
theorem worlds_loop {C : ip_St} {c : Nat} {d : JD} (hd : jok d) (hc : jC C c d) : ∀ (e f n : Nat), f + e = 6 → e < n → f_J_worlds_6 n c (wyF d f) (nI f) C = some (wy d) := by
  obtain ⟨k1, k2, k3, k4, k5, -, -⟩ := hd
  obtain ⟨c0, c1, c2, c3, c4, c5⟩ := hc
  intro e
  induction e with
  | zero =>
    intro f n hf hn
    obtain rfl : f = 6 := by omega
    obtain ⟨m, rfl⟩ : ∃ m, n = m + 1 := ⟨n - 1, by omega⟩
    rw [f_J_worlds_6, if_pos (by decide)]
    rfl
  | succ e ih =>
    intro f n hf hn
    obtain ⟨m, rfl⟩ : ∃ m, n = m + 1 := ⟨n - 1, by omega⟩
    have ih' := ih (f + 1) m (by omega) (by omega)
    have hh : ∀ x : Int64, x &&& (if d.2.2.2.2.1.testBit f then f_M_keptIf (srow d.1 f) (b2 (d.2.2.2.2.2.testBit f)) else -1) = wyF d (f + 1) → f_J_worlds_39 (f_J_worlds_6 m) c x (nI f) C = some (wy d) := by
      intro x hx
      unfold f_J_worlds_39
      rw [c0, c3, c4, nI_bit (by omega) (by omega), nI_bit (by omega) (by omega), nI_1]
      cases hb : d.2.2.2.2.1.testBit f with
      | true =>
        rw [hb] at hx
        simp only [if_true] at hx ⊢
        rw [whereSaid_eq k1 (by omega)]
        simp only [Option.bind_some]
        rw [show (if d.2.2.2.2.2.testBit f = true then (1 : Int32) else 0) = b2 (d.2.2.2.2.2.testBit f) from rfl, hx]
        exact ih'
      | false =>
        rw [hb] at hx
        simp only [Bool.false_eq_true, if_false, and_m1] at hx
        rw [if_neg (by decide), hx]
        exact ih'
    rw [f_J_worlds_6, if_neg (by rw [show (6 : Int32) = nI 6 from rfl, nI_leI (by omega) (by omega)]; omega), c1, c2, nI_bit (by omega) (by omega), nI_bit (by omega) (by omega)]
    cases hb : d.2.2.1.testBit f with
    | true =>
      simp only [if_true]
      rw [where_eq (by omega)]
      simp only [Option.bind_some]
      apply hh
      simp only [wyF, hb, if_true]
      rfl
    | false =>
      simp only [Bool.false_eq_true, if_false]
      rw [if_neg (by decide)]
      apply hh
      simp only [wyF, hb, Bool.false_eq_true, if_false, and_m1]
theorem worlds_eq {C : ip_St} {c : Nat} {d : JD} (hd : jok d) (hc : jC C c d) : f_J_worlds c C = some (wy d) := worlds_loop hd hc 6 0 ip_FU rfl (by decide)
-- the reference's tables
def RT (M : ip_St) : Prop := ∀ k, k < 5 → ∀ f, f < 6 → M.2 31 (6 * k + f) = srow k f
theorem srow0 : ∀ f, f < 6 → srow 0 f = rw0 f := by decide +kernel
theorem rowOf_eq {M : ip_St} (h : RT M) {f : Nat} (hf : f < 6) : f_M_rowOf (nI f) M = some (rw0 f) := by
  unfold f_M_rowOf
  rw [aL_at (n := 30) rfl (by omega)]
  have := h 0 (by decide) f hf
  rw [Nat.mul_zero, Nat.zero_add] at this
  rw [this, srow0 f hf]
  rfl
theorem saysRow_eq {M : ip_St} (h : RT M) {k f : Nat} (hk : k < 5) (hf : f < 6) : f_M_saysRow (nI k) (nI f) M = some (srow k f) := by
  unfold f_M_saysRow
  rw [show (6 : Int32) = nI 6 from rfl, pk_mul, nI_add, aL_at (n := 30) rfl (by omega), h k hk f hf]
  rfl
theorem i2 (j : Nat) : (2 : Int32) * nI j = nI (2 * j) := by rw [show (2 : Int32) = nI 2 from rfl, pk_mul]
theorem i21 (j : Nat) : (2 : Int32) * nI j + 1 = nI (2 * j + 1) := by rw [i2, nI_1]
theorem i6 (j f : Nat) : (6 : Int32) * nI j + nI f = nI (6 * j + f) := by rw [show (6 : Int32) = nI 6 from rfl, pk_mul, nI_add]
theorem b2_ne (b : Bool) : ¬ b2 b = -1 := by cases b <;> decide
theorem kf_neg (b v f : Nat) : kf b v f = -1 ↔ b.testBit f = false := by
  unfold kf
  cases h : b.testBit f with
  | false => simp
  | true => simp [b2_ne]
theorem waysOf_loop {M : ip_St} {j : Nat} {d : JD} (hT : RT M) (hj : j < 3) (hd : jok d) (hm : jM M 42 43 44 j d) : ∀ (e f n : Nat), f + e = 6 → e < n → f_M_waysOf_7 n (nI j) (wyF d f) (nI f) M = some (wy d) := by
  obtain ⟨k1, k2, k3, k4, k5, -, -⟩ := hd
  obtain ⟨m0, m1, m2, m3⟩ := hm
  intro e
  induction e with
  | zero =>
    intro f n hf hn
    obtain rfl : f = 6 := by omega
    obtain ⟨m, rfl⟩ : ∃ m, n = m + 1 := ⟨n - 1, by omega⟩
    rw [f_M_waysOf_7, if_pos (by decide)]
    rfl
  | succ e ih =>
    intro f n hf hn
    obtain ⟨m, rfl⟩ : ∃ m, n = m + 1 := ⟨n - 1, by omega⟩
    have ih' := ih (f + 1) m (by omega) (by omega)
    have hh : ∀ y : Int64, wyF d f &&& y = wyF d f &&& (if d.2.2.1.testBit f then f_M_keptIf (rw0 f) (b2 (d.2.2.2.1.testBit f)) else -1) → f_M_waysOf_66 (f_M_waysOf_7 m) (nI j) (nI f) (kf d.2.2.2.2.1 d.2.2.2.2.2 f) (wyF d f) y M = some (wy d) := by
      intro y hy
      unfold f_M_waysOf_66
      rw [nI_1]
      by_cases hk : kf d.2.2.2.2.1 d.2.2.2.2.2 f = -1
      · rw [if_pos hk, hy]
        rw [kf_neg] at hk
        have : wyF d (f + 1) = (wyF d f &&& (if d.2.2.1.testBit f then f_M_keptIf (rw0 f) (b2 (d.2.2.2.1.testBit f)) else -1)) &&& (-1) := by
          simp only [wyF, hk, Bool.false_eq_true, if_false]
        rw [← this]
        exact ih'
      · rw [if_neg hk, i2, aI_at (n := 6) rfl (by omega), m0]
        simp only [Option.bind_some]
        rw [saysRow_eq hT k1 (by omega)]
        simp only [Option.bind_some]
        rw [kf_neg] at hk
        have hk2 : d.2.2.2.2.1.testBit f = true := by simpa using hk
        have hkf : kf d.2.2.2.2.1 d.2.2.2.2.2 f = b2 (d.2.2.2.2.2.testBit f) := by unfold kf; rw [hk2]; rfl
        have : wyF d (f + 1) = (wyF d f &&& y) &&& f_M_keptIf (srow d.1 f) (kf d.2.2.2.2.1 d.2.2.2.2.2 f) := by
          rw [hy, hkf]
          simp only [wyF, hk2, if_true]
        rw [← this]
        exact ih'
    rw [f_M_waysOf_7, if_neg (by rw [show (6 : Int32) = nI 6 from rfl, nI_leI (by omega) (by omega)]; omega), i6, aI_at (n := 18) rfl (by omega), aI_at (n := 18) rfl (by omega), m2 f (by omega), m3 f (by omega)]
    simp only [Option.bind_some]
    by_cases hk : kf d.2.2.1 d.2.2.2.1 f = -1
    · rw [if_pos hk]
      rw [kf_neg] at hk
      apply hh
      simp only [hk, Bool.false_eq_true, if_false]
    · rw [if_neg hk, rowOf_eq hT (by omega)]
      simp only [Option.bind_some]
      rw [kf_neg] at hk
      have hk2 : d.2.2.1.testBit f = true := by simpa using hk
      apply hh
      have hkf : kf d.2.2.1 d.2.2.2.1 f = b2 (d.2.2.2.1.testBit f) := by unfold kf; rw [hk2]; rfl
      rw [hkf]
      simp only [hk2, if_true]
theorem waysOf_eq {M : ip_St} {j : Nat} {d : JD} (hT : RT M) (hj : j < 3) (hd : jok d) (hm : jM M 42 43 44 j d) : f_M_waysOf (nI j) M = some (wy d) := waysOf_loop hT hj hd hm 6 0 ip_FU rfl (by decide)
theorem freesOf_eq {M : ip_St} {j : Nat} {d : JD} (hj : j < 3) (hd : jok d) (hm : jM M 42 43 44 j d) : f_M_freesOf (nI j) M = some (fre d.1 (M.2 30 17)) := by
  unfold f_M_freesOf
  rw [i2, aI_at (n := 6) rfl (by omega), hm.1]
  simp only [Option.bind_some]
  rw [freesRow_eq hd.1]
  rfl
