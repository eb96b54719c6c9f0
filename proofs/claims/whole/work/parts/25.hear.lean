/-! ===== the ways of a judge, by worlds ===== -/
def wyP (d : JD) (w n : Nat) : Prop := ∀ f, f < n → (d.2.2.1.testBit f = true → w.testBit f = d.2.2.2.1.testBit f) ∧ (d.2.2.2.2.1.testBit f = true → (sayN d.1 w).testBit f = d.2.2.2.2.2.testBit f)
theorem lb_kb (r : Int64) (b : Bool) {w : Nat} (hw : w < 64) : lb (f_M_keptIf r (b2 b)) w = (lb r w == b) := lb_kept r b hw
theorem lb_wyF {d : JD} (hk : d.1 < 5) {w : Nat} (hw : w < 64) : ∀ n, n ≤ 6 → (lb (wyF d n) w = true ↔ wyP d w n) := by
  intro n
  induction n with
  | zero =>
    intro _
    constructor
    · intro _ f hf
      omega
    · intro _
      exact lb_m1 hw
  | succ n ih =>
    intro hn
    have ih' := ih (by omega)
    simp only [wyF]
    rw [lb_and, lb_and, Bool.and_eq_true, Bool.and_eq_true, ih']
    have e1 : lb (if d.2.2.1.testBit n = true then f_M_keptIf (rw0 n) (b2 (d.2.2.2.1.testBit n)) else -1) w = true ↔ (d.2.2.1.testBit n = true → w.testBit n = d.2.2.2.1.testBit n) := by
      cases hb : d.2.2.1.testBit n with
      | false => simp [lb_m1 hw]
      | true =>
        simp only [if_true, forall_const]
        rw [lb_kb _ _ hw, lb_rw_ck n (by omega) w hw]
        simp
    have e2 : lb (if d.2.2.2.2.1.testBit n = true then f_M_keptIf (srow d.1 n) (b2 (d.2.2.2.2.2.testBit n)) else -1) w = true ↔ (d.2.2.2.2.1.testBit n = true → (sayN d.1 w).testBit n = d.2.2.2.2.2.testBit n) := by
      cases hb : d.2.2.2.2.1.testBit n with
      | false => simp [lb_m1 hw]
      | true =>
        simp only [if_true, forall_const]
        rw [lb_kb _ _ hw, lb_srow d.1 hk n (by omega) w hw]
        simp
    rw [e1, e2]
    constructor
    · rintro ⟨⟨a, b⟩, c⟩ f hf
      rcases Nat.lt_or_ge f n with q | q
      · exact a f q
      · obtain rfl : f = n := by omega
        exact ⟨b, c⟩
    · intro a
      exact ⟨⟨fun f hf => a f (by omega), (a n (by omega)).1⟩, (a n (by omega)).2⟩
theorem lb_wy {d : JD} (hk : d.1 < 5) {w : Nat} (hw : w < 64) : lb (wy d) w = true ↔ wyP d w 6 := lb_wyF hk hw 6 (Nat.le_refl 6)
theorem lb_iff {x y : Int64} (h : ∀ w, w < 64 → (lb x w = true ↔ lb y w = true)) : x = y := by
  apply lb_ext
  intro w hw
  have := h w hw
  cases hx : lb x w <;> cases hy : lb y w <;> simp_all
def b1 (b : Bool) : Nat := if b then 1 else 0
theorem or_ck : ∀ x, x < 64 → ∀ f, f < 6 → x ||| 2 ^ f < 64 ∧ x ||| 0 < 64 := by decide +kernel
theorem orb_lt {x f : Nat} (hx : x < 64) (hf : f < 6) (b : Bool) : x ||| b1 b * 2 ^ f < 64 := by
  cases b
  · have := (or_ck x hx f hf).2
    simpa [b1] using this
  · have := (or_ck x hx f hf).1
    simpa [b1] using this
theorem tb_or (x f i : Nat) : (x ||| 2 ^ f).testBit i = (x.testBit i || decide (f = i)) := by rw [Nat.testBit_or, Nat.testBit_two_pow]
theorem tb_orb (x f i : Nat) (b : Bool) : (x ||| b1 b * 2 ^ f).testBit i = (x.testBit i || (b && decide (f = i))) := by
  cases b
  · simp [b1]
  · rw [show b1 true * 2 ^ f = 2 ^ f by simp [b1], tb_or]
    simp
def hear (d : JD) (f : Nat) (b : Bool) : JD := (d.1, d.2.1, d.2.2.1, d.2.2.2.1, d.2.2.2.2.1 ||| 2 ^ f, d.2.2.2.2.2 ||| b1 b * 2 ^ f)
def lern (d : JD) (f : Nat) (b : Bool) : JD := (d.1, d.2.1, d.2.2.1 ||| 2 ^ f, d.2.2.2.1 ||| b1 b * 2 ^ f, d.2.2.2.2.1, d.2.2.2.2.2)
def cogh (d : JD) : JD := (d.1, true, d.2.2)
def unhr (d : JD) : JD := (d.1, false, d.2.2.1, d.2.2.2.1, 0, 0)
theorem set_ok {x y f : Nat} (h : ∀ i, i < 6 → y.testBit i = true → x.testBit i = true) (b : Bool) : ∀ i, i < 6 → (y ||| b1 b * 2 ^ f).testBit i = true → (x ||| 2 ^ f).testBit i = true := by
  intro i hi q
  rw [tb_orb] at q
  rw [tb_or]
  have := h i hi
  cases hy : y.testBit i <;> cases hx : x.testBit i <;> cases b <;> simp_all
theorem set_bit {x y f : Nat} (hf : f < 6) (h : ∀ i, i < 6 → y.testBit i = true → x.testBit i = true) (h0 : x.testBit f = false) (b : Bool) (i : Nat) : (y ||| b1 b * 2 ^ f).testBit i = if i = f then b else y.testBit i := by
  rw [tb_orb]
  by_cases q : i = f
  · subst q
    have : y.testBit i = false := by
      cases hy : y.testBit i with
      | false => rfl
      | true =>
        have := h i hf hy
        rw [h0] at this
        cases this
    simp [this]
  · have : ¬ f = i := fun z => q z.symm
    simp [q, this]
theorem kf_set {x y f : Nat} (hf : f < 6) (h : ∀ i, i < 6 → y.testBit i = true → x.testBit i = true) (h0 : x.testBit f = false) (b : Bool) (i : Nat) : kf (x ||| 2 ^ f) (y ||| b1 b * 2 ^ f) i = if i = f then b2 b else kf x y i := by
  unfold kf
  rw [tb_or, set_bit hf h h0 b i]
  by_cases q : i = f
  · subst q
    simp
  · have : ¬ f = i := fun z => q z.symm
    simp [q, this]
theorem hear_ok {d : JD} (hd : jok d) {f : Nat} (hf : f < 6) (b : Bool) : jok (hear d f b) := by
  obtain ⟨h1, h2, h3, h4, h5, h6, h7⟩ := hd
  exact ⟨h1, h2, h3, (or_ck _ h4 f hf).1, orb_lt h5 hf b, h6, set_ok h7 b⟩
theorem lern_ok {d : JD} (hd : jok d) {f : Nat} (hf : f < 6) (b : Bool) : jok (lern d f b) := by
  obtain ⟨h1, h2, h3, h4, h5, h6, h7⟩ := hd
  exact ⟨h1, (or_ck _ h2 f hf).1, orb_lt h3 hf b, h4, h5, set_ok h6 b, h7⟩
theorem cogh_ok {d : JD} (hd : jok d) : jok (cogh d) := hd
theorem unhr_ok {d : JD} (hd : jok d) : jok (unhr d) := by
  obtain ⟨h1, h2, h3, h4, h5, h6, h7⟩ := hd
  refine ⟨h1, h2, h3, (by decide : 0 < 64), (by decide : 0 < 64), h6, fun i _ q => ?_⟩
  have q' : (0 : Nat).testBit i = true := q
  simp at q'
theorem wy_hear {d : JD} (hd : jok d) {f : Nat} (hf : f < 6) (h0 : d.2.2.2.2.1.testBit f = false) (b : Bool) : wy (hear d f b) = wy d &&& f_M_keptIf (srow d.1 f) (b2 b) := by
  apply lb_iff
  intro w hw
  rw [lb_wy (d := hear d f b) hd.1 hw, lb_and, Bool.and_eq_true, lb_wy hd.1 hw, lb_kb _ _ hw, lb_srow d.1 hd.1 f hf w hw]
  unfold wyP hear
  dsimp only
  constructor
  · intro h
    constructor
    · intro i hi
      obtain ⟨a1, a2⟩ := h i hi
      refine ⟨a1, fun q => ?_⟩
      have hne : ¬ i = f := fun z => by rw [z, h0] at q; cases q
      rw [tb_or, set_bit hf hd.2.2.2.2.2.2 h0, if_neg hne] at a2
      exact a2 (by rw [q]; rfl)
    · have := (h f hf).2
      rw [tb_or, set_bit hf hd.2.2.2.2.2.2 h0] at this
      simpa using this
  · rintro ⟨h1, h2⟩ i hi
    obtain ⟨a1, a2⟩ := h1 i hi
    refine ⟨a1, fun q => ?_⟩
    rw [tb_or] at q
    rw [set_bit hf hd.2.2.2.2.2.2 h0]
    by_cases z : i = f
    · subst z
      simpa using h2
    · have z2 : ¬ f = i := fun k => z k.symm
      rw [if_neg z]
      apply a2
      simpa [z2] using q
theorem wy_lern {d : JD} (hd : jok d) {f : Nat} (hf : f < 6) (h0 : d.2.2.1.testBit f = false) (b : Bool) : wy (lern d f b) = wy d &&& f_M_keptIf (rw0 f) (b2 b) := by
  apply lb_iff
  intro w hw
  rw [lb_wy (d := lern d f b) hd.1 hw, lb_and, Bool.and_eq_true, lb_wy hd.1 hw, lb_kb _ _ hw, lb_rw_ck f hf w hw]
  unfold wyP lern
  dsimp only
  constructor
  · intro h
    constructor
    · intro i hi
      obtain ⟨a1, a2⟩ := h i hi
      refine ⟨fun q => ?_, a2⟩
      have hne : ¬ i = f := fun z => by rw [z, h0] at q; cases q
      rw [tb_or, set_bit hf hd.2.2.2.2.2.1 h0, if_neg hne] at a1
      exact a1 (by rw [q]; rfl)
    · have := (h f hf).1
      rw [tb_or, set_bit hf hd.2.2.2.2.2.1 h0] at this
      simpa using this
  · rintro ⟨h1, h2⟩ i hi
    obtain ⟨a1, a2⟩ := h1 i hi
    refine ⟨fun q => ?_, a2⟩
    rw [tb_or] at q
    rw [set_bit hf hd.2.2.2.2.2.1 h0]
    by_cases z : i = f
    · subst z
      simpa using h2
    · have z2 : ¬ f = i := fun k => z k.symm
      rw [if_neg z]
      apply a1
      simpa [z2] using q
theorem wy_cogh {d : JD} (hd : jok d) : wy (cogh d) = wy d := by
  apply lb_iff
  intro w hw
  rw [lb_wy (d := cogh d) hd.1 hw, lb_wy hd.1 hw]
  exact Iff.rfl
theorem wy_unhr {d : JD} (hd : jok d) (h : ¬ wy d = 0) : ¬ wy (unhr d) = 0 := by
  intro q
  apply h
  rw [lb_zero] at q ⊢
  intro w hw
  have h1 := q w hw
  cases hb : lb (wy d) w with
  | false => rfl
  | true =>
    rw [lb_wy hd.1 hw] at hb
    have : lb (wy (unhr d)) w = true := by
      rw [lb_wy (d := unhr d) hd.1 hw]
      intro f hf
      refine ⟨(hb f hf).1, fun z => ?_⟩
      have z' : (0 : Nat).testBit f = true := z
      simp at z'
    rw [h1] at this
    cases this
/-! ===== a judge's cells change ===== -/
def wJC : List (Nat × Nat) := [(12, 4), (14, 99), (15, 99), (16, 99)]
def wJM : List (Nat × Nat) := [(30, 19), (42, 99), (43, 99), (44, 99)]
theorem Rel2.judges {N : Nat} {C C' M M' : ip_St} (h : Rel2 N C M) (hC : ip_Fr wJC C C') (hM : ip_Fr wJM M M') (hq : C'.1 12 4 = M'.1 30 19) (hjs : ∀ J, M.1 30 18 = nI J → J ≤ 3 → RJs C M J 14 42 43 44 → RJs C' M' J 14 42 43 44) : Rel2 N C' M' := by
  obtain ⟨t, pg, x, J, cr, c1, c2, ⟨x1, x2, x3, x4, x5, x6⟩, c4, c5, c6, c7⟩ := h
  refine ⟨RT_fr hM rfl t, RPg_fr hC hM rfl rfl rfl rfl pg, RX_fr hC rfl x, J, cr, c1, by rw [(hM 30 18 rfl).1]; exact c2, ⟨by rw [(hC 12 1 rfl).1]; exact x1, by rw [(hC 12 3 rfl).1, (hM 30 20 rfl).1]; exact x2, hq, hjs J c2 c1 x4, fun h0 => ?_, ?_⟩, c4, by rw [(hC 0 7 rfl).1]; exact c5, by rw [(hM 30 21 rfl).1]; exact c6, RIm_fr c1 hC hM rfl rfl rfl rfl rfl c7⟩
  · have := x5 h0
    unfold RLaw at this ⊢
    rw [fr1 (c := 12 + 5) hC rfl, fr2 (c := 12 + 5) hC rfl, fr1 (c := 41) hM rfl, (hM 30 16 rfl).1, (hM 30 17 rfl).2]
    exact this
  · unfold RSeen RSn1 at x6 ⊢
    rw [(hC 12 6 rfl).1, fr1 (c := 12 + 6) hC rfl, fr1 (c := 49) hM rfl, (hM 30 29 rfl).1]
    exact x6
theorem RJs_set {C C' M M' : ip_St} {J j : Nat} (h : RJs C M J 14 42 43 44) (hc : ∀ i, i < J → i ≠ j → C'.1 (14 + i) = C.1 (14 + i)) (hm : ∀ i, i < J → i ≠ j → M'.1 42 (2 * i) = M.1 42 (2 * i) ∧ M'.1 42 (2 * i + 1) = M.1 42 (2 * i + 1) ∧ (∀ f, f < 6 → M'.1 43 (6 * i + f) = M.1 43 (6 * i + f)) ∧ ∀ f, f < 6 → M'.1 44 (6 * i + f) = M.1 44 (6 * i + f)) (d : JD) (d1 : jok d) (d2 : ¬ wy d = 0) (d3 : jC C' (14 + j) d) (d4 : jM M' 42 43 44 j d) : RJs C' M' J 14 42 43 44 := by
  intro i hi
  by_cases hij : i = j
  · subst hij
    exact ⟨d, d1, d2, d3, d4⟩
  · obtain ⟨e, e1, e2, e3, e4⟩ := h i hi
    obtain ⟨m1, m2, m3, m4⟩ := hm i hi hij
    refine ⟨e, e1, e2, ?_, ?_⟩
    · unfold jC at e3 ⊢
      rw [hc i hi hij]
      exact e3
    · unfold jM at e4 ⊢
      rw [m1, m2]
      exact ⟨e4.1, e4.2.1, fun f hf => by rw [m3 f hf]; exact e4.2.2.1 f hf, fun f hf => by rw [m4 f hf]; exact e4.2.2.2 f hf⟩
theorem waJC : ∀ j, j < 3 → ip_wa wJC (14 + j) = true := by decide
theorem ishl_b (b : Bool) {f : Nat} (hf : f < 6) : ip_ishl (b2 b) (nI f) = nI (b1 b * 2 ^ f) := by
  have e : b2 b = nI (b1 b) := by cases b <;> rfl
  have hp : 2 ^ f ≤ 2 ^ 5 := Nat.pow_le_pow_right (by decide) (by omega)
  rw [e]
  apply nI_shl (by omega)
  cases b <;> simp [b1] <;> omega
theorem bit_nI {a k : Nat} (hk : k < 6) (ha : a < 64) : f_A_bit (nI a) (nI k) = 1 ↔ a.testBit k = true := by
  rw [nI_bit (by omega) (by omega)]
  cases a.testBit k <;> simp
/-! ===== adjourn ===== -/
theorem adj_loop {j : Nat} (hj : j < 3) (x : Int32) : ∀ (e f n : Nat) (M : ip_St), f + e = 6 → e < n → ∃ M', f_M_adjourn_19 n (nI j) x (nI f) M = some (x, M') ∧ M'.2 = M.2 ∧ ∀ a b, M'.1 a b = if a = 42 ∧ b = 2 * j + 1 then 0 else if a = 44 ∧ 6 * j + f ≤ b ∧ b < 6 * j + 6 then -1 else M.1 a b := by
  intro e
  induction e with
  | zero =>
    intro f n M hf hn
    obtain rfl : f = 6 := by omega
    obtain ⟨m, rfl⟩ : ∃ m, n = m + 1 := ⟨n - 1, by omega⟩
    rw [f_M_adjourn_19, if_pos (by decide), i21, wI_at (n := 6) rfl (by omega)]
    refine ⟨_, rfl, rfl, fun a b => ?_⟩
    rw [upI_f]
    by_cases h1 : a = 42 ∧ b = 2 * j + 1
    · rw [if_pos h1, if_pos h1]
    · rw [if_neg h1, if_neg h1, if_neg (by omega)]
  | succ e ih =>
    intro f n M hf hn
    obtain ⟨m, rfl⟩ : ∃ m, n = m + 1 := ⟨n - 1, by omega⟩
    rw [f_M_adjourn_19, if_neg (by rw [show (6 : Int32) = nI 6 from rfl, nI_leI (by omega) (by omega)]; omega), i6, wI_at (n := 18) rfl (by omega), nI_1]
    simp only [Option.bind_some]
    obtain ⟨M', h1, h2, h3⟩ := ih (f + 1) m (ip_upI M 44 (6 * j + f) (-1)) (by omega) (by omega)
    refine ⟨M', h1, h2, fun a b => ?_⟩
    rw [h3 a b, upI_f]
    by_cases g1 : a = 42 ∧ b = 2 * j + 1
    · rw [if_pos g1, if_pos g1]
    · rw [if_neg g1, if_neg g1]
      by_cases g2 : a = 44 ∧ 6 * j + (f + 1) ≤ b ∧ b < 6 * j + 6
      · rw [if_pos g2, if_pos (by omega)]
      · rw [if_neg g2]
        by_cases g3 : a = 44 ∧ b = 6 * j + f
        · rw [if_pos g3, if_pos (by omega)]
        · rw [if_neg g3, if_neg (by omega)]
theorem op_adjourn {N : Nat} {C M : ip_St} (h : Rel2 N C M) (p : Int32) : ∃ r C' M', f_A_adjourn p C = some (r, C') ∧ f_M_adjourn p M = some (r, M') ∧ Rel2 N C' M' := by
  obtain ⟨hT, -, -, J, cr, hJ, hj, hn, -⟩ := id h
  have hc : C.1 12 1 = nI J := hn.1
  unfold f_A_adjourn f_M_adjourn
  rcases judge_cs hJ hc hj p with ⟨j, j1, rfl, j2, j3⟩ | ⟨j2, j3⟩
  · obtain ⟨d, d1, d2, d3, d4⟩ := jd_get hn j1
    rw [if_pos j2, if_pos j3, aA13 j (by omega), heardMany_eq (by omega) d4]
    simp only [Option.bind_some]
    obtain ⟨M', m1, m2, m3⟩ := adj_loop (show j < 3 by omega) (nI (p6 d.2.2.2.2.1)) 6 0 ip_FU M rfl (by decide)
    refine ⟨_, _, M', rfl, ?_, ?_⟩
    · rw [d3.2.2.2.1, ibc_ck _ d1.2.2.2.1]
      exact m1
    · unfold f_J_unhear
      have hM : ip_Fr wJM M M' := by
        intro a b hab
        refine ⟨?_, by rw [m2]⟩
        rw [m3 a b, if_neg, if_neg]
        · rintro ⟨rfl, -⟩
          have : ip_wt wJM 44 b = true := ip_wa_wt rfl
          rw [this] at hab
          cases hab
        · rintro ⟨rfl, -⟩
          have : ip_wt wJM 42 b = true := ip_wa_wt rfl
          rw [this] at hab
          cases hab
      have wj := fun k => ip_wa_wt (k := k) (waJC j (by omega))
      refine h.judges (ip_Fr.upI (wj 5) (ip_Fr.upI (wj 4) (ip_Fr.upI (wj 3) ip_Fr.rf))) hM ?_ ?_
      · rw [upI_ne _ _ (by omega), upI_ne _ _ (by omega), upI_ne _ _ (by omega), m3 30 19, if_neg (by omega), if_neg (by omega)]
        exact hn.2.2.1
      · intro J' q1 q2 q3
        refine RJs_set (j := j) q3 (fun i _ hij => ?_) (fun i _ hij => ?_) (unhr d) (unhr_ok d1) (wy_unhr d1 d2) ?_ ?_
        · funext k
          rw [upI_ne _ _ (by omega), upI_ne _ _ (by omega), upI_ne _ _ (by omega)]
        · refine ⟨?_, ?_, fun f hf => ?_, fun f hf => ?_⟩
          · rw [m3, if_neg (by omega), if_neg (by omega)]
          · rw [m3, if_neg (by omega), if_neg (by omega)]
          · rw [m3, if_neg (by omega), if_neg (by omega)]
          · rw [m3, if_neg (by omega), if_neg (by omega)]
        · obtain ⟨a0, a1, a2, a3, a4, a5⟩ := d3
          refine ⟨?_, ?_, ?_, ?_, ?_, ?_⟩
          · rw [upI_ne _ _ (by omega), upI_ne _ _ (by omega), upI_ne _ _ (by omega)]; exact a0
          · rw [upI_ne _ _ (by omega), upI_ne _ _ (by omega), upI_ne _ _ (by omega)]; exact a1
          · rw [upI_ne _ _ (by omega), upI_ne _ _ (by omega), upI_ne _ _ (by omega)]; exact a2
          · rw [upI_ne _ _ (by omega), upI_ne _ _ (by omega), upI_same]; rfl
          · rw [upI_ne _ _ (by omega), upI_same]; rfl
          · rw [upI_same]; rfl
        · obtain ⟨a0, a1, a2, a3⟩ := d4
          refine ⟨?_, ?_, fun f hf => ?_, fun f hf => ?_⟩
          · rw [m3, if_neg (by omega), if_neg (by omega)]; exact a0
          · rw [m3, if_pos (by omega)]; rfl
          · rw [m3, if_neg (by omega), if_neg (by omega)]; exact a2 f hf
          · rw [m3, if_neg (by omega), if_pos (by omega)]
            unfold kf unhr
            simp
  · rw [j2, j3]
    exact ⟨_, _, _, rfl, rfl, h⟩
/-! ===== ask, learn ===== -/
theorem jM_u {M : ip_St} {j c k : Nat} {v : Int32} {d : JD} (hc : c = 30 ∨ c = 12) (h : jM M 42 43 44 j d) : jM (ip_upI M c k v) 42 43 44 j d := by
  obtain ⟨a0, a1, a2, a3⟩ := h
  refine ⟨?_, ?_, fun f hf => ?_, fun f hf => ?_⟩
  · rw [upI_ne _ _ (by omega)]; exact a0
  · rw [upI_ne _ _ (by omega)]; exact a1
  · rw [upI_ne _ _ (by omega)]; exact a2 f hf
  · rw [upI_ne _ _ (by omega)]; exact a3 f hf
theorem jC_u {C : ip_St} {j c k : Nat} {v : Int32} {d : JD} (hc : c < 14) (h : jC C (14 + j) d) : jC (ip_upI C c k v) (14 + j) d := by
  obtain ⟨a0, a1, a2, a3, a4, a5⟩ := h
  refine ⟨?_, ?_, ?_, ?_, ?_, ?_⟩
  · rw [upI_ne _ _ (by omega)]; exact a0
  · rw [upI_ne _ _ (by omega)]; exact a1
  · rw [upI_ne _ _ (by omega)]; exact a2
  · rw [upI_ne _ _ (by omega)]; exact a3
  · rw [upI_ne _ _ (by omega)]; exact a4
  · rw [upI_ne _ _ (by omega)]; exact a5
theorem jC_hear {C : ip_St} {c f : Nat} {d : JD} (h : jC C c d) (b : Bool) : jC (ip_upI (ip_upI C c 3 (nI (d.2.2.2.2.1 ||| 2 ^ f))) c 4 (nI (d.2.2.2.2.2 ||| b1 b * 2 ^ f))) c (hear d f b) := by
  obtain ⟨a0, a1, a2, a3, a4, a5⟩ := h
  refine ⟨?_, ?_, ?_, ?_, ?_, ?_⟩
  · rw [upI_ne _ _ (by omega), upI_ne _ _ (by omega)]; exact a0
  · rw [upI_ne _ _ (by omega), upI_ne _ _ (by omega)]; exact a1
  · rw [upI_ne _ _ (by omega), upI_ne _ _ (by omega)]; exact a2
  · rw [upI_ne _ _ (by omega), upI_same]; rfl
  · rw [upI_same]; rfl
  · rw [upI_ne _ _ (by omega), upI_ne _ _ (by omega)]; exact a5
theorem jC_lern {C : ip_St} {c f : Nat} {d : JD} (h : jC C c d) (b : Bool) : jC (ip_upI (ip_upI C c 1 (nI (d.2.2.1 ||| 2 ^ f))) c 2 (nI (d.2.2.2.1 ||| b1 b * 2 ^ f))) c (lern d f b) := by
  obtain ⟨a0, a1, a2, a3, a4, a5⟩ := h
  refine ⟨?_, ?_, ?_, ?_, ?_, ?_⟩
  · rw [upI_ne _ _ (by omega), upI_ne _ _ (by omega)]; exact a0
  · rw [upI_ne _ _ (by omega), upI_same]; rfl
  · rw [upI_same]; rfl
  · rw [upI_ne _ _ (by omega), upI_ne _ _ (by omega)]; exact a3
  · rw [upI_ne _ _ (by omega), upI_ne _ _ (by omega)]; exact a4
  · rw [upI_ne _ _ (by omega), upI_ne _ _ (by omega)]; exact a5
theorem jM_hear {M : ip_St} {j f : Nat} {d : JD} (hd : jok d) (hf : f < 6) (h0 : d.2.2.2.2.1.testBit f = false) (h : jM M 42 43 44 j d) (b : Bool) : jM (ip_upI M 44 (6 * j + f) (b2 b)) 42 43 44 j (hear d f b) := by
  obtain ⟨a0, a1, a2, a3⟩ := h
  refine ⟨?_, ?_, fun i hi => ?_, fun i hi => ?_⟩
  · rw [upI_ne _ _ (by omega)]; exact a0
  · rw [upI_ne _ _ (by omega)]; exact a1
  · rw [upI_ne _ _ (by omega)]; exact a2 i hi
  · have e : kf (hear d f b).2.2.2.2.1 (hear d f b).2.2.2.2.2 i = if i = f then b2 b else kf d.2.2.2.2.1 d.2.2.2.2.2 i := kf_set hf hd.2.2.2.2.2.2 h0 b i
    rw [e, upI_f]
    by_cases q : i = f
    · rw [if_pos q, if_pos (by omega)]
    · rw [if_neg q, if_neg (by omega)]
      exact a3 i hi
theorem jM_lern {M : ip_St} {j f : Nat} {d : JD} (hd : jok d) (hf : f < 6) (h0 : d.2.2.1.testBit f = false) (h : jM M 42 43 44 j d) (b : Bool) : jM (ip_upI M 43 (6 * j + f) (b2 b)) 42 43 44 j (lern d f b) := by
  obtain ⟨a0, a1, a2, a3⟩ := h
  refine ⟨?_, ?_, fun i hi => ?_, fun i hi => ?_⟩
  · rw [upI_ne _ _ (by omega)]; exact a0
  · rw [upI_ne _ _ (by omega)]; exact a1
  · have e : kf (lern d f b).2.2.1 (lern d f b).2.2.2.1 i = if i = f then b2 b else kf d.2.2.1 d.2.2.2.1 i := kf_set hf hd.2.2.2.2.2.1 h0 b i
    rw [e, upI_f]
    by_cases q : i = f
    · rw [if_pos q, if_pos (by omega)]
    · rw [if_neg q, if_neg (by omega)]
      exact a2 i hi
  · rw [upI_ne _ _ (by omega)]; exact a3 i hi
theorem ask115_eq {C : ip_St} {c f : Nat} {d : JD} (hd : jok d) (hf : f < 6) (hc : jC C c d) (b : Bool) : f_A_ask_115 (nI f) (b2 b) c C = some (nI (pc (wy (hear d f b))), ip_upI (ip_upI C c 3 (nI (d.2.2.2.2.1 ||| 2 ^ f))) c 4 (nI (d.2.2.2.2.2 ||| b1 b * 2 ^ f))) := by
  unfold f_A_ask_115
  rw [upI_ne _ _ (show ¬ (c = c ∧ 4 = 3) by omega), hc.2.2.2.1, hc.2.2.2.2.1, shl_ck f hf, ishl_b b hf, nI_or, nI_or, worlds_eq (hear_ok hd hf b) (jC_hear hc b)]
  simp only [Option.bind_some]
  rw [bitCount_eq]
theorem ask123_eq {M : ip_St} {j f : Nat} {d : JD} (hT : RT M) (hj : j < 3) (hd : jok d) (hf : f < 6) (h0 : d.2.2.2.2.1.testBit f = false) (hm : jM M 42 43 44 j d) (b : Bool) : f_M_ask_123 (nI j) (nI f) (b2 b) M = some (nI (pc (wy (hear d f b))), ip_upI M 44 (6 * j + f) (b2 b)) := by
  unfold f_M_ask_123
  rw [i6, wI_at (n := 18) rfl (by omega)]
  simp only [Option.bind_some]
  rw [waysOf_eq (M := ip_upI M 44 (6 * j + f) (b2 b)) hT hj (hear_ok hd hf b) (jM_hear hd hf h0 hm b)]
  simp only [Option.bind_some]
  rw [ones_eq]
  rfl
theorem op_ask {N : Nat} {C M : ip_St} (h : Rel2 N C M) (p1 p2 p3 : Int32) : ∃ r C' M', f_A_ask p1 p2 p3 C = some (r, C') ∧ f_M_ask p1 p2 p3 M = some (r, M') ∧ Rel2 N C' M' := by
  obtain ⟨hT, -, -, J, cr, hJ, hj, hn, -⟩ := id h
  have hc : C.1 12 1 = nI J := hn.1
  have hq : C.1 12 4 = M.1 30 19 := hn.2.2.1
  unfold f_A_ask f_M_ask
  rcases judge_cs hJ hc hj p1 with ⟨j, j1, rfl, j2, j3⟩ | ⟨j2, j3⟩
  · rw [j2, j3]
    simp only [Bool.true_eq_false, if_false]
    rcases fact_cs p2 with ⟨f, f1, rfl, f2, f3⟩ | ⟨f2, f3⟩
    · rw [if_pos f2, if_pos f3]
      rcases ans_cs p3 with ⟨b, rfl, a2, a3⟩ | ⟨a2, a3⟩
      · rw [if_pos a2, if_pos a3]
        obtain ⟨d, d1, d2, d3, d4⟩ := jd_get hn j1
        have hj3 : j < 3 := by omega
        rw [aA13 j hj3, i6, aI_at (n := 18) rfl (by omega), d4.2.2.2 f f1]
        simp only [Option.bind_some]
        rw [d3.2.2.2.1]
        cases hb : d.2.2.2.2.1.testBit f with
        | true =>
          rw [if_pos ((bit_nI f1 d1.2.2.2.1).mpr hb), if_neg (fun q => by rw [kf_neg, hb] at q; cases q)]
          exact ⟨_, _, _, rfl, rfl, h⟩
        | false =>
          rw [if_neg (fun q => by rw [bit_nI f1 d1.2.2.2.1, hb] at q; cases q), if_pos ((kf_neg _ _ _).mpr hb), worlds_eq d1 d3, waysOf_eq hT hj3 d1 d4, i2, nI_1, aI_at (n := 6) rfl (by omega), d4.1, d3.1]
          simp only [Option.bind_some]
          have ws : f_A_whereSaid (nI d.1) (nI f) (b2 b) = some (f_M_keptIf (srow d.1 f) (b2 b)) := whereSaid_eq d1.1 f1 b
          rw [saysRow_eq hT d1.1 f1, ws]
          simp only [Option.bind_some]
          by_cases hz : wy d &&& f_M_keptIf (srow d.1 f) (b2 b) = 0
          · rw [if_pos hz, if_pos hz]
            exact ⟨_, _, _, rfl, rfl, h⟩
          · rw [if_neg hz, if_neg hz, aI_at (n := 6) rfl (by omega), aI_at (n := 6) rfl (by omega)]
            simp only [Option.bind_some]
            have e3 := jC_u (c := 12) (k := 4) (v := C.1 12 4 + 1) (by decide) d3
            have e4 := jM_u (c := 30) (k := 19) (v := M.1 30 19 + 1) (Or.inl rfl) d4
            rw [e3.1, e3.2.2.2.2.2, e4.1, e4.2.1]
            have wj := fun k => ip_wa_wt (k := k) (waJC j (by omega))
            have go : ∃ r C' M', f_A_ask_115 (nI f) (b2 b) (14 + j) (ip_upI C 12 4 (C.1 12 4 + 1)) = some (r, C') ∧ f_M_ask_123 (nI j) (nI f) (b2 b) (ip_upI M 30 19 (M.1 30 19 + 1)) = some (r, M') ∧ Rel2 N C' M' := by
              rw [ask115_eq d1 f1 e3 b, ask123_eq (M := ip_upI M 30 19 (M.1 30 19 + 1)) hT hj3 d1 f1 hb e4 b]
              refine ⟨_, _, _, rfl, rfl, ?_⟩
              refine h.judges (ip_Fr.upI (wj 4) (ip_Fr.upI (wj 3) (ip_Fr.upI rfl ip_Fr.rf))) (ip_Fr.upI (ip_wa_wt rfl) (ip_Fr.upI rfl ip_Fr.rf)) ?_ ?_
              · rw [upI_ne _ _ (by omega), upI_ne _ _ (by omega), upI_same, upI_ne _ _ (by omega), upI_same, hq]
              · intro J' q1 q2 q3
                refine RJs_set (j := j) q3 (fun i _ hij => ?_) (fun i _ hij => ?_) (hear d f b) (hear_ok d1 f1 b) (by rw [wy_hear d1 f1 hb b]; exact hz) (jC_hear e3 b) (jM_hear d1 f1 hb e4 b)
                · funext k
                  rw [upI_ne _ _ (by omega), upI_ne _ _ (by omega), upI_ne _ _ (by omega)]
                · refine ⟨?_, ?_, fun f hf => ?_, fun f hf => ?_⟩
                  · rw [upI_ne _ _ (by omega), upI_ne _ _ (by omega)]
                  · rw [upI_ne _ _ (by omega), upI_ne _ _ (by omega)]
                  · rw [upI_ne _ _ (by omega), upI_ne _ _ (by omega)]
                  · rw [upI_ne _ _ (by omega), upI_ne _ _ (by omega)]
            by_cases hk : nI d.1 = 2
            · rw [if_pos hk, if_pos hk]
              by_cases hco : b2 d.2.1 = 0
              · rw [if_pos hco, if_pos hco, wI_at (n := 6) rfl (by omega)]
                refine ⟨_, _, _, rfl, rfl, ?_⟩
                refine h.judges (ip_Fr.upI (wj 5) (ip_Fr.upI rfl ip_Fr.rf)) (ip_Fr.upI (ip_wa_wt rfl) (ip_Fr.upI rfl ip_Fr.rf)) ?_ ?_
                · rw [upI_ne _ _ (by omega), upI_same, upI_ne _ _ (by omega), upI_same, hq]
                · intro J' q1 q2 q3
                  refine RJs_set (j := j) q3 (fun i _ hij => ?_) (fun i _ hij => ?_) (cogh d) (cogh_ok d1) (by rw [wy_cogh d1]; exact d2) ?_ ?_
                  · funext k
                    rw [upI_ne _ _ (by omega), upI_ne _ _ (by omega)]
                  · refine ⟨?_, ?_, fun f hf => ?_, fun f hf => ?_⟩
                    · rw [upI_ne _ _ (by omega), upI_ne _ _ (by omega)]
                    · rw [upI_ne _ _ (by omega), upI_ne _ _ (by omega)]
                    · rw [upI_ne _ _ (by omega), upI_ne _ _ (by omega)]
                    · rw [upI_ne _ _ (by omega), upI_ne _ _ (by omega)]
                  · obtain ⟨a0, a1, a2, a3, a4, a5⟩ := e3
                    refine ⟨?_, ?_, ?_, ?_, ?_, ?_⟩
                    · rw [upI_ne _ _ (by omega)]; exact a0
                    · rw [upI_ne _ _ (by omega)]; exact a1
                    · rw [upI_ne _ _ (by omega)]; exact a2
                    · rw [upI_ne _ _ (by omega)]; exact a3
                    · rw [upI_ne _ _ (by omega)]; exact a4
                    · rw [upI_same]; rfl
                  · obtain ⟨a0, a1, a2, a3⟩ := e4
                    refine ⟨?_, ?_, fun f hf => ?_, fun f hf => ?_⟩
                    · rw [upI_ne _ _ (by omega)]; exact a0
                    · rw [upI_same]; rfl
                    · rw [upI_ne _ _ (by omega)]; exact a2 f hf
                    · rw [upI_ne _ _ (by omega)]; exact a3 f hf
              · rw [if_neg hco, if_neg hco]
                exact go
            · rw [if_neg hk, if_neg hk]
              exact go
      · rw [a2, a3]
        exact ⟨_, _, _, rfl, rfl, h⟩
    · rw [f2, f3]
      exact ⟨_, _, _, rfl, rfl, h⟩
  · rw [j2, j3]
    exact ⟨_, _, _, rfl, rfl, h⟩
theorem know_eq {C : ip_St} {c f : Nat} {d : JD} (hf : f < 6) (hc : jC C c d) (b : Bool) : f_J_know c (nI f) (b2 b) C = ip_upI (ip_upI C c 1 (nI (d.2.2.1 ||| 2 ^ f))) c 2 (nI (d.2.2.2.1 ||| b1 b * 2 ^ f)) := by
  unfold f_J_know
  rw [upI_ne _ _ (show ¬ (c = c ∧ 2 = 1) by omega), hc.2.1, hc.2.2.1, shl_ck f hf, ishl_b b hf, nI_or, nI_or]
theorem op_learn {N : Nat} {C M : ip_St} (h : Rel2 N C M) (p1 p2 p3 : Int32) : ∃ r C' M', f_A_learn p1 p2 p3 C = some (r, C') ∧ f_M_learn p1 p2 p3 M = some (r, M') ∧ Rel2 N C' M' := by
  obtain ⟨hT, -, -, J, cr, hJ, hj, hn, -⟩ := id h
  have hc : C.1 12 1 = nI J := hn.1
  have hq : C.1 12 4 = M.1 30 19 := hn.2.2.1
  unfold f_A_learn f_M_learn
  rcases judge_cs hJ hc hj p1 with ⟨j, j1, rfl, j2, j3⟩ | ⟨j2, j3⟩
  · rw [j2, j3]
    simp only [Bool.true_eq_false, if_false]
    rcases fact_cs p2 with ⟨f, f1, rfl, f2, f3⟩ | ⟨f2, f3⟩
    · rw [if_pos f2, if_pos f3]
      rcases ans_cs p3 with ⟨b, rfl, a2, a3⟩ | ⟨a2, a3⟩
      · rw [if_pos a2, if_pos a3]
        obtain ⟨d, d1, d2, d3, d4⟩ := jd_get hn j1
        have hj3 : j < 3 := by omega
        rw [aA13 j hj3, i6, aI_at (n := 18) rfl (by omega), d4.2.2.1 f f1]
        simp only [Option.bind_some]
        rw [d3.2.1]
        cases hb : d.2.2.1.testBit f with
        | true =>
          rw [if_pos ((bit_nI f1 d1.2.1).mpr hb), if_neg (fun q => by rw [kf_neg, hb] at q; cases q)]
          exact ⟨_, _, _, rfl, rfl, h⟩
        | false =>
          rw [if_neg (fun q => by rw [bit_nI f1 d1.2.1, hb] at q; cases q), if_pos ((kf_neg _ _ _).mpr hb), worlds_eq d1 d3, waysOf_eq hT hj3 d1 d4, rowOf_eq hT f1, where_eq f1]
          simp only [Option.bind_some]
          by_cases hz : wy d &&& f_M_keptIf (rw0 f) (b2 b) = 0
          · rw [if_pos hz, if_pos hz]
            exact ⟨_, _, _, rfl, rfl, h⟩
          · rw [if_neg hz, if_neg hz, wI_at (n := 18) rfl (by omega), know_eq f1 d3 b]
            simp only [Option.bind_some]
            rw [worlds_eq (lern_ok d1 f1 b) (jC_lern d3 b), waysOf_eq (M := ip_upI M 43 (6 * j + f) (b2 b)) hT hj3 (lern_ok d1 f1 b) (jM_lern d1 f1 hb d4 b)]
            simp only [Option.bind_some]
            rw [ones_eq, bitCount_eq]
            have wj := fun k => ip_wa_wt (k := k) (waJC j (by omega))
            refine ⟨_, _, _, rfl, rfl, ?_⟩
            refine h.judges (ip_Fr.upI (wj 2) (ip_Fr.upI (wj 1) ip_Fr.rf)) (ip_Fr.upI (ip_wa_wt rfl) ip_Fr.rf) ?_ ?_
            · rw [upI_ne _ _ (by omega), upI_ne _ _ (by omega), upI_ne _ _ (by omega), hq]
            · intro J' q1 q2 q3
              refine RJs_set (j := j) q3 (fun i _ hij => ?_) (fun i _ hij => ?_) (lern d f b) (lern_ok d1 f1 b) (by rw [wy_lern d1 f1 hb b]; exact hz) (jC_lern d3 b) (jM_lern d1 f1 hb d4 b)
              · funext k
                rw [upI_ne _ _ (by omega), upI_ne _ _ (by omega)]
              · refine ⟨?_, ?_, fun f hf => ?_, fun f hf => ?_⟩
                · rw [upI_ne _ _ (by omega)]
                · rw [upI_ne _ _ (by omega)]
                · rw [upI_ne _ _ (by omega)]
                · rw [upI_ne _ _ (by omega)]
      · rw [a2, a3]
        exact ⟨_, _, _, rfl, rfl, h⟩
    · rw [f2, f3]
      exact ⟨_, _, _, rfl, rfl, h⟩
  · rw [j2, j3]
    exact ⟨_, _, _, rfl, rfl, h⟩
