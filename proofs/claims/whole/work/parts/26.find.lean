/-! ===== by which facts alone it is free: sureWays, freeBy; find ===== -/
def agr (s w v : Nat) : Prop := ∀ f, f < 6 → s.testBit f = true → w.testBit f = v.testBit f
def agk (s k w v : Nat) : Prop := ∀ f, f < 6 → (k ≤ f ∨ s.testBit f = true) → w.testBit f = v.testBit f
theorem eq6 {w v : Nat} (hw : w < 64) (hv : v < 64) (h : ∀ f, f < 6 → w.testBit f = v.testBit f) : w = v := by
  apply Nat.eq_of_testBit_eq
  intro i
  rcases Nat.lt_or_ge i 6 with q | q
  · exact h i q
  · have hp : 2 ^ 6 ≤ 2 ^ i := Nat.pow_le_pow_right (by decide) q
    rw [Nat.testBit_lt_two_pow (Nat.lt_of_lt_of_le hw hp), Nat.testBit_lt_two_pow (Nat.lt_of_lt_of_le hv hp)]
theorem flip_tb (w f i : Nat) : (w ^^^ 2 ^ f).testBit i = (w.testBit i ^^ decide (f = i)) := by rw [Nat.testBit_xor, Nat.testBit_two_pow]
theorem sure_loop {W D0 : Int64} {s : Nat} (hs : s < 64) : ∀ (e k n : Nat) (D : Int64), k + e = 6 → e < n → (∀ w, w < 64 → (lb D w = true ↔ ∃ v, v < 64 ∧ lb D0 v = true ∧ agk s k w v)) → ∃ y, f_A_sureWays_12 n W (nI s) D (nI k) = some y ∧ ∀ w, w < 64 → (lb y w = true ↔ lb W w = true ∧ ¬ ∃ v, v < 64 ∧ lb D0 v = true ∧ agr s w v) := by
  intro e
  induction e with
  | zero =>
    intro k n D hk hn hD
    obtain rfl : k = 6 := by omega
    obtain ⟨m, rfl⟩ : ∃ m, n = m + 1 := ⟨n - 1, by omega⟩
    rw [f_A_sureWays_12, if_pos (by decide)]
    refine ⟨_, rfl, fun w hw => ?_⟩
    rw [lb_and, lb_not _ hw, Bool.and_eq_true, Bool.not_eq_true', ← Bool.not_eq_true, hD w hw]
    have : (∃ v, v < 64 ∧ lb D0 v = true ∧ agk s 6 w v) ↔ ∃ v, v < 64 ∧ lb D0 v = true ∧ agr s w v := by
      constructor
      · rintro ⟨v, v1, v2, v3⟩
        exact ⟨v, v1, v2, fun f hf q => v3 f hf (Or.inr q)⟩
      · rintro ⟨v, v1, v2, v3⟩
        exact ⟨v, v1, v2, fun f hf q => v3 f hf (q.resolve_left (by omega))⟩
    rw [this]
  | succ e ih =>
    intro k n D hk hn hD
    obtain ⟨m, rfl⟩ : ∃ m, n = m + 1 := ⟨n - 1, by omega⟩
    have hk6 : k < 6 := by omega
    rw [f_A_sureWays_12, if_neg (by rw [show (6 : Int32) = nI 6 from rfl, nI_leI (by omega) (by omega)]; omega), nI_bit (by omega) (by omega), nI_1]
    cases hb : s.testBit k with
    | true =>
      rw [if_neg (by decide)]
      refine ih (k + 1) m D (by omega) (by omega) (fun w hw => ?_)
      rw [hD w hw]
      constructor
      · rintro ⟨v, v1, v2, v3⟩
        exact ⟨v, v1, v2, fun f hf q => v3 f hf (q.imp (fun z => by omega) id)⟩
      · rintro ⟨v, v1, v2, v3⟩
        refine ⟨v, v1, v2, fun f hf q => v3 f hf ?_⟩
        rcases q with q | q
        · by_cases z : f = k
          · right; rw [z]; exact hb
          · left; omega
        · exact Or.inr q
    | false =>
      rw [if_pos (by decide), turned_eq _ hk6]
      simp only [Option.bind_some]
      refine ih (k + 1) m _ (by omega) (by omega) (fun w hw => ?_)
      have hx := (flip_a k hk6 w hw).1
      rw [lb_or, lb_trn _ hk6 hw, Bool.or_eq_true, hD w hw, hD _ hx]
      constructor
      · rintro (⟨v, v1, v2, v3⟩ | ⟨v, v1, v2, v3⟩)
        · exact ⟨v, v1, v2, fun f hf q => v3 f hf (q.imp (fun z => by omega) id)⟩
        · refine ⟨v, v1, v2, fun f hf q => ?_⟩
          have hne : ¬ k = f := fun z => by
            subst z
            rcases q with q | q
            · omega
            · rw [hb] at q; cases q
          have := v3 f hf (q.imp (fun z => by omega) id)
          rw [flip_tb] at this
          simpa [hne] using this
      · rintro ⟨v, v1, v2, v3⟩
        by_cases hq : w.testBit k = v.testBit k
        · left
          refine ⟨v, v1, v2, fun f hf q => ?_⟩
          by_cases z : f = k
          · rw [z]; exact hq
          · exact v3 f hf (q.imp (fun z => by omega) id)
        · right
          refine ⟨v, v1, v2, fun f hf q => ?_⟩
          rw [flip_tb]
          by_cases z : f = k
          · subst z
            cases ha : w.testBit f <;> cases hc : v.testBit f <;> simp_all
          · have z2 : ¬ k = f := fun y => z y.symm
            have := v3 f hf (q.imp (fun z => by omega) id)
            simpa [z2] using this
theorem sure_ex (W F : Int64) {s : Nat} (hs : s < 64) : ∃ y, f_A_sureWays W F (nI s) = some y ∧ ∀ w, w < 64 → (lb y w = true ↔ lb W w = true ∧ ¬ ∃ v, v < 64 ∧ lb (W &&& (F ^^^ (-1))) v = true ∧ agr s w v) := by
  refine sure_loop (D0 := W &&& (F ^^^ (-1))) hs 6 0 ip_FU _ rfl (by decide) (fun w hw => ?_)
  constructor
  · intro h
    exact ⟨w, hw, h, fun f hf q => rfl⟩
  · rintro ⟨v, v1, v2, v3⟩
    have : w = v := eq6 hw v1 (fun f hf => v3 f hf (Or.inl (Nat.zero_le f)))
    rw [this]
    exact v2
def sw (W F : Int64) (s : Nat) : Int64 := (f_A_sureWays W F (nI s)).getD 0
theorem sureWays_eq (W F : Int64) {s : Nat} (hs : s < 64) : f_A_sureWays W F (nI s) = some (sw W F s) := by
  obtain ⟨y, h1, -⟩ := sure_ex W F hs
  unfold sw
  rw [h1]
  rfl
theorem lb_sw (W F : Int64) {s : Nat} (hs : s < 64) {w : Nat} (hw : w < 64) : lb (sw W F s) w = true ↔ lb W w = true ∧ ∀ v, v < 64 → lb W v = true → agr s w v → lb F v = true := by
  obtain ⟨y, h1, h2⟩ := sure_ex W F hs
  have : sw W F s = y := by unfold sw; rw [h1]; rfl
  rw [this, h2 w hw]
  constructor
  · rintro ⟨a, b⟩
    refine ⟨a, fun v v1 v2 v3 => ?_⟩
    cases hF : lb F v with
    | true => rfl
    | false =>
      exfalso
      apply b
      refine ⟨v, v1, ?_, v3⟩
      rw [lb_and, lb_not _ v1, v2, hF]
      rfl
  · rintro ⟨a, b⟩
    refine ⟨a, ?_⟩
    rintro ⟨v, v1, v2, v3⟩
    rw [lb_and, lb_not _ v1, Bool.and_eq_true] at v2
    have := b v v1 v2.1 v3
    rw [this] at v2
    cases v2.2
def alk (W : Int64) (s w : Nat) : Nat → Int64
  | 0 => W
  | f + 1 => alk W s w f &&& (if s.testBit f then f_M_keptIf (rw0 f) (b2 (w.testBit f)) else -1)
theorem lb_alk (W : Int64) (s w : Nat) {v : Nat} (hv : v < 64) : ∀ n, n ≤ 6 → (lb (alk W s w n) v = true ↔ lb W v = true ∧ ∀ f, f < n → s.testBit f = true → w.testBit f = v.testBit f) := by
  intro n
  induction n with
  | zero =>
    intro _
    exact ⟨fun h => ⟨h, fun f hf => absurd hf (Nat.not_lt_zero f)⟩, fun h => h.1⟩
  | succ n ih =>
    intro hn
    simp only [alk]
    rw [lb_and, Bool.and_eq_true, ih (by omega)]
    have e1 : lb (if s.testBit n = true then f_M_keptIf (rw0 n) (b2 (w.testBit n)) else -1) v = true ↔ (s.testBit n = true → w.testBit n = v.testBit n) := by
      cases hb : s.testBit n with
      | false => simp [lb_m1 hv]
      | true =>
        simp only [if_true, forall_const]
        rw [lb_kb _ _ hv, lb_rw_ck n (by omega) v hv]
        cases w.testBit n <;> cases v.testBit n <;> simp
    rw [e1]
    constructor
    · rintro ⟨⟨a, b⟩, c⟩
      refine ⟨a, fun f hf => ?_⟩
      rcases Nat.lt_or_ge f n with q | q
      · exact b f q
      · obtain rfl : f = n := by omega
        exact c
    · rintro ⟨a, b⟩
      exact ⟨⟨a, fun f hf => b f (by omega)⟩, b n (by omega)⟩
def srq (W F : Int64) (s w : Nat) : Bool := lb W w && decide (alk W s w 6 &&& (F ^^^ (-1)) = 0)
theorem srq_sw (W F : Int64) {s : Nat} (hs : s < 64) {w : Nat} (hw : w < 64) : lb (sw W F s) w = srq W F s w := by
  have h := lb_sw W F hs hw
  have h2 : srq W F s w = true ↔ lb W w = true ∧ ∀ v, v < 64 → lb W v = true → agr s w v → lb F v = true := by
    unfold srq
    rw [Bool.and_eq_true, decide_eq_true_eq, lb_zero]
    constructor
    · rintro ⟨a, b⟩
      refine ⟨a, fun v v1 v2 v3 => ?_⟩
      have := b v v1
      rw [lb_and, lb_not _ v1, (lb_alk W s w v1 6 (Nat.le_refl 6)).mpr ⟨v2, v3⟩] at this
      simpa using this
    · rintro ⟨a, b⟩
      refine ⟨a, fun v v1 => ?_⟩
      rw [lb_and, lb_not _ v1]
      cases hq : lb (alk W s w 6) v with
      | false => rfl
      | true =>
        obtain ⟨g1, g2⟩ := (lb_alk W s w v1 6 (Nat.le_refl 6)).mp hq
        rw [b v v1 g1 g2]
        rfl
  rw [Bool.eq_iff_iff, h, h2]
def srN (W F : Int64) (s : Nat) : Nat := ct (srq W F s) 64
theorem pc_sw (W F : Int64) {s : Nat} (hs : s < 64) : pc (sw W F s) = srN W F s := by
  unfold pc srN
  exact ct_cong (fun k hk => srq_sw W F hs hk)
theorem srN_le (W F : Int64) (s : Nat) : srN W F s ≤ 64 := ct_le _ 64
theorem freeBy_in {M : ip_St} (hT : RT M) (k6 : Int64 → Int64 → Int32 → Int32 → Int32 → ip_St → Option Int32) {W F : Int64} {s w : Nat} (hs : s < 64) (hw : w < 64) (x : Int32) : ∀ (e f n : Nat), f + e = 6 → e < n → f_M_freeBy_19 k6 n W F (nI s) x (nI w) (alk W s w f) (nI f) M = k6 W F (nI s) (x + (if srq W F s w then 1 else 0)) (nI (w + 1)) M := by
  intro e
  induction e with
  | zero =>
    intro f n hf hn
    obtain rfl : f = 6 := by omega
    obtain ⟨m, rfl⟩ : ∃ m, n = m + 1 := ⟨n - 1, by omega⟩
    rw [f_M_freeBy_19, if_pos (by decide), lb_shr1 W hw, nI_1]
    unfold srq
    cases h1 : lb W w with
    | false =>
      rw [if_neg (by decide)]
      simp
    | true =>
      rw [if_pos (by decide)]
      by_cases h2 : alk W s w 6 &&& (F ^^^ (-1)) = 0
      · rw [if_pos h2, decide_eq_true h2]
        rfl
      · rw [if_neg h2, decide_eq_false h2]
        rfl
  | succ e ih =>
    intro f n hf hn
    obtain ⟨m, rfl⟩ : ∃ m, n = m + 1 := ⟨n - 1, by omega⟩
    have ih' := ih (f + 1) m (by omega) (by omega)
    rw [f_M_freeBy_19, if_neg (by rw [show (6 : Int32) = nI 6 from rfl, nI_leI (by omega) (by omega)]; omega), nI_bitM (by omega) (by omega), nI_bitM (by omega) (by omega), nI_1]
    simp only [alk] at ih'
    cases hb : s.testBit f with
    | true =>
      rw [if_pos (by decide), rowOf_eq hT (by omega)]
      simp only [Option.bind_some]
      rw [hb] at ih'
      simp only [if_true] at ih'
      exact ih'
    | false =>
      rw [if_neg (by decide)]
      rw [hb] at ih'
      simp only [Bool.false_eq_true, if_false] at ih'
      exact ih'
theorem freeBy_loop {M : ip_St} (hT : RT M) {W F : Int64} {s : Nat} (hs : s < 64) : ∀ (e w n : Nat), w + e = 64 → e < n → f_M_freeBy_6 n W F (nI s) (nI (ct (srq W F s) w)) (nI w) M = some (nI (srN W F s)) := by
  intro e
  induction e with
  | zero =>
    intro w n hw hn
    obtain rfl : w = 64 := by omega
    obtain ⟨m, rfl⟩ : ∃ m, n = m + 1 := ⟨n - 1, by omega⟩
    rw [f_M_freeBy_6, if_pos (by decide)]
    rfl
  | succ e ih =>
    intro w n hw hn
    obtain ⟨m, rfl⟩ : ∃ m, n = m + 1 := ⟨n - 1, by omega⟩
    have ih' := ih (w + 1) m (by omega) (by omega)
    rw [f_M_freeBy_6, if_neg (by rw [show (64 : Int32) = nI 64 from rfl, nI_leI (by omega) (by omega)]; omega)]
    have h0 := freeBy_in hT (f_M_freeBy_6 m) (W := W) (F := F) hs (show w < 64 by omega) (nI (ct (srq W F s) w)) 6 0 ip_FU rfl (by decide)
    rw [nI_addI] at h0
    exact h0.trans ih'
theorem freeBy_eq {M : ip_St} (hT : RT M) (W F : Int64) {s : Nat} (hs : s < 64) : f_M_freeBy W F (nI s) M = some (nI (srN W F s)) := freeBy_loop hT hs 64 0 ip_FU rfl (by decide)
theorem onesIn_eq : ∀ n, n < 64 → f_M_onesIn (nI n) = some (nI (p6 n)) := by decide +kernel
-- find
def mayF (s T : Nat) : Nat → Nat → Bool → Bool
  | 0, _, m => m
  | e + 1, f, m => mayF s T e (f + 1) (m && !(s.testBit f && T.testBit f))
theorem mayF_ck : ∀ s, s < 64 → ∀ T, T < 64 → mayF s T 6 0 true = decide (s &&& T = 0) := by decide +kernel
theorem mayF_f (s T : Nat) : ∀ e f, mayF s T e f false = false := by
  intro e
  induction e with
  | zero => intro f; rfl
  | succ e ih =>
    intro f
    simp only [mayF, Bool.false_and]
    exact ih (f + 1)
abbrev K31 : Type := Int32 → Int32 → Int32 → Int64 → Int64 → Int32 → Int32 → Int32 → ip_St → Option Int32
theorem may_loop {M : ip_St} {j : Nat} {d : JD} (hj : j < 3) (hm : jM M 42 43 44 j d) (k31 : K31) (x2 x3 : Int32) (W F : Int64) (x8 x9 : Int32) {s : Nat} (hs : s < 64) : ∀ (e f n : Nat) (m : Bool), f + e = 6 → e < n → f_M_findOf_57 k31 n (nI j) x2 x3 W F x8 x9 (nI s) (b2 m) (nI f) M = if mayF s (d.2.2.1 ||| d.2.2.2.2.1) e f m then ((f_M_freeBy W F (nI s) M).bind fun zv4 => f_M_findOf_155 k31 (nI j) x2 x3 W F x8 x9 (nI s) zv4 M) else f_M_findOf_155 k31 (nI j) x2 x3 W F x8 x9 (nI s) (-1) M := by
  intro e
  induction e with
  | zero =>
    intro f n m hf hn
    obtain rfl : f = 6 := by omega
    obtain ⟨q, rfl⟩ : ∃ q, n = q + 1 := ⟨n - 1, by omega⟩
    rw [f_M_findOf_57, if_pos (by decide)]
    simp only [mayF]
    cases m
    · rw [if_pos (by decide)]
      rfl
    · rw [if_neg (by decide)]
      rfl
  | succ e ih =>
    intro f n m hf hn
    obtain ⟨q, rfl⟩ : ∃ q, n = q + 1 := ⟨n - 1, by omega⟩
    have step : ∀ t : Bool, t = (d.2.2.1 ||| d.2.2.2.2.1).testBit f → f_M_findOf_101 k31 (f_M_findOf_57 k31 q) (nI j) x2 x3 W F x8 x9 (nI s) (b2 m) (nI f) (b2 t) M = if mayF s (d.2.2.1 ||| d.2.2.2.2.1) (e + 1) f m then ((f_M_freeBy W F (nI s) M).bind fun zv4 => f_M_findOf_155 k31 (nI j) x2 x3 W F x8 x9 (nI s) zv4 M) else f_M_findOf_155 k31 (nI j) x2 x3 W F x8 x9 (nI s) (-1) M := by
      intro t ht
      have ih' := fun z => ih (f + 1) q z (by omega) (by omega)
      unfold f_M_findOf_101
      rw [nI_bitM (by omega) (by omega), nI_1]
      have em : mayF s (d.2.2.1 ||| d.2.2.2.2.1) (e + 1) f m = mayF s (d.2.2.1 ||| d.2.2.2.2.1) e (f + 1) (m && !(s.testBit f && t)) := by rw [ht]; rfl
      rw [em]
      cases m
      · rw [if_pos (by decide)]
        simp only [Bool.false_and]
        exact ih' false
      · rw [if_neg (by decide)]
        cases hb : s.testBit f
        · rw [if_pos (by decide)]
          simp only [Bool.false_and, Bool.not_false, Bool.and_true]
          exact ih' true
        · rw [if_neg (by decide)]
          cases t
          · rw [if_pos (by decide)]
            simp only [Bool.and_false, Bool.not_false, Bool.and_true]
            exact ih' true
          · rw [if_neg (by decide)]
            simp only [Bool.and_true, Bool.not_true, Bool.and_false]
            exact ih' false
    rw [f_M_findOf_57, if_neg (by rw [show (6 : Int32) = nI 6 from rfl, nI_leI (by omega) (by omega)]; omega), i6, aI_at (n := 18) rfl (by omega), aI_at (n := 18) rfl (by omega), hm.2.2.1 f (by omega), hm.2.2.2 f (by omega)]
    simp only [Option.bind_some]
    unfold f_M_findOf_96
    have ht : (d.2.2.1 ||| d.2.2.2.2.1).testBit f = (d.2.2.1.testBit f || d.2.2.2.2.1.testBit f) := Nat.testBit_or _ _ _
    by_cases h1 : kf d.2.2.1 d.2.2.2.1 f = -1
    · rw [if_pos h1]
      rw [kf_neg] at h1
      by_cases h2 : kf d.2.2.2.2.1 d.2.2.2.2.2 f = -1
      · rw [if_pos h2]
        rw [kf_neg] at h2
        exact step false (by rw [ht, h1, h2]; rfl)
      · rw [if_neg h2]
        rw [kf_neg] at h2
        have h2' : d.2.2.2.2.1.testBit f = true := by simpa using h2
        exact step true (by rw [ht, h1, h2']; rfl)
    · rw [if_neg h1]
      rw [kf_neg] at h1
      have h1' : d.2.2.1.testBit f = true := by simpa using h1
      exact step true (by rw [ht, h1']; rfl)
theorem nI_n1 {n : Nat} (h : n < 2 ^ 31) : ¬ nI n = -1 ∧ ¬ nI n < -1 := by
  have h1 := nI_toInt h
  have h2 : (-1 : Int32).toInt = -1 := rfl
  constructor
  · intro q
    rw [q, h2] at h1
    omega
  · intro q
    rw [Int32.lt_iff_toInt_lt, h1, h2] at q
    omega
theorem find_loop {C M : ip_St} {j : Nat} {d : JD} (hT : RT M) (hj : j < 3) (hd : jok d) (hm : jM M 42 43 44 j d) (x2 x3 : Int32) (W F : Int64) : ∀ (e s n n' b : Nat), s + e = 64 → e < n → e < n' → b < 64 → ∃ b', b' < 64 ∧ f_A_bestFind_53 n x2 W F (nI (d.2.2.1 ||| d.2.2.2.2.1)) (nI b) (nI (srN W F b)) (nI s) C = some (nI b') ∧ f_M_findOf_31 n' (nI j) x2 x3 W F (nI b) (nI (srN W F b)) (nI s) M = (if x3 = 0 then some (nI b') else some (nI (srN W F b'))) := by
  have hT6 : d.2.2.1 ||| d.2.2.2.2.1 < 64 := by
    have := @Nat.or_lt_two_pow d.2.2.1 d.2.2.2.2.1 6 hd.2.1 hd.2.2.2.1
    exact this
  intro e
  induction e with
  | zero =>
    intro s n n' b hs hn hn' hb
    obtain rfl : s = 64 := by omega
    obtain ⟨m, rfl⟩ : ∃ m, n = m + 1 := ⟨n - 1, by omega⟩
    obtain ⟨m', rfl⟩ : ∃ m, n' = m + 1 := ⟨n' - 1, by omega⟩
    rw [f_A_bestFind_53, if_pos (by decide), f_M_findOf_31, if_pos (by decide)]
    exact ⟨b, hb, rfl, rfl⟩
  | succ e ih =>
    intro s n n' b hs hn hn' hb
    obtain ⟨m, rfl⟩ : ∃ m, n = m + 1 := ⟨n - 1, by omega⟩
    obtain ⟨m', rfl⟩ : ∃ m, n' = m + 1 := ⟨n' - 1, by omega⟩
    have hs6 : s < 64 := by omega
    have h64 : ¬ (64 : Int32) ≤ nI s := by rw [show (64 : Int32) = nI 64 from rfl, nI_leI (by omega) (by omega)]; omega
    have hle := srN_le W F b
    have keep := ih (s + 1) m m' b (by omega) (by omega) (by omega) hb
    have take := ih (s + 1) m m' s (by omega) (by omega) (by omega) hs6
    have skip : f_M_findOf_155 (f_M_findOf_31 m') (nI j) x2 x3 W F (nI b) (nI (srN W F b)) (nI s) (-1) M = f_M_findOf_31 m' (nI j) x2 x3 W F (nI b) (nI (srN W F b)) (nI (s + 1)) M := by
      unfold f_M_findOf_155
      obtain ⟨z1, z2⟩ := nI_n1 (show srN W F b < 2 ^ 31 by omega)
      rw [if_neg z2, if_neg (fun q => z1 q.symm), nI_1]
    have hand : nI (s &&& (d.2.2.1 ||| d.2.2.2.2.1)) = 0 ↔ s &&& (d.2.2.1 ||| d.2.2.2.2.1) = 0 := by
      have : s &&& (d.2.2.1 ||| d.2.2.2.2.1) ≤ s := Nat.and_le_left
      rw [show (0 : Int32) = nI 0 from rfl, nI_eq (by omega) (by omega)]
    rw [f_A_bestFind_53, if_neg h64, f_M_findOf_31, if_neg h64, onesIn_eq s hs6, ibc_ck s hs6, nI_and, nI_1]
    simp only [Option.bind_some]
    have e0 : (0 : Int32) = b2 false := rfl
    have e1 : (1 : Int32) = b2 true := rfl
    have f0 : (0 : Int32) = nI 0 := rfl
    have lp := fun z => may_loop hj hm (f_M_findOf_31 m') x2 x3 W F (nI b) (nI (srN W F b)) hs6 6 0 ip_FU z rfl (by decide)
    have lp0 : f_M_findOf_57 (f_M_findOf_31 m') ip_FU (nI j) x2 x3 W F (nI b) (nI (srN W F b)) (nI s) 0 0 M = f_M_findOf_31 m' (nI j) x2 x3 W F (nI b) (nI (srN W F b)) (nI (s + 1)) M := by
      have := lp false
      rw [mayF_f] at this
      rw [← skip]
      exact this
    have lp1 := lp true
    rw [mayF_ck s hs6 _ hT6] at lp1
    by_cases hq : s &&& (d.2.2.1 ||| d.2.2.2.2.1) = 0
    · rw [if_pos (hand.mpr hq)]
      by_cases hx : x2 < nI (p6 s)
      · rw [if_pos hx, if_pos hx, lp0]
        exact keep
      · rw [if_neg hx, if_neg hx, sureWays_eq W F hs6]
        simp only [Option.bind_some]
        rw [bitCount_eq, pc_sw W F hs6]
        have lp1' : f_M_findOf_57 (f_M_findOf_31 m') ip_FU (nI j) x2 x3 W F (nI b) (nI (srN W F b)) (nI s) 1 0 M = f_M_findOf_155 (f_M_findOf_31 m') (nI j) x2 x3 W F (nI b) (nI (srN W F b)) (nI s) (nI (srN W F s)) M := by
          refine (show _ = _ from lp1).trans ?_
          rw [decide_eq_true hq, if_pos rfl, freeBy_eq hT W F hs6]
          rfl
        rw [lp1']
        unfold f_M_findOf_155
        rw [onesIn_eq s hs6, onesIn_eq b hb, ibc_ck b hb, nI_1]
        simp only [Option.bind_some]
        by_cases g1 : nI (srN W F b) < nI (srN W F s)
        · rw [if_pos g1, if_pos g1]
          exact take
        · rw [if_neg g1, if_neg g1]
          by_cases g2 : nI (srN W F s) = nI (srN W F b)
          · rw [if_pos g2, if_pos g2]
            by_cases g3 : nI (p6 b) ≤ nI (p6 s)
            · rw [if_pos g3, if_pos g3]
              exact keep
            · rw [if_neg g3, if_neg g3]
              exact take
          · rw [if_neg g2, if_neg g2]
            exact keep
    · rw [if_neg (fun z => hq (hand.mp z))]
      have lp1' : f_M_findOf_57 (f_M_findOf_31 m') ip_FU (nI j) x2 x3 W F (nI b) (nI (srN W F b)) (nI s) 1 0 M = f_M_findOf_31 m' (nI j) x2 x3 W F (nI b) (nI (srN W F b)) (nI (s + 1)) M := by
        refine (show _ = _ from lp1).trans ?_
        rw [decide_eq_false hq, if_neg (by decide)]
        exact skip
      rw [lp1', lp0]
      split
      · exact keep
      · exact keep
theorem find_core {C M : ip_St} {J j : Nat} (hT : RT M) (hJ : J ≤ 3) (hn : RNow C M J) (hj : j < J) (p2 p3 : Int32) : ∃ r, ((f_A_bestFind (14 + j) p2 C).bind fun zv8 => (if p3 = 0 then some zv8 else ((f_J_worlds (14 + j) C).bind fun zv11 => ((f_A_freed (C.1 (14 + j) 0) (C.2 17 0)).bind fun zv13 => ((f_A_sureWays zv11 zv13 zv8).bind fun zv15 => some (f_G_bitCount zv15)))))) = some r ∧ f_M_findOf (nI j) p2 p3 M = some r := by
  obtain ⟨d, d1, d2, d3, d4⟩ := jd_get hn hj
  have hj3 : j < 3 := by omega
  have q1 := sureWays_eq (wy d) (fre d.1 (M.2 30 17)) (s := 0) (by omega)
  have q2 := freeBy_eq hT (wy d) (fre d.1 (M.2 30 17)) (s := 0) (by omega)
  have fl := find_loop (C := C) hT hj3 d1 d4 p2 p3 (wy d) (fre d.1 (M.2 30 17)) 63 1 ip_FU ip_FU 0 (by omega) (by rw [FU_eq]; omega) (by rw [FU_eq]; omega) (by omega)
  rw [show nI 0 = (0 : Int32) from rfl] at q1 q2
  rw [show nI 0 = (0 : Int32) from rfl, show nI 1 = (1 : Int32) from rfl] at fl
  obtain ⟨b, b1, b2', b3'⟩ := fl
  have A : f_A_bestFind (14 + j) p2 C = some (nI b) := by
    unfold f_A_bestFind
    rw [worlds_eq d1 d3, Option.bind_some, d3.1, law_eq hn (by omega), freed_eq d1.1, Option.bind_some, q1, Option.bind_some, d3.2.1, d3.2.2.2.1, nI_or, bitCount_eq, pc_sw _ _ (by omega)]
    exact b2'
  have B : f_M_findOf (nI j) p2 p3 M = (if p3 = 0 then some (nI b) else some (nI (srN (wy d) (fre d.1 (M.2 30 17)) b))) := by
    unfold f_M_findOf
    rw [waysOf_eq hT hj3 d1 d4, Option.bind_some, freesOf_eq hj3 d1 d4, Option.bind_some, q2, Option.bind_some]
    exact b3'
  rw [A, B, Option.bind_some]
  by_cases hp : p3 = 0
  · rw [if_pos hp, if_pos hp]
    exact ⟨_, rfl, rfl⟩
  · rw [if_neg hp, if_neg hp, worlds_eq d1 d3, Option.bind_some, d3.1, law_eq hn (by omega), freed_eq d1.1, Option.bind_some, sureWays_eq _ _ b1, Option.bind_some, bitCount_eq, pc_sw _ _ b1]
    exact ⟨_, rfl, rfl⟩
theorem op_find {N : Nat} {C M : ip_St} (h : Rel2 N C M) (p1 p2 p3 : Int32) : ∃ r, f_A_find p1 p2 p3 C = some r ∧ f_M_find p1 p2 p3 M = some r := by
  obtain ⟨hT, -, -, J, cr, hJ, hj, hn, -⟩ := id h
  have hc : C.1 12 1 = nI J := hn.1
  unfold f_A_find f_M_find
  rw [in_R p2 1 3 1 3 (by decide) (by decide), in_R p3 0 1 0 1 (by decide) (by decide)]
  rcases judge_cs hJ hc hj p1 with ⟨j, j1, rfl, j2, j3⟩ | ⟨j2, j3⟩
  · rw [if_pos j2, if_pos j3]
    by_cases g1 : p2 < 1
    · have : inR p2 (nI 1) (nI 3) = false := by
        unfold inR
        have : ¬ nI 1 ≤ p2 := nle32.mpr g1
        simp [this]
      rw [if_pos g1, if_pos this]
      exact ⟨_, rfl, rfl⟩
    · rw [if_neg g1]
      by_cases g2 : 3 < p2
      · have : inR p2 (nI 1) (nI 3) = false := by
          unfold inR
          have : ¬ p2 ≤ nI 3 := nle32.mpr g2
          simp [this]
        rw [if_pos g2, if_pos this]
        exact ⟨_, rfl, rfl⟩
      · have : inR p2 (nI 1) (nI 3) = true := by
          unfold inR
          have a1 : nI 1 ≤ p2 := nlt32.mp g1
          have a2 : p2 ≤ nI 3 := nlt32.mp g2
          simp [a1, a2]
        rw [if_neg g2, this, if_neg (show ¬ (true = false) by decide)]
        rcases num_cs p3 1 (by decide) with ⟨k, h1, h2, h3, h4, h5, h6⟩ | ⟨h1, h2⟩
        · rw [h3, if_neg h4, if_pos (show p3 ≤ 1 from h5), aA13 j (by omega), if_neg (show ¬ (true = false) by decide)]
          simp only [Option.bind_some]
          obtain ⟨r, r1, r2⟩ := find_core hT hJ hn j1 p2 p3
          exact ⟨r, r1, by rw [r2]; rfl⟩
        · rw [h1, if_pos rfl]
          rcases h2 with h2 | ⟨h2, h3, h4, h5, h6⟩
          · rw [if_pos h2]
            exact ⟨_, rfl, rfl⟩
          · rw [if_neg h2, if_neg (show ¬ p3 ≤ 1 from h3)]
            exact ⟨_, rfl, rfl⟩
  · rw [j2, j3]
    exact ⟨_, rfl, rfl⟩
