/-! ===== rows of worlds: facts, what kinds say, pins, frees ===== -/
def rw0 (f : Nat) : Int64 := ip_tL 55 f
theorem lb_rw_ck : ∀ f, f < 6 → ∀ w, w < 64 → lb (rw0 f) w = w.testBit f := by decide +kernel
theorem cL_ck : ∀ f, f < 6 → ip_cL (nI f) = some (rw0 f) := by decide +kernel
def fixN (k : Nat) : Nat := [0, 56, 0, 7, 39].getD k 0
def ansN (k : Nat) : Nat := [0, 56, 0, 0, 32].getD k 0
theorem cI56 : ∀ k, k < 5 → ip_cI 56 (nI k) = some (nI (fixN k)) := by decide +kernel
theorem cI57 : ∀ k, k < 5 → ip_cI 57 (nI k) = some (nI (ansN k)) := by decide +kernel
theorem fix_lt : ∀ k, k < 5 → fixN k < 64 ∧ ansN k < 64 := by decide +kernel
def sayN (k w : Nat) : Nat := (w &&& (63 - fixN k)) ||| ansN k
theorem sayN_lt : ∀ k, k < 5 → ∀ w, w < 64 → sayN k w < 64 := by decide +kernel
theorem saysBy_ck : ∀ k, k < 5 → ∀ w, w < 64 → f_M_saysBy (nI k) (nI w) = nI (sayN k w) := by decide +kernel
def srow (k f : Nat) : Int64 := if (fixN k).testBit f then (if (ansN k).testBit f then -1 else 0) else rw0 f
theorem lb_srow : ∀ k, k < 5 → ∀ f, f < 6 → ∀ w, w < 64 → lb (srow k f) w = (sayN k w).testBit f := by decide +kernel
theorem whereSaid_ck : ∀ k, k < 5 → ∀ f, f < 6 → f_A_whereSaid (nI k) (nI f) 0 = some (f_M_keptIf (srow k f) 0) ∧ f_A_whereSaid (nI k) (nI f) 1 = some (f_M_keptIf (srow k f) 1) := by decide +kernel
theorem whereSaid_eq {k f : Nat} (hk : k < 5) (hf : f < 6) (b : Bool) : f_A_whereSaid (nI k) (nI f) (if b then 1 else 0) = some (f_M_keptIf (srow k f) (if b then 1 else 0)) := by
  cases b
  · exact (whereSaid_ck k hk f hf).1
  · exact (whereSaid_ck k hk f hf).2
theorem where_eq {f : Nat} (hf : f < 6) (b : Int32) : f_A_where (nI f) b = some (f_M_keptIf (rw0 f) b) := by
  unfold f_A_where f_M_keptIf
  rw [cL_ck f hf]
  by_cases h : b = 1
  · rw [if_pos h, if_pos h]
    rfl
  · rw [if_neg h, if_neg h]
    rfl
theorem lb_kept (r : Int64) (b : Bool) {w : Nat} (hw : w < 64) : lb (f_M_keptIf r (if b then 1 else 0)) w = (lb r w == b) := by
  unfold f_M_keptIf
  cases b
  · rw [if_neg (by decide), lb_not r hw]
    cases lb r w <;> rfl
  · rw [if_pos (by decide)]
    cases lb r w <;> rfl
-- a fact turned into its contrary
def trn (x : Int64) (f : Nat) : Int64 := (ip_lushr (x &&& rw0 f) (nI (2 ^ f))) ||| (ip_lshl (x &&& (rw0 f ^^^ (-1))) (nI (2 ^ f)))
theorem shl_ck : ∀ f, f < 6 → ip_ishl 1 (nI f) = nI (2 ^ f) := by decide +kernel
theorem turned_eq (x : Int64) {f : Nat} (hf : f < 6) : f_A_turned x (nI f) = some (trn x f) := by
  unfold f_A_turned trn
  rw [cL_ck f hf, shl_ck f hf]
  rfl
theorem flip_a : ∀ f, f < 6 → ∀ w, w < 64 → w ^^^ 2 ^ f < 64 ∧ 2 ^ f < 64 := by decide +kernel
theorem flip_b : ∀ f, f < 6 → ∀ w, w < 64 → w.testBit f = false → w ^^^ 2 ^ f = 2 ^ f + w ∧ 2 ^ f + w < 64 ∧ (2 ^ f + w).testBit f = true := by decide +kernel
theorem flip_c : ∀ f, f < 6 → ∀ w, w < 64 → w.testBit f = false → 2 ^ f ≤ w → (w - 2 ^ f).testBit f = true := by decide +kernel
theorem flip_d : ∀ f, f < 6 → ∀ w, w < 64 → w.testBit f = true → w ^^^ 2 ^ f = w - 2 ^ f ∧ 2 ^ f ≤ w ∧ (w - 2 ^ f).testBit f = false := by decide +kernel
theorem flip_e : ∀ f, f < 6 → ∀ w, w < 64 → w.testBit f = true → 2 ^ f + w < 64 → (2 ^ f + w).testBit f = false := by decide +kernel
theorem lb_trn (x : Int64) {f : Nat} (hf : f < 6) {w : Nat} (hw : w < 64) : lb (trn x f) w = lb x (w ^^^ 2 ^ f) := by
  unfold trn
  obtain ⟨h1, h2⟩ := flip_a f hf w hw
  have hs : w - 2 ^ f < 64 := Nat.lt_of_le_of_lt (Nat.sub_le _ _) hw
  rw [lb_or, lb_lushr _ h2, lb_lshl _ h2 hw, lb_and, lb_and]
  cases hb : w.testBit f with
  | false =>
    obtain ⟨a1, a2, a3⟩ := flip_b f hf w hw hb
    rw [lb_rw_ck f hf _ a2, a3, a1]
    by_cases hle : 2 ^ f ≤ w
    · rw [lb_not _ hs, lb_rw_ck f hf _ hs, flip_c f hf w hw hb hle]
      simp
    · simp [hle]
  | true =>
    obtain ⟨a1, a2, a4⟩ := flip_d f hf w hw hb
    rw [lb_not _ hs, lb_rw_ck f hf (w - 2 ^ f) hs, a4, a1]
    by_cases hlt : 2 ^ f + w < 64
    · rw [lb_rw_ck f hf _ hlt, flip_e f hf w hw hb hlt]
      simp [a2]
    · rw [lb_ge x (Nat.le_of_not_lt hlt)]
      simp [a2]
/-- a world with a fact set -/
def stb (w f : Nat) (b : Bool) : Nat := if w.testBit f = b then w else w ^^^ 2 ^ f
theorem stb_lt {w f : Nat} (hf : f < 6) (hw : w < 64) (b : Bool) : stb w f b < 64 := by
  unfold stb
  split
  · exact hw
  · exact (flip_a f hf w hw).1
def pin (x : Int64) (f : Nat) (b : Bool) : Int64 := (x &&& f_M_keptIf (rw0 f) (if b then 1 else 0)) ||| trn (x &&& f_M_keptIf (rw0 f) (if b then 1 else 0)) f
theorem pinned_eq (x : Int64) {f : Nat} (hf : f < 6) (b : Bool) : f_A_pinned x (nI f) (if b then 1 else 0) = some (pin x f b) := by
  unfold f_A_pinned pin
  rw [where_eq hf]
  show ((f_A_turned _ (nI f)).bind fun zv4 => some _) = _
  rw [turned_eq _ hf]
  rfl
theorem flip_bit : ∀ f, f < 6 → ∀ w, w < 64 → (w ^^^ 2 ^ f).testBit f = !(w.testBit f) := by decide +kernel
theorem lb_pin (x : Int64) {f : Nat} (hf : f < 6) (b : Bool) {w : Nat} (hw : w < 64) : lb (pin x f b) w = lb x (stb w f b) := by
  unfold pin stb
  have hx := (flip_a f hf w hw).1
  rw [lb_or, lb_trn _ hf hw, lb_and, lb_and, lb_kept _ b hw, lb_kept _ b hx, lb_rw_ck f hf w hw, lb_rw_ck f hf _ hx, flip_bit f hf w hw]
  cases h : w.testBit f <;> cases b <;> simp
-- frees
def sayF (k : Nat) : Nat → Nat → Nat → Nat
  | 0, _, w => w
  | d + 1, f, w => if (fixN k).testBit f then stb (sayF k d (f + 1) w) f ((ansN k).testBit f) else sayF k d (f + 1) w
theorem sayF_ck : ∀ k, k < 5 → ∀ w, w < 64 → sayF k 6 0 w = sayN k w := by decide +kernel
theorem sayF_lt {k : Nat} : ∀ (d f w : Nat), f + d ≤ 6 → w < 64 → sayF k d f w < 64
  | 0, _, _, _, h => h
  | d + 1, f, w, hf, h => by
    have := sayF_lt (k := k) d (f + 1) w (by omega) h
    simp only [sayF]
    split
    · exact stb_lt (by omega) this _
    · exact this
theorem freed_loop {k : Nat} (hk : k < 5) : ∀ (d f n : Nat) (x : Int64), f + d = 6 → d < n → ∃ y, f_A_freed_5 n (nI k) x (nI f) = some y ∧ ∀ w, w < 64 → lb y w = lb x (sayF k d f w) := by
  intro d
  induction d with
  | zero =>
    intro f n x hf hn
    obtain rfl : f = 6 := by omega
    obtain ⟨m, rfl⟩ : ∃ m, n = m + 1 := ⟨n - 1, by omega⟩
    refine ⟨x, ?_, fun w _ => rfl⟩
    rw [f_A_freed_5, if_pos (by decide)]
  | succ d ih =>
    intro f n x hf hn
    obtain ⟨m, rfl⟩ : ∃ m, n = m + 1 := ⟨n - 1, by omega⟩
    have hl := fix_lt k hk
    rw [f_A_freed_5, if_neg (by rw [show (6 : Int32) = nI 6 from rfl, nI_leI (by omega) (by omega)]; omega), cI56 k hk, cI57 k hk]
    simp only [Option.bind_some]
    rw [nI_bit (by omega) (by omega), nI_bit (by omega) (by omega)]
    cases hfx : (fixN k).testBit f with
    | true =>
      rw [if_pos (by decide), pinned_eq x (by omega) ((ansN k).testBit f)]
      simp only [Option.bind_some]
      obtain ⟨y, h1, h2⟩ := ih (f + 1) m (pin x f ((ansN k).testBit f)) (by omega) (by omega)
      refine ⟨y, by rw [nI_1]; exact h1, fun w hw => ?_⟩
      rw [h2 w hw, lb_pin x (by omega) _ (sayF_lt d (f + 1) w (by omega) hw)]
      simp only [sayF, hfx, if_true]
    | false =>
      rw [if_neg (by decide)]
      obtain ⟨y, h1, h2⟩ := ih (f + 1) m x (by omega) (by omega)
      refine ⟨y, by rw [nI_1]; exact h1, fun w hw => ?_⟩
      rw [h2 w hw]
      simp only [sayF, hfx, Bool.false_eq_true, if_false]
theorem freed_ex {k : Nat} (hk : k < 5) (x : Int64) : ∃ y, f_A_freed (nI k) x = some y ∧ ∀ w, w < 64 → lb y w = lb x (sayN k w) := by
  obtain ⟨y, h1, h2⟩ := freed_loop hk 6 0 ip_FU x rfl (by decide)
  exact ⟨y, h1, fun w hw => by rw [h2 w hw, sayF_ck k hk w hw]⟩
theorem freesRow_loop {k : Nat} (hk : k < 5) (x : Int64) : ∀ (d v n : Nat) (row : Int64), v + d = 64 → d < n → (∀ w, w < 64 → lb row w = (decide (w < v) && lb x (sayN k w))) → ∃ y, f_M_freesRow_5 n (nI k) x row (nI v) = some y ∧ ∀ w, w < 64 → lb y w = lb x (sayN k w) := by
  intro d
  induction d with
  | zero =>
    intro v n row hv hn hr
    obtain rfl : v = 64 := by omega
    obtain ⟨m, rfl⟩ : ∃ m, n = m + 1 := ⟨n - 1, by omega⟩
    refine ⟨row, ?_, fun w hw => by rw [hr w hw]; simp [hw]⟩
    rw [f_M_freesRow_5, if_pos (by decide)]
  | succ d ih =>
    intro v n row hv hn hr
    obtain ⟨m, rfl⟩ : ∃ m, n = m + 1 := ⟨n - 1, by omega⟩
    have hs := sayN_lt k hk v (by omega)
    rw [f_M_freesRow_5, if_neg (by rw [show (64 : Int32) = nI 64 from rfl, nI_leI (by omega) (by omega)]; omega), saysBy_ck k hk v (by omega), lb_shr1 x hs, nI_1]
    cases hb : lb x (sayN k v) with
    | true =>
      rw [if_pos (by decide)]
      refine ih (v + 1) m _ (by omega) (by omega) (fun w hw => ?_)
      rw [lb_or, hr w hw, lb_shl1 (by omega) hw]
      by_cases h : w = v
      · subst h
        simp [hb]
      · by_cases h2 : w < v
        · have h3 : w < v + 1 := by omega
          simp [h, h2, h3]
        · have h3 : ¬ w < v + 1 := by omega
          simp [h, h2, h3]
    | false =>
      rw [if_neg (by decide)]
      refine ih (v + 1) m _ (by omega) (by omega) (fun w hw => ?_)
      rw [lb_or, hr w hw, lb_0]
      by_cases h : w = v
      · subst h
        simp [hb]
      · by_cases h2 : w < v
        · have h3 : w < v + 1 := by omega
          simp [h2, h3]
        · have h3 : ¬ w < v + 1 := by omega
          simp [h2, h3]
theorem freesRow_ex {k : Nat} (hk : k < 5) (x : Int64) : ∃ y, f_M_freesRow (nI k) x = some y ∧ ∀ w, w < 64 → lb y w = lb x (sayN k w) := freesRow_loop hk x 64 0 ip_FU 0 rfl (by decide) (fun w hw => by rw [lb_0]; simp)
/-- the worlds in which one of a kind frees by a law -/
def fre (k : Nat) (x : Int64) : Int64 := (f_M_freesRow (nI k) x).getD 0
theorem freesRow_eq {k : Nat} (hk : k < 5) (x : Int64) : f_M_freesRow (nI k) x = some (fre k x) := by
  obtain ⟨y, h1, -⟩ := freesRow_ex hk x
  unfold fre
  rw [h1]
  rfl
theorem lb_fre {k : Nat} (hk : k < 5) (x : Int64) {w : Nat} (hw : w < 64) : lb (fre k x) w = lb x (sayN k w) := by
  obtain ⟨y, h1, h2⟩ := freesRow_ex hk x
  unfold fre
  rw [h1]
  exact h2 w hw
theorem freed_eq {k : Nat} (hk : k < 5) (x : Int64) : f_A_freed (nI k) x = some (fre k x) := by
  obtain ⟨y, h1, h2⟩ := freed_ex hk x
  rw [h1]
  congr 1
  apply lb_ext
  intro w hw
  rw [h2 w hw, lb_fre hk x hw]
