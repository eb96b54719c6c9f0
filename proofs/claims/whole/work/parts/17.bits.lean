/-! ===== bits of a long, of an int ===== -/
def lb (x : Int64) (w : Nat) : Bool := x.toBitVec.getLsbD w
theorem lb_ext {x y : Int64} (h : ∀ w, w < 64 → lb x w = lb y w) : x = y := by
  apply Int64.toBitVec_inj.mp
  apply BitVec.eq_of_getLsbD_eq
  intro i hi
  exact h i hi
theorem lb_and (x y : Int64) (w : Nat) : lb (x &&& y) w = (lb x w && lb y w) := by simp [lb]
theorem lb_or (x y : Int64) (w : Nat) : lb (x ||| y) w = (lb x w || lb y w) := by simp [lb]
theorem lb_xor (x y : Int64) (w : Nat) : lb (x ^^^ y) w = (lb x w ^^ lb y w) := by simp [lb]
theorem lb_m1 {w : Nat} (h : w < 64) : lb (-1) w = true := by
  have : ∀ w, w < 64 → lb (-1) w = true := by decide +kernel
  exact this w h
theorem lb_0 (w : Nat) : lb 0 w = false := by simp [lb]
theorem lb_not (x : Int64) {w : Nat} (h : w < 64) : lb (x ^^^ (-1)) w = !(lb x w) := by
  rw [lb_xor, lb_m1 h]
  simp
theorem lb_ge (x : Int64) {w : Nat} (h : 64 ≤ w) : lb x w = false := by
  unfold lb
  exact BitVec.getLsbD_of_ge _ _ h
theorem lb_zero {x : Int64} : x = 0 ↔ ∀ w, w < 64 → lb x w = false := by
  constructor
  · intro h w _
    rw [h, lb_0]
  · intro h
    apply lb_ext
    intro w hw
    rw [h w hw, lb_0]
theorem sh64 : ∀ k, k < 64 → ((nI k).toInt64 &&& 63).toBitVec = BitVec.ofNat 64 k := by decide +kernel
theorem shu64 : ∀ k, k < 64 → ((nI k).toInt64.toUInt64 &&& Int64.toUInt64 63).toNat = k := by decide +kernel
theorem sh64n : ∀ k, k < 64 → (((nI k).toInt64 &&& 63).toBitVec.smod 64).toNat = k := by decide +kernel
theorem lb_lushr (x : Int64) {k : Nat} (hk : k < 64) (w : Nat) : lb (ip_lushr x (nI k)) w = lb x (k + w) := by
  unfold lb ip_lushr
  have h : ((x.toUInt64 >>> ((nI k).toInt64.toUInt64 &&& Int64.toUInt64 63)).toInt64).toBitVec = x.toBitVec >>> k := by
    show (x.toUInt64 >>> ((nI k).toInt64.toUInt64 &&& Int64.toUInt64 63)).toBitVec = _
    apply BitVec.eq_of_toNat_eq
    have h1 := shu64 k hk
    have : (x.toUInt64 >>> ((nI k).toInt64.toUInt64 &&& Int64.toUInt64 63)).toNat = x.toUInt64.toNat >>> (k % 64) := by
      rw [UInt64.toNat_shiftRight, h1]
    rw [Nat.mod_eq_of_lt hk] at this
    rw [BitVec.toNat_ushiftRight]
    exact this
  rw [h, BitVec.getLsbD_ushiftRight]
theorem lb_lshl (x : Int64) {k : Nat} (hk : k < 64) {w : Nat} (hw : w < 64) : lb (ip_lshl x (nI k)) w = (decide (k ≤ w) && lb x (w - k)) := by
  unfold lb ip_lshl
  rw [Int64.toBitVec_shiftLeft, BitVec.shiftLeft_eq', sh64n k hk, BitVec.getLsbD_shiftLeft]
  by_cases h : w < k
  · have h2 : ¬ k ≤ w := by omega
    simp [hw, h, h2]
  · have h2 : k ≤ w := by omega
    simp [hw, h, h2]
theorem lb_lshr (x : Int64) {k : Nat} (hk : k < 64) {w : Nat} (hw : k + w < 64) : lb (ip_lshr x (nI k)) w = lb x (k + w) := by
  unfold lb ip_lshr
  rw [Int64.toBitVec_shiftRight, BitVec.sshiftRight_eq', sh64n k hk, BitVec.getLsbD_sshiftRight]
  have h1 : ¬ 64 ≤ w := by omega
  simp [h1, hw]
/-- the lowest bit -/
theorem lb_one (x : Int64) : x &&& 1 = if lb x 0 then 1 else 0 := by
  apply lb_ext
  intro w hw
  rw [lb_and]
  have h1 : lb 1 w = decide (w = 0) := by
    have : ∀ w, w < 64 → lb 1 w = decide (w = 0) := by decide +kernel
    exact this w hw
  rw [h1]
  by_cases h0 : w = 0
  · subst h0
    cases h : lb x 0 with
    | true => simp [show lb 1 0 = true by decide]
    | false => simp [lb_0]
  · cases h : lb x 0 with
    | true => simp [h0, h1]
    | false => simp [h0, lb_0]
theorem lb_shr1 (x : Int64) {k : Nat} (hk : k < 64) : (ip_lshr x (nI k)) &&& 1 = if lb x k then 1 else 0 := by
  rw [lb_one, lb_lshr x hk (by omega), Nat.add_zero]
theorem lb_ushr1 (x : Int64) {k : Nat} (hk : k < 64) : (ip_lushr x (nI k)) &&& 1 = if lb x k then 1 else 0 := by
  rw [lb_one, lb_lushr x hk, Nat.add_zero]
theorem lb_shl1 {k : Nat} (hk : k < 64) {w : Nat} (hw : w < 64) : lb (ip_lshl 1 (nI k)) w = decide (w = k) := by
  rw [lb_lshl 1 hk hw]
  by_cases h : k ≤ w
  · have h1 : lb 1 (w - k) = decide (w - k = 0) := by
      have : ∀ w, w < 64 → lb 1 w = decide (w = 0) := by decide +kernel
      exact this (w - k) (by omega)
    rw [h1]
    by_cases h2 : w = k
    · simp [h2]
    · have : ¬ w - k = 0 := by omega
      simp [h, h2, this]
  · have : ¬ w = k := by omega
    simp [h, this]
-- ints
def ib (x : Int32) (i : Nat) : Bool := x.toBitVec.getLsbD i
theorem ib_nI (n i : Nat) (hn : n < 2 ^ 32) : ib (nI n) i = n.testBit i := by
  unfold ib nI
  show (BitVec.ofNat 32 n).getLsbD i = _
  rw [BitVec.getLsbD_ofNat]
  by_cases hi : i < 32
  · simp [hi]
  · have : n.testBit i = false := Nat.testBit_lt_two_pow (Nat.lt_of_lt_of_le hn (Nat.pow_le_pow_right (by decide) (by omega)))
    simp [hi, this]
theorem nI_and (a b : Nat) : nI a &&& nI b = nI (a &&& b) := by
  unfold nI
  apply Int32.toBitVec_inj.mp
  show BitVec.ofNat 32 a &&& BitVec.ofNat 32 b = BitVec.ofNat 32 (a &&& b)
  apply BitVec.eq_of_getLsbD_eq
  intro i hi
  simp [hi, Nat.testBit_and]
theorem nI_or (a b : Nat) : nI a ||| nI b = nI (a ||| b) := by
  unfold nI
  apply Int32.toBitVec_inj.mp
  show BitVec.ofNat 32 a ||| BitVec.ofNat 32 b = BitVec.ofNat 32 (a ||| b)
  apply BitVec.eq_of_getLsbD_eq
  intro i hi
  simp [hi, Nat.testBit_or]
theorem sh32n : ∀ k, k < 32 → ((nI k &&& 31).toBitVec.smod 32).toNat = k := by decide +kernel
theorem nI_shl {a k : Nat} (hk : k < 32) (ha : a * 2 ^ k < 2 ^ 32) : ip_ishl (nI a) (nI k) = nI (a * 2 ^ k) := by
  unfold ip_ishl
  exact pk_shlN (nI k &&& 31) k (sh32n k hk) ha
theorem nI_shr {a k : Nat} (hk : k < 32) (ha : a < 2 ^ 31) : ip_ishr (nI a) (nI k) = nI (a / 2 ^ k) := by
  unfold ip_ishr
  exact pk_shrN ha (nI k &&& 31) k (sh32n k hk)
theorem shu32 : ∀ k, k < 32 → (((nI k).toUInt32 &&& Int32.toUInt32 31).toBitVec % 32).toNat = k := by decide +kernel
theorem nI_ushr {a k : Nat} (hk : k < 32) (ha : a < 2 ^ 32) : ip_iushr (nI a) (nI k) = nI (a / 2 ^ k) := by
  unfold ip_iushr
  exact pk_ushrN ha (nI k) k (shu32 k hk)
theorem nI_bit {a k : Nat} (hk : k < 32) (ha : a < 2 ^ 32) : f_A_bit (nI a) (nI k) = if a.testBit k then 1 else 0 := by
  unfold f_A_bit
  rw [nI_ushr hk ha, show (1 : Int32) = nI 1 from rfl, nI_and, Nat.and_one_is_mod, Nat.testBit_eq_decide_div_mod_eq]
  rcases Nat.mod_two_eq_zero_or_one (a / 2 ^ k) with h | h <;> rw [h] <;> rfl
theorem nI_bitM {a k : Nat} (hk : k < 32) (ha : a < 2 ^ 31) : (ip_ishr (nI a) (nI k)) &&& 1 = if a.testBit k then 1 else 0 := by
  rw [nI_shr hk ha, show (1 : Int32) = nI 1 from rfl, nI_and, Nat.and_one_is_mod, Nat.testBit_eq_decide_div_mod_eq]
  rcases Nat.mod_two_eq_zero_or_one (a / 2 ^ k) with h | h <;> rw [h] <;> rfl
