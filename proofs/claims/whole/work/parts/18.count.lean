/-! ===== how many bits ===== -/
def ct (p : Nat → Bool) : Nat → Nat
  | 0 => 0
  | n + 1 => ct p n + (if p n then 1 else 0)
theorem ct_le (p : Nat → Bool) : ∀ n, ct p n ≤ n
  | 0 => Nat.le_refl _
  | n + 1 => by
    have := ct_le p n
    simp only [ct]
    split <;> omega
theorem ct_cong {p q : Nat → Bool} : ∀ {n : Nat}, (∀ k, k < n → p k = q k) → ct p n = ct q n
  | 0, _ => rfl
  | n + 1, h => by
    simp only [ct]
    rw [ct_cong (fun k hk => h k (by omega)), h n (by omega)]
theorem ct_sub {p q : Nat → Bool} : ∀ {n : Nat}, (∀ k, k < n → p k = true → q k = true) → ct p n ≤ ct q n
  | 0, _ => Nat.le_refl _
  | n + 1, h => by
    have h1 := ct_sub (p := p) (q := q) (n := n) (fun k hk => h k (by omega))
    have h2 := h n (by omega)
    simp only [ct]
    cases hp : p n with
    | false => simp; omega
    | true => rw [h2 hp]; simp; omega
theorem ct_zero {p : Nat → Bool} : ∀ {n : Nat}, ct p n = 0 ↔ ∀ k, k < n → p k = false
  | 0 => ⟨fun _ k hk => absurd hk (Nat.not_lt_zero k), fun _ => rfl⟩
  | n + 1 => by
    simp only [ct]
    constructor
    · intro h k hk
      have h1 : ct p n = 0 := by omega
      have h2 : p n = false := by
        cases hp : p n with
        | false => rfl
        | true => rw [hp] at h; simp at h
      rcases Nat.lt_or_ge k n with q | q
      · exact ct_zero.mp h1 k q
      · obtain rfl : k = n := by omega
        exact h2
    · intro h
      rw [ct_zero.mpr (fun k hk => h k (by omega)), h n (by omega)]
      rfl
theorem ct_add (p : Nat → Bool) (m : Nat) : ∀ n, ct p (m + n) = ct p m + ct (fun k => p (m + k)) n
  | 0 => rfl
  | n + 1 => by
    have := ct_add p m n
    show ct p ((m + n) + 1) = _
    simp only [ct]
    omega
def pc (x : Int64) : Nat := ct (lb x) 64
theorem pc_le (x : Int64) : pc x ≤ 64 := ct_le _ 64
theorem pc_zero {x : Int64} : pc x = 0 ↔ x = 0 := by
  unfold pc
  rw [ct_zero, lb_zero]
theorem nI_addI (a : Nat) (b : Bool) : nI a + (if b then 1 else 0) = nI (a + if b then 1 else 0) := by
  cases b
  · simp
  · simp only [if_true]; exact nI_1 a
theorem toI32_ite (b : Bool) : Int64.toInt32 (if b then 1 else 0) = if b then 1 else 0 := by cases b <;> rfl
theorem ones_loop (x : Int64) : ∀ (d k n : Nat), k + d = 64 → d < n → f_M_ones_4 n x (nI (ct (lb x) k)) (nI k) = some (nI (pc x)) := by
  intro d
  induction d with
  | zero =>
    intro k n hk hn
    obtain rfl : k = 64 := by omega
    obtain ⟨m, rfl⟩ : ∃ m, n = m + 1 := ⟨n - 1, by omega⟩
    rw [f_M_ones_4, if_pos (by decide)]
    rfl
  | succ d ih =>
    intro k n hk hn
    obtain ⟨m, rfl⟩ : ∃ m, n = m + 1 := ⟨n - 1, by omega⟩
    rw [f_M_ones_4, if_neg (by rw [show (64 : Int32) = nI 64 from rfl, nI_leI (by omega) (by omega)]; omega), lb_shr1 x (by omega), toI32_ite, nI_addI, nI_1]
    exact ih (k + 1) m (by omega) (by omega)
theorem ones_eq (x : Int64) : f_M_ones x = some (nI (pc x)) := ones_loop x 64 0 ip_FU rfl (by decide)
-- Long.bitCount, byte by byte
def bv : List Nat → Nat
  | [] => 0
  | b :: t => b + 256 * bv t
theorem and_by (a c m M : Nat) (ha : a < 256) (hm : m < 256) : (a + 256 * c) &&& (m + 256 * M) = (a &&& m) + 256 * (c &&& M) := by
  have h1 : ((a + 256 * c) &&& (m + 256 * M)) % 2 ^ 8 = a &&& m := by
    rw [Nat.and_mod_two_pow, show (a + 256 * c) % 2 ^ 8 = a by omega, show (m + 256 * M) % 2 ^ 8 = m by omega]
  have h2 : ((a + 256 * c) &&& (m + 256 * M)) / 2 ^ 8 = c &&& M := by
    rw [Nat.and_div_two_pow, show (a + 256 * c) / 2 ^ 8 = c by omega, show (m + 256 * M) / 2 ^ 8 = M by omega]
  omega
def bok (bs : List Nat) : Prop := ∀ b ∈ bs, b < 256
theorem and_bv (k : Nat) (hk : k < 256) : ∀ (bs : List Nat), bok bs → bv bs &&& bv (bs.map fun _ => k) = bv (bs.map fun b => b &&& k)
  | [], _ => by simp [bv]
  | b :: t, h => by
    have h1 := and_bv k hk t (fun x hx => h x (List.mem_cons_of_mem _ hx))
    simp only [bv, List.map_cons]
    rw [and_by b _ k _ (h b List.mem_cons_self) hk, h1]
def s1 (b : Nat) : Nat := b - (b / 2 &&& 85)
def s2 (b : Nat) : Nat := (b &&& 51) + (b / 4 &&& 51)
def s3 (b : Nat) : Nat := (b + b / 16) &&& 15
theorem sh1_ck : ∀ b, b < 256 → (b / 2 + 128) &&& 85 = b / 2 &&& 85 := by decide +kernel
theorem sh2_ck : ∀ b, b < 256 → ∀ j, j < 4 → (b / 4 + 64 * j) &&& 51 = b / 4 &&& 51 := by decide +kernel
theorem bv_sh1 : ∀ (bs : List Nat), bok bs → (bv bs / 2) &&& bv (bs.map fun _ => 85) = bv (bs.map fun b => b / 2 &&& 85)
  | [], _ => rfl
  | b :: t, h => by
    have h1 := bv_sh1 t (fun x hx => h x (List.mem_cons_of_mem _ hx))
    have hb := h b List.mem_cons_self
    simp only [bv, List.map_cons]
    rw [show (b + 256 * bv t) / 2 = (b / 2 + 128 * (bv t % 2)) + 256 * (bv t / 2) by omega, and_by _ _ 85 _ (by omega) (by omega), h1]
    rcases Nat.mod_two_eq_zero_or_one (bv t) with q | q
    · rw [q, Nat.mul_zero, Nat.add_zero]
    · rw [q, Nat.mul_one, sh1_ck b hb]
theorem bv_sh2 : ∀ (bs : List Nat), bok bs → (bv bs / 4) &&& bv (bs.map fun _ => 51) = bv (bs.map fun b => b / 4 &&& 51)
  | [], _ => rfl
  | b :: t, h => by
    have h1 := bv_sh2 t (fun x hx => h x (List.mem_cons_of_mem _ hx))
    have hb := h b List.mem_cons_self
    simp only [bv, List.map_cons]
    rw [show (b + 256 * bv t) / 4 = (b / 4 + 64 * (bv t % 4)) + 256 * (bv t / 4) by omega, and_by _ _ 51 _ (by omega) (by omega), h1, sh2_ck b hb (bv t % 4) (by omega)]
theorem bv_le {f g : Nat → Nat} : ∀ (bs : List Nat), (∀ b ∈ bs, f b ≤ g b) → bv (bs.map f) ≤ bv (bs.map g)
  | [], _ => Nat.le_refl _
  | b :: t, h => by
    have h1 := bv_le (f := f) (g := g) t (fun x hx => h x (List.mem_cons_of_mem _ hx))
    have := h b List.mem_cons_self
    simp only [bv, List.map_cons]
    omega
theorem bv_sub {f g : Nat → Nat} : ∀ (bs : List Nat), (∀ b ∈ bs, f b ≤ g b) → bv (bs.map g) - bv (bs.map f) = bv (bs.map fun b => g b - f b)
  | [], _ => rfl
  | b :: t, h => by
    have h1 := bv_sub (f := f) (g := g) t (fun x hx => h x (List.mem_cons_of_mem _ hx))
    have h2 := bv_le (f := f) (g := g) t (fun x hx => h x (List.mem_cons_of_mem _ hx))
    have := h b List.mem_cons_self
    simp only [bv, List.map_cons]
    omega
theorem bv_add {f g : Nat → Nat} : ∀ (bs : List Nat), bv (bs.map g) + bv (bs.map f) = bv (bs.map fun b => g b + f b)
  | [] => rfl
  | b :: t => by
    have h1 := bv_add (f := f) (g := g) t
    simp only [bv, List.map_cons]
    omega
theorem sh3_ck : ∀ b, b < 137 → ∀ j, j < 16 → (b + b / 16 + 16 * j) &&& 15 = (b + b / 16) &&& 15 := by decide +kernel
theorem bv_sh3 : ∀ (bs : List Nat), (∀ b ∈ bs, b ≤ 68 ∧ b % 16 ≤ 4) → (bv bs + bv bs / 16) &&& bv (bs.map fun _ => 15) = bv (bs.map s3)
  | [], _ => rfl
  | b :: t, h => by
    have h1 := bv_sh3 t (fun x hx => h x (List.mem_cons_of_mem _ hx))
    have hb := h b List.mem_cons_self
    have ht : bv t % 16 ≤ 4 := by
      cases t with
      | nil => simp [bv]
      | cons x u =>
        have := h x (by simp)
        simp only [bv]
        omega
    simp only [bv, List.map_cons]
    rw [show (b + 256 * bv t) + (b + 256 * bv t) / 16 = (b + b / 16 + 16 * (bv t % 16)) + 256 * (bv t + bv t / 16) by omega, and_by _ _ 15 _ (by omega) (by omega), h1, sh3_ck b (by omega) (bv t % 16) (by omega)]
    rfl
def p8 (b : Nat) : Nat := ct (fun k => b.testBit k) 8
theorem s123_ck : ∀ b, b < 256 → s3 (s2 (s1 b)) = p8 b ∧ s1 b < 256 ∧ s2 (s1 b) ≤ 68 ∧ s2 (s1 b) % 16 ≤ 4 ∧ p8 b ≤ 8 ∧ b / 2 &&& 85 ≤ b := by decide +kernel
def tn (x : Int64) : Nat := x.toBitVec.toNat
theorem tn_lt (x : Int64) : tn x < 18446744073709551616 := x.toBitVec.isLt
theorem tn_and (x y : Int64) : tn (x &&& y) = tn x &&& tn y := by simp [tn]
theorem tn_add (x y : Int64) : tn (x + y) = (tn x + tn y) % 18446744073709551616 := by simp [tn]
theorem tn_sub (x y : Int64) : tn (x - y) = (18446744073709551616 - tn y + tn x) % 18446744073709551616 := by
  unfold tn
  rw [Int64.toBitVec_sub, BitVec.toNat_sub]
theorem tn_shr (x : Int64) {k : Nat} (hk : k < 64) : tn (ip_lushr x (nI k)) = tn x / 2 ^ k := by
  unfold tn ip_lushr
  show (x.toUInt64 >>> ((nI k).toInt64.toUInt64 &&& Int64.toUInt64 63)).toNat = _
  rw [UInt64.toNat_shiftRight, shu64 k hk, Nat.mod_eq_of_lt hk, Nat.shiftRight_eq_div_pow]
  rfl
theorem tn_lb (x : Int64) (w : Nat) : lb x w = (tn x).testBit w := rfl
def g1 (x : Int64) : Int64 := x - ((ip_lushr x 1) &&& 6148914691236517205)
def g2 (x : Int64) : Int64 := (x &&& 3689348814741910323) + ((ip_lushr x 2) &&& 3689348814741910323)
def g3 (x : Int64) : Int64 := (x + ip_lushr x 4) &&& 1085102592571150095
def g4 (x : Int64) : Int64 := x + ip_lushr x 8
def g5 (x : Int64) : Int64 := x + ip_lushr x 16
def g6 (x : Int64) : Int64 := x + ip_lushr x 32
theorem bitCount_g (x : Int64) : f_G_bitCount x = (Int64.toInt32 (g6 (g5 (g4 (g3 (g2 (g1 x))))))) &&& 127 := rfl
def by8 (n : Nat) : List Nat := [n % 256, n / 256 % 256, n / 65536 % 256, n / 16777216 % 256, n / 4294967296 % 256, n / 1099511627776 % 256, n / 281474976710656 % 256, n / 72057594037927936 % 256]
theorem by8_eq {n : Nat} (h : n < 18446744073709551616) : bv (by8 n) = n := by
  simp only [by8, bv]
  omega
theorem by8_ok (n : Nat) : bok (by8 n) := by
  intro b hb
  simp only [by8, List.mem_cons, List.not_mem_nil, or_false] at hb
  omega
theorem bok_map {bs : List Nat} (h : bok bs) (f : Nat → Nat) (hf : ∀ b, b < 256 → f b < 256) : bok (bs.map f) := by
  intro b hb
  obtain ⟨a, ha, rfl⟩ := List.mem_map.mp hb
  exact hf a (h a ha)
theorem bv_lt : ∀ {bs : List Nat}, bok bs → bv bs < 256 ^ bs.length
  | [], _ => by simp [bv]
  | b :: t, h => by
    have h1 := bv_lt (bs := t) (fun x hx => h x (List.mem_cons_of_mem _ hx))
    have := h b List.mem_cons_self
    simp only [bv, List.length_cons, Nat.pow_succ]
    omega
theorem map8 (n : Nat) (f : Nat → Nat) : ((by8 n).map f).length = 8 := by simp [by8]
theorem rep8 (n k : Nat) : (by8 n).map (fun _ => k) = [k, k, k, k, k, k, k, k] := rfl
theorem repm (n k : Nat) (f : Nat → Nat) : ((by8 n).map f).map (fun _ => k) = [k, k, k, k, k, k, k, k] := rfl
theorem tn_g1 (x : Int64) : tn (g1 x) = bv ((by8 (tn x)).map s1) := by
  unfold g1
  have hx := tn_lt x
  have ok := by8_ok (tn x)
  rw [tn_sub, tn_and, show (1 : Int32) = nI 1 from rfl, tn_shr x (by decide)]
  have e1 : (tn x / 2 ^ 1 &&& tn 6148914691236517205) = bv ((by8 (tn x)).map fun b => b / 2 &&& 85) := by
    have := bv_sh1 (by8 (tn x)) ok
    rw [by8_eq hx, rep8] at this
    exact this
  rw [e1]
  have h2 : ∀ b ∈ by8 (tn x), b / 2 &&& 85 ≤ id b := fun b hb => (s123_ck b (ok b hb)).2.2.2.2.2
  have h3 := bv_sub (f := fun b => b / 2 &&& 85) (g := id) (by8 (tn x)) h2
  have h4 := bv_le (f := fun b => b / 2 &&& 85) (g := id) (by8 (tn x)) h2
  rw [List.map_id, by8_eq hx] at h3 h4
  have h5 : bv ((by8 (tn x)).map s1) = tn x - bv ((by8 (tn x)).map fun b => b / 2 &&& 85) := h3.symm
  rw [h5]
  omega
theorem tn_g2 {y : Int64} {n : Nat} (hy : tn y = bv ((by8 n).map s1)) : tn (g2 y) = bv ((by8 n).map fun b => s2 (s1 b)) := by
  unfold g2
  have ok0 := by8_ok n
  have ok : bok ((by8 n).map s1) := bok_map ok0 s1 (fun b hb => (s123_ck b hb).2.1)
  rw [tn_add, tn_and, tn_and, show (2 : Int32) = nI 2 from rfl, tn_shr y (by decide), hy]
  have e1 : (bv ((by8 n).map s1) / 2 ^ 2 &&& tn 3689348814741910323) = bv (((by8 n).map s1).map fun b => b / 4 &&& 51) := by
    have := bv_sh2 _ ok
    rw [repm] at this
    exact this
  have e2 : (bv ((by8 n).map s1) &&& tn 3689348814741910323) = bv (((by8 n).map s1).map fun b => b &&& 51) := by
    have := and_bv 51 (by decide) _ ok
    rw [repm] at this
    exact this
  rw [e1, e2, bv_add, List.map_map]
  have hlt : bv ((by8 n).map ((fun b => (b &&& 51) + (b / 4 &&& 51)) ∘ s1)) < 256 ^ 8 := by
    have := bv_lt (bok_map ok0 ((fun b => (b &&& 51) + (b / 4 &&& 51)) ∘ s1) (fun b hb => by
      have := (s123_ck b hb).2.2.1
      show s2 (s1 b) < 256
      omega))
    rwa [map8] at this
  rw [Nat.mod_eq_of_lt (Nat.lt_of_lt_of_le hlt (by decide))]
  rfl
theorem tn_g3 {y : Int64} {n : Nat} (hy : tn y = bv ((by8 n).map fun b => s2 (s1 b))) : tn (g3 y) = bv ((by8 n).map p8) := by
  unfold g3
  have ok0 := by8_ok n
  have hb : ∀ b ∈ (by8 n).map (fun b => s2 (s1 b)), b ≤ 68 ∧ b % 16 ≤ 4 := by
    intro b hb
    obtain ⟨a, ha, rfl⟩ := List.mem_map.mp hb
    exact ⟨(s123_ck a (ok0 a ha)).2.2.1, (s123_ck a (ok0 a ha)).2.2.2.1⟩
  rw [tn_and, tn_add, show (4 : Int32) = nI 4 from rfl, tn_shr y (by decide), hy]
  have hlt : bv ((by8 n).map fun b => s2 (s1 b)) + bv ((by8 n).map fun b => s2 (s1 b)) / 2 ^ 4 < 18446744073709551616 := by
    have h1 := hb
    simp only [by8, List.map_cons, List.map_nil, bv, List.mem_cons, List.not_mem_nil, or_false, forall_eq_or_imp, forall_eq] at h1 ⊢
    omega
  rw [Nat.mod_eq_of_lt hlt]
  have := bv_sh3 _ hb
  rw [repm] at this
  refine Eq.trans this ?_
  rw [List.map_map]
  congr 1
  apply List.map_congr_left
  intro b hb
  exact (s123_ck b (ok0 b hb)).1
theorem and127 (x : Int64) : (Int64.toInt32 x) &&& 127 = nI (tn x % 128) := by
  have h1 : (127 : Int32).toBitVec.toNat = 2 ^ 7 - 1 := by decide
  rw [pk_and (Int64.toInt32 x) 7 h1]
  congr 1
  show (x.toBitVec.signExtend 32).toNat % 2 ^ 7 = tn x % 128
  have : (x.toBitVec.signExtend 32) = x.toBitVec.setWidth 32 := BitVec.signExtend_eq_setWidth_of_le _ (by decide)
  rw [this, BitVec.toNat_setWidth]
  show tn x % 2 ^ 32 % 2 ^ 7 = tn x % 128
  omega
theorem sw_a {z t0 t1 a0 : Nat} (h : z = t0) (q : t0 = a0 + 256 * t1) (b : a0 ≤ 8) : z / 2 ^ 8 = t1 := by omega
theorem sw_b {z4 z3 t0 t1 : Nat} (e : z4 = (z3 + z3 / 2 ^ 8) % 18446744073709551616) (d : z3 / 2 ^ 8 = t1) (h : z3 = t0) (b0 : t0 ≤ 578721382704613384) (b1 : t1 ≤ 2260630401189896) : z4 = t0 + t1 := by
  rw [e, d, h]
  exact Nat.mod_eq_of_lt (by omega)
theorem sw_c {z4 t0 t1 t2 t3 a0 a1 a2 : Nat} (f : z4 = t0 + t1) (q0 : t0 = a0 + 256 * t1) (q1 : t1 = a1 + 256 * t2) (q2 : t2 = a2 + 256 * t3) (b0 : a0 ≤ 8) (b1 : a1 ≤ 8) (b2 : a2 ≤ 8) : z4 / 2 ^ 16 = t2 + t3 := by omega
theorem sw_d {z5 z4 t0 t1 t2 t3 : Nat} (e : z5 = (z4 + z4 / 2 ^ 16) % 18446744073709551616) (d : z4 / 2 ^ 16 = t2 + t3) (h : z4 = t0 + t1) (b0 : t0 ≤ 578721382704613384) (b1 : t1 ≤ 2260630401189896) (b2 : t2 ≤ 8830587504648) (b3 : t3 ≤ 34494482440) : z5 = t0 + t1 + (t2 + t3) := by
  rw [e, d, h]
  exact Nat.mod_eq_of_lt (by omega)
theorem sw_f {t0 t1 t2 t3 t4 a0 a1 a2 a3 : Nat} (q0 : t0 = a0 + 256 * t1) (q1 : t1 = a1 + 256 * t2) (q2 : t2 = a2 + 256 * t3) (q3 : t3 = a3 + 256 * t4) : t0 = (a0 + 256 * a1 + 65536 * a2 + 16777216 * a3) + 4294967296 * t4 := by omega
theorem sw_e {z t0 t1 t2 t3 t4 t5 t6 t7 a0 a1 a2 a3 a4 a5 a6 : Nat} (f : z = t0 + t1 + (t2 + t3)) (r0 : t0 = (a0 + 256 * a1 + 65536 * a2 + 16777216 * a3) + 4294967296 * t4) (r1 : t1 = (a1 + 256 * a2 + 65536 * a3 + 16777216 * a4) + 4294967296 * t5) (r2 : t2 = (a2 + 256 * a3 + 65536 * a4 + 16777216 * a5) + 4294967296 * t6) (r3 : t3 = (a3 + 256 * a4 + 65536 * a5 + 16777216 * a6) + 4294967296 * t7) (b0 : a0 ≤ 8) (b1 : a1 ≤ 8) (b2 : a2 ≤ 8) (b3 : a3 ≤ 8) (b4 : a4 ≤ 8) (b5 : a5 ≤ 8) (b6 : a6 ≤ 8) : z / 2 ^ 32 = t4 + t5 + (t6 + t7) := by
  have e : z = (a0 + 256 * a1 + 65536 * a2 + 16777216 * a3 + (a1 + 256 * a2 + 65536 * a3 + 16777216 * a4) + (a2 + 256 * a3 + 65536 * a4 + 16777216 * a5) + (a3 + 256 * a4 + 65536 * a5 + 16777216 * a6)) + 4294967296 * (t4 + t5 + (t6 + t7)) := by
    rw [f, r0, r1, r2, r3]
    omega
  have l : (a0 + 256 * a1 + 65536 * a2 + 16777216 * a3 + (a1 + 256 * a2 + 65536 * a3 + 16777216 * a4) + (a2 + 256 * a3 + 65536 * a4 + 16777216 * a5) + (a3 + 256 * a4 + 65536 * a5 + 16777216 * a6)) < 4294967296 := by
    clear f r0 r1 r2 r3 e
    omega
  rw [e]
  generalize (a0 + 256 * a1 + 65536 * a2 + 16777216 * a3 + (a1 + 256 * a2 + 65536 * a3 + 16777216 * a4) + (a2 + 256 * a3 + 65536 * a4 + 16777216 * a5) + (a3 + 256 * a4 + 65536 * a5 + 16777216 * a6)) = lo at l
  generalize (t4 + t5 + (t6 + t7)) = hi9
  clear e f r0 r1 r2 r3
  omega
theorem sw_g {z6 z5 t0 t1 t2 t3 t4 t5 t6 t7 : Nat} (e : z6 = (z5 + z5 / 2 ^ 32) % 18446744073709551616) (d : z5 / 2 ^ 32 = t4 + t5 + (t6 + t7)) (h : z5 = t0 + t1 + (t2 + t3)) (b0 : t0 ≤ 578721382704613384) (b1 : t1 ≤ 2260630401189896) (b2 : t2 ≤ 8830587504648) (b3 : t3 ≤ 34494482440) (b4 : t4 ≤ 134744072) (b5 : t5 ≤ 526344) (b6 : t6 ≤ 2056) (b7 : t7 ≤ 8) : z6 = t0 + t1 + (t2 + t3) + (t4 + t5 + (t6 + t7)) := by
  rw [e, d, h]
  exact Nat.mod_eq_of_lt (by omega)
theorem sw_h {t0 t1 t2 t3 t4 t5 t6 a0 a1 a2 a3 a4 a5 a6 a7 : Nat} (q0 : t0 = a0 + 256 * t1) (q1 : t1 = a1 + 256 * t2) (q2 : t2 = a2 + 256 * t3) (q3 : t3 = a3 + 256 * t4) (q4 : t4 = a4 + 256 * t5) (q5 : t5 = a5 + 256 * t6) (q6 : t6 = a6 + 256 * a7) (b0 : a0 ≤ 8) (b1 : a1 ≤ 8) (b2 : a2 ≤ 8) (b3 : a3 ≤ 8) (b4 : a4 ≤ 8) (b5 : a5 ≤ 8) (b6 : a6 ≤ 8) (b7 : a7 ≤ 8) : (t0 + t1 + (t2 + t3) + (t4 + t5 + (t6 + a7))) % 128 = a0 + (a1 + (a2 + (a3 + (a4 + (a5 + (a6 + (a7 + 0))))))) := by
  have e : t0 + t1 + (t2 + t3) + (t4 + t5 + (t6 + a7)) = (a0 + a1 + a2 + a3 + a4 + a5 + a6 + a7) + 128 * (2 * (t1 + t2 + t3 + t4 + t5 + t6 + a7)) := by
    rw [q0]
    omega
  rw [e, Nat.add_mul_mod_self_left, Nat.mod_eq_of_lt (by clear e q0 q1 q2 q3 q4 q5 q6; omega)]
  omega
theorem bitCount_sum (x : Int64) : f_G_bitCount x = nI (((by8 (tn x)).map p8).sum) := by
  rw [bitCount_g]
  have h := tn_g3 (tn_g2 (tn_g1 x))
  generalize g3 (g2 (g1 x)) = c at h
  have hb : ∀ b ∈ (by8 (tn x)).map p8, b ≤ 8 := by
    intro b hb
    obtain ⟨a, ha, rfl⟩ := List.mem_map.mp hb
    exact (s123_ck a (by8_ok _ a ha)).2.2.2.2.1
  rw [and127]
  congr 1
  have e4 : tn (g4 c) = (tn c + tn c / 2 ^ 8) % 18446744073709551616 := by
    unfold g4
    rw [tn_add, show (8 : Int32) = nI 8 from rfl, tn_shr c (by decide)]
  have e5 : tn (g5 (g4 c)) = (tn (g4 c) + tn (g4 c) / 2 ^ 16) % 18446744073709551616 := by
    unfold g5
    rw [tn_add, show (16 : Int32) = nI 16 from rfl, tn_shr _ (by decide)]
  have e6 : tn (g6 (g5 (g4 c))) = (tn (g5 (g4 c)) + tn (g5 (g4 c)) / 2 ^ 32) % 18446744073709551616 := by
    unfold g6
    rw [tn_add, show (32 : Int32) = nI 32 from rfl, tn_shr _ (by decide)]
  simp only [by8, List.map_cons, List.map_nil, bv, List.sum_cons, List.sum_nil, List.mem_cons, List.not_mem_nil, or_false, forall_eq_or_imp, forall_eq] at hb h ⊢
  generalize p8 (tn x % 256) = a0 at hb h ⊢
  generalize p8 (tn x / 256 % 256) = a1 at hb h ⊢
  generalize p8 (tn x / 65536 % 256) = a2 at hb h ⊢
  generalize p8 (tn x / 16777216 % 256) = a3 at hb h ⊢
  generalize p8 (tn x / 4294967296 % 256) = a4 at hb h ⊢
  generalize p8 (tn x / 1099511627776 % 256) = a5 at hb h ⊢
  generalize p8 (tn x / 281474976710656 % 256) = a6 at hb h ⊢
  generalize p8 (tn x / 72057594037927936 % 256) = a7 at hb h ⊢
  generalize tn (g6 (g5 (g4 c))) = z6 at e6 ⊢
  generalize tn (g5 (g4 c)) = z5 at e5 e6
  generalize tn (g4 c) = z4 at e4 e5
  generalize tn c = z3 at e4 h
  obtain ⟨hb0, hb1, hb2, hb3, hb4, hb5, hb6, hb7⟩ := hb
  obtain ⟨t7, e7⟩ : ∃ t, t = a7 := ⟨_, rfl⟩
  obtain ⟨t6, q6⟩ : ∃ t, t = a6 + 256 * t7 := ⟨_, rfl⟩
  obtain ⟨t5, q5⟩ : ∃ t, t = a5 + 256 * t6 := ⟨_, rfl⟩
  obtain ⟨t4, q4⟩ : ∃ t, t = a4 + 256 * t5 := ⟨_, rfl⟩
  obtain ⟨t3, q3⟩ : ∃ t, t = a3 + 256 * t4 := ⟨_, rfl⟩
  obtain ⟨t2, q2⟩ : ∃ t, t = a2 + 256 * t3 := ⟨_, rfl⟩
  obtain ⟨t1, q1⟩ : ∃ t, t = a1 + 256 * t2 := ⟨_, rfl⟩
  obtain ⟨t0, q0⟩ : ∃ t, t = a0 + 256 * t1 := ⟨_, rfl⟩
  have h3 : z3 = t0 := by rw [q0, q1, q2, q3, q4, q5, q6, e7]; exact h
  clear h
  have b7 : t7 ≤ 8 := by omega
  have b6 : t6 ≤ 2056 := by omega
  have b5 : t5 ≤ 526344 := by omega
  have b4 : t4 ≤ 134744072 := by omega
  have b3 : t3 ≤ 34494482440 := by omega
  have b2 : t2 ≤ 8830587504648 := by omega
  have b1 : t1 ≤ 2260630401189896 := by omega
  have b0 : t0 ≤ 578721382704613384 := by omega
  have d3 : z3 / 2 ^ 8 = t1 := sw_a h3 q0 hb0
  have f4 : z4 = t0 + t1 := sw_b e4 d3 h3 b0 b1
  have d4 : z4 / 2 ^ 16 = t2 + t3 := sw_c f4 q0 q1 q2 hb0 hb1 hb2
  have f5 : z5 = t0 + t1 + (t2 + t3) := sw_d e5 d4 f4 b0 b1 b2 b3
  have d5 : z5 / 2 ^ 32 = t4 + t5 + (t6 + t7) := sw_e f5 (sw_f q0 q1 q2 q3) (sw_f q1 q2 q3 q4) (sw_f q2 q3 q4 q5) (sw_f q3 q4 q5 q6) hb0 hb1 hb2 hb3 hb4 hb5 hb6
  have f6 : z6 = t0 + t1 + (t2 + t3) + (t4 + t5 + (t6 + t7)) := sw_g e6 d5 f5 b0 b1 b2 b3 b4 b5 b6 b7
  rw [f6, e7]
  exact sw_h q0 q1 q2 q3 q4 q5 (by rw [e7] at q6; exact q6) hb0 hb1 hb2 hb3 hb4 hb5 hb6 hb7
theorem p8_ct (n j : Nat) : ct (fun k => n.testBit (j + k)) 8 = p8 (n / 2 ^ j % 256) := by
  unfold p8
  apply ct_cong
  intro k hk
  rw [show (256 : Nat) = 2 ^ 8 from rfl, Nat.testBit_mod_two_pow, Nat.testBit_div_two_pow, Nat.add_comm k j]
  simp [hk]
theorem bitCount_eq (x : Int64) : f_G_bitCount x = nI (pc x) := by
  rw [bitCount_sum]
  congr 1
  have e : pc x = ct (fun k => (tn x).testBit k) 64 := rfl
  rw [e]
  have a := ct_add (fun k => (tn x).testBit k)
  rw [show (64 : Nat) = 56 + 8 from rfl, a 56 8, show (56 : Nat) = 48 + 8 from rfl, a 48 8, show (48 : Nat) = 40 + 8 from rfl, a 40 8, show (40 : Nat) = 32 + 8 from rfl, a 32 8, show (32 : Nat) = 24 + 8 from rfl, a 24 8, show (24 : Nat) = 16 + 8 from rfl, a 16 8, show (16 : Nat) = 8 + 8 from rfl, a 8 8]
  have p := p8_ct (tn x)
  have p0 := p 0
  simp only [Nat.zero_add, Nat.pow_zero, Nat.div_one] at p0
  rw [p0]
  simp only [p, by8, List.map_cons, List.map_nil, List.sum_cons, List.sum_nil]
  simp only [Nat.reduceAdd, Nat.reducePow]
  omega
-- Integer.bitCount of six bits
def p6 (n : Nat) : Nat := ct (fun k => n.testBit k) 6
theorem ibc_ck : ∀ n, n < 64 → f_I_bitCount (nI n) = nI (p6 n) := by decide +kernel
theorem onesIn_ck : ∀ n, n < 64 → f_M_onesIn_4 7 (nI n) 0 0 = some (nI (p6 n)) := by decide +kernel
