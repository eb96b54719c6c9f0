/-! ===== luck: the theory ===== -/
/-- by n facts at most, of which it is told what was said, it is free -/
def LKP (k : Nat) (F : Int64) (n : Nat) (W : Int64) : Prop := ∃ S, S < 64 ∧ p6 S ≤ n ∧ ∃ w, w < 64 ∧ lb W w = true ∧ ∀ v, v < 64 → lb W v = true → (∀ f, f < 6 → S.testBit f = true → (sayN k w).testBit f = (sayN k v).testBit f) → lb F v = true
theorem p6_or : ∀ S, S < 64 → ∀ f, f < 6 → p6 (S ||| 2 ^ f) ≤ p6 S + 1 ∧ S ||| 2 ^ f < 64 := by decide +kernel
theorem p6_xor : ∀ S, S < 64 → ∀ f, f < 6 → S.testBit f = true → p6 (S ^^^ 2 ^ f) + 1 = p6 S ∧ S ^^^ 2 ^ f < 64 := by decide +kernel
theorem LKP_sub {k : Nat} {F W : Int64} (h : W &&& (F ^^^ (-1)) = 0) (h0 : ¬ W = 0) (n : Nat) : LKP k F n W := by
  obtain ⟨w, w1, w2⟩ := lb_some h0
  refine ⟨0, by decide, by rw [show p6 0 = 0 by decide]; exact Nat.zero_le n, w, w1, w2, fun v v1 v2 _ => ?_⟩
  rw [lb_zero] at h
  have := h v v1
  rw [lb_and, lb_not _ v1, v2] at this
  simpa using this
theorem LKP_no {k : Nat} {F W : Int64} (h : W &&& F = 0) (n : Nat) : ¬ LKP k F n W := by
  rintro ⟨S, s1, s2, w, w1, w2, w3⟩
  have h1 := w3 w w1 w2 (fun _ _ _ => rfl)
  rw [lb_zero] at h
  have := h w w1
  rw [lb_and, w2, h1] at this
  cases this
theorem LKP_step {k : Nat} {F W : Int64} (hk : k < 5) (ho : opn W F = true) (P : Nat → Bool) (hP : ∀ f, f < 6 → P f = false → cst k f W) (n : Nat) : LKP k F n W ↔ ∃ f, f < 6 ∧ P f = true ∧ ∃ b : Bool, (¬ W &&& sr k f b = 0) ∧ ∃ m, n = m + 1 ∧ LKP k F m (W &&& sr k f b) := by
  constructor
  · rintro ⟨S, s1, s2, w, w1, w2, w3⟩
    obtain ⟨v, v1, v2⟩ := lb_some (opn_iff.mp ho).2
    rw [lb_and, Bool.and_eq_true, lb_not _ v1] at v2
    have hd : ∃ f, f < 6 ∧ S.testBit f = true ∧ (sayN k w).testBit f ≠ (sayN k v).testBit f := by
      apply Classical.byContradiction
      intro q
      have := w3 v v1 v2.1 (fun f hf hs => Classical.byContradiction (fun z => q ⟨f, hf, hs, z⟩))
      rw [this] at v2
      cases v2.2
    obtain ⟨f, f1, f2, f3⟩ := hd
    have hp : P f = true := by
      cases q : P f with
      | true => rfl
      | false =>
        obtain ⟨b, hb⟩ := hP f f1 q
        exact absurd ((hb w w1 w2).trans (hb v v1 v2.1).symm) f3
    obtain ⟨g1, g2⟩ := p6_xor S s1 f f1 f2
    have hw : lb (W &&& sr k f ((sayN k w).testBit f)) w = true := by
      rw [lb_and, w2, lb_sr hk f1 _ w1]
      simp
    refine ⟨f, f1, hp, (sayN k w).testBit f, fun z => ?_, p6 S - 1 + (n - p6 S), by omega, S ^^^ 2 ^ f, g2, by omega, w, w1, hw, fun u u1 u2 u3 => ?_⟩
    · rw [z, lb_0] at hw
      cases hw
    · rw [lb_and, Bool.and_eq_true, lb_sr hk f1 _ u1] at u2
      refine w3 u u1 u2.1 (fun i hi hs => ?_)
      by_cases q : i = f
      · subst q
        have := u2.2
        simp at this
        exact this.symm
      · have q2 : ¬ f = i := fun z => q z.symm
        refine u3 i hi ?_
        rw [flip_tb, hs]
        simp [q2]
  · rintro ⟨f, f1, -, b, hb, m, rfl, S, s1, s2, w, w1, w2, w3⟩
    obtain ⟨g1, g2⟩ := p6_or S s1 f f1
    rw [lb_and, Bool.and_eq_true, lb_sr hk f1 _ w1] at w2
    refine ⟨S ||| 2 ^ f, g2, by omega, w, w1, w2.1, fun u u1 u2 u3 => ?_⟩
    refine w3 u u1 ?_ (fun i hi hs => u3 i hi (by rw [tb_or, hs]; rfl))
    rw [lb_and, u2, lb_sr hk f1 _ u1, ← u3 f f1 (by rw [tb_or]; simp)]
    simpa using w2.2
/-! ===== codes: what was said so far, in base 3 ===== -/
def dg (c f : Nat) : Nat := c / 3 ^ f % 3
theorem dg_ck : ∀ c, c < 729 → ∀ f, f < 6 → dg c f = 0 → ∀ s, s < 2 → c + (s + 1) * 3 ^ f < 729 ∧ ∀ g, g < 6 → dg (c + (s + 1) * 3 ^ f) g = if g = f then s + 1 else dg c g := by decide +kernel
theorem dg_lt (c f : Nat) : dg c f < 3 := Nat.mod_lt _ (by decide)
def Wc (k : Nat) (W0 : Int64) (c : Nat) : Nat → Int64
  | 0 => W0
  | n + 1 => Wc k W0 c n &&& (if dg c n = 0 then -1 else sr k n (decide (dg c n = 2)))
theorem lb_Wc {k : Nat} (hk : k < 5) (W0 : Int64) (c : Nat) {w : Nat} (hw : w < 64) : ∀ n, n ≤ 6 → (lb (Wc k W0 c n) w = true ↔ lb W0 w = true ∧ ∀ f, f < n → ¬ dg c f = 0 → (sayN k w).testBit f = decide (dg c f = 2)) := by
  intro n
  induction n with
  | zero =>
    intro _
    exact ⟨fun h => ⟨h, fun f hf => absurd hf (Nat.not_lt_zero f)⟩, fun h => h.1⟩
  | succ n ih =>
    intro hn
    simp only [Wc]
    rw [lb_and, Bool.and_eq_true, ih (by omega)]
    have e1 : lb (if dg c n = 0 then -1 else sr k n (decide (dg c n = 2))) w = true ↔ (¬ dg c n = 0 → (sayN k w).testBit n = decide (dg c n = 2)) := by
      by_cases h0 : dg c n = 0
      · rw [if_pos h0]
        exact ⟨fun _ q => absurd h0 q, fun _ => lb_m1 hw⟩
      · rw [if_neg h0, lb_sr hk (by omega) _ hw]
        constructor
        · intro q _
          simpa using q
        · intro q
          have := q h0
          simp [this]
    rw [e1]
    constructor
    · rintro ⟨⟨a, b⟩, d⟩
      refine ⟨a, fun f hf => ?_⟩
      rcases Nat.lt_or_ge f n with q | q
      · exact b f q
      · obtain rfl : f = n := by omega
        exact d
    · rintro ⟨a, b⟩
      exact ⟨⟨a, fun f hf => b f (by omega)⟩, b n (by omega)⟩
theorem Wc_next {k : Nat} (hk : k < 5) (W0 : Int64) {c f : Nat} (hc : c < 729) (hf : f < 6) (h0 : dg c f = 0) (b : Bool) : Wc k W0 (c + (b1 b + 1) * 3 ^ f) 6 = Wc k W0 c 6 &&& sr k f b := by
  have hb : b1 b < 2 := by cases b <;> decide
  obtain ⟨-, hg⟩ := dg_ck c hc f hf h0 (b1 b) hb
  apply lb_iff
  intro w hw
  rw [lb_Wc hk _ _ hw 6 (Nat.le_refl 6), lb_and, Bool.and_eq_true, lb_Wc hk _ _ hw 6 (Nat.le_refl 6), lb_sr hk hf _ hw]
  have hd : decide (b1 b + 1 = 2) = b := by cases b <;> decide
  constructor
  · rintro ⟨a, q⟩
    refine ⟨⟨a, fun g hg6 hn => ?_⟩, ?_⟩
    · have hne : ¬ g = f := fun z => hn (by rw [z]; exact h0)
      have := q g hg6
      rw [hg g hg6, if_neg hne] at this
      exact this hn
    · have := q f hf
      rw [hg f hf, if_pos rfl] at this
      rw [this (by omega), hd]
      simp
  · rintro ⟨⟨a, q⟩, r⟩
    refine ⟨a, fun g hg6 hn => ?_⟩
    rw [hg g hg6] at hn ⊢
    by_cases z : g = f
    · subst z
      rw [if_pos rfl, hd]
      simpa using r
    · rw [if_neg z] at hn ⊢
      exact q g hg6 hn
theorem Wc_cst {k : Nat} (hk : k < 5) (W0 : Int64) {c f : Nat} (hf : f < 6) (h0 : ¬ dg c f = 0) : cst k f (Wc k W0 c 6) := by
  refine ⟨decide (dg c f = 2), fun w hw h => ?_⟩
  exact ((lb_Wc hk W0 c hw 6 (Nat.le_refl 6)).mp h).2 f hf h0
theorem pow_ck : ∀ f, f < 6 → f_M_powerOf (nI f) = nI (3 ^ f) ∧ 3 ^ f ≤ 243 ∧ 0 < 3 ^ f := by decide +kernel
theorem digit_eq {c f : Nat} (hc : c < 729) (hf : f < 6) : f_M_digitOf (nI c) (nI f) = some (nI (dg c f)) := by
  obtain ⟨h1, h2, h3⟩ := pow_ck f hf
  unfold f_M_digitOf
  rw [h1, if_neg (nI_ne0 h3 (by omega)), pk_div (by omega) h3 (by omega), show (3 : Int32) = nI 3 from rfl, irem_nI (by have := Nat.div_le_self c (3 ^ f); omega) (by omega) (by omega)]
  rfl
def R48 (k : Nat) (M : ip_St) : Prop := ∀ f, f < 6 → M.2 48 f = srow k f
theorem waysBy_loop {M : ip_St} {k : Nat} (hM : R48 k M) (W0 : Int64) {c : Nat} (hc : c < 729) : ∀ (e f n : Nat), f + e = 6 → e < n → f_M_waysBy_6 n (nI c) (Wc k W0 c f) (nI f) M = some (Wc k W0 c 6) := by
  intro e
  induction e with
  | zero =>
    intro f n hf hn
    obtain rfl : f = 6 := by omega
    obtain ⟨m, rfl⟩ : ∃ m, n = m + 1 := ⟨n - 1, by omega⟩
    rw [f_M_waysBy_6, if_pos (by decide)]
  | succ e ih =>
    intro f n hf hn
    obtain ⟨m, rfl⟩ : ∃ m, n = m + 1 := ⟨n - 1, by omega⟩
    have ih' := ih (f + 1) m (by omega) (by omega)
    have hlt := dg_lt c f
    rw [f_M_waysBy_6, if_neg (by rw [show (6 : Int32) = nI 6 from rfl, nI_leI (by omega) (by omega)]; omega), digit_eq hc (by omega), Option.bind_some, nI_1]
    have hw : Wc k W0 c (f + 1) = Wc k W0 c f &&& (if dg c f = 0 then -1 else sr k f (decide (dg c f = 2))) := rfl
    by_cases h0 : dg c f = 0
    · rw [h0, if_pos (show nI 0 = 0 from rfl)]
      rw [hw, if_pos h0] at ih'
      exact ih'
    · rw [if_neg (nI_ne0 (by omega) (by omega)), aL_at (n := 6) rfl (by omega), Option.bind_some, hM f (by omega)]
      rw [hw, if_neg h0] at ih'
      have hb : nI (dg c f) - 1 = b2 (decide (dg c f = 2)) := by
        rcases (show dg c f = 1 ∨ dg c f = 2 by omega) with q | q <;> rw [q] <;> decide
      rw [hb]
      exact ih'
theorem waysBy_eq {M : ip_St} {k : Nat} (hM : R48 k M) (W0 : Int64) {c : Nat} (hc : c < 729) : f_M_waysBy W0 (nI c) M = some (Wc k W0 c 6) := waysBy_loop hM W0 hc 6 0 ip_FU rfl (by rw [FU_eq]; omega)
def CV (k : Nat) (F W0 : Int64) (M : ip_St) (c : Nat) : Prop := M.1 45 c = nI (lfN k (Wc k W0 c 6) F) ∧ M.1 47 c = lfF k (Wc k W0 c 6) F ∧ ∃ v, v ≤ 99 ∧ M.1 46 c = nI v ∧ (¬ Wc k W0 c 6 = 0 → ∀ n, n < 99 → (v ≤ n ↔ LKP k F n (Wc k W0 c 6)))
def oth (c : Nat) (M M' : ip_St) : Prop := M'.2 = M.2 ∧ ∀ a b, ¬ (b = c ∧ (a = 45 ∨ a = 46 ∨ a = 47)) → M'.1 a b = M.1 a b
theorem oth_u {c a : Nat} {M M' : ip_St} {v : Int32} (ha : a = 45 ∨ a = 46 ∨ a = 47) (h : oth c M M') : oth c M (ip_upI M' a c v) := by
  refine ⟨h.1, fun x y hxy => ?_⟩
  rw [upI_ne _ _ (by omega)]
  exact h.2 x y hxy
theorem oth_rf {c : Nat} {M : ip_St} : oth c M M := ⟨rfl, fun _ _ _ => rfl⟩
theorem oth_tr {c : Nat} {M M' M'' : ip_St} (h : oth c M M') (h2 : oth c M' M'') : oth c M M'' := ⟨h2.1.trans h.1, fun a b q => (h2.2 a b q).trans (h.2 a b q)⟩
theorem CV_oth {k : Nat} {F W0 : Int64} {M M' : ip_St} {c c' : Nat} (h : oth c M M') (hne : ¬ c' = c) (hv : CV k F W0 M c') : CV k F W0 M' c' := by
  obtain ⟨a, b, v, v1, v2, v3⟩ := hv
  refine ⟨by rw [h.2 _ _ (by omega)]; exact a, by rw [h.2 _ _ (by omega)]; exact b, v, v1, by rw [h.2 _ _ (by omega)]; exact v2, v3⟩
abbrev K80 : Type := Int32 → Int64 → Int32 → Int32 → ip_St → Option ip_St
def kst (may : Bool) (l L : Nat) : Nat := if may = true ∧ l + 1 < L then l + 1 else L
theorem kst_le {may : Bool} {l L m : Nat} : kst may l L ≤ m ↔ L ≤ m ∨ (may = true ∧ l + 1 ≤ m) := by
  unfold kst
  split
  · rename_i h
    constructor
    · exact fun q => Or.inr ⟨h.1, q⟩
    · rintro (q | q)
      · omega
      · exact q.2
  · rename_i h
    constructor
    · exact fun q => Or.inl q
    · rintro (q | q)
      · exact q
      · have : ¬ l + 1 < L := fun z => h ⟨q.1, z⟩
        omega
theorem kst_99 {may : Bool} {l L : Nat} (h : L ≤ 99) : kst may l L ≤ 99 := kst_le.mpr (Or.inl h)
theorem mx_0 (a : Nat) : mx a 0 = a := by unfold mx; rw [if_neg (Nat.not_lt_zero a)]
theorem said_step {k : Nat} {F W0 : Int64} {M : ip_St} (hk : k < 5) (hF : sayd k F) (hM : R48 k M) {c f : Nat} (hc : c < 729) (hf : f < 6) (h0 : dg c f = 0) (k53 : K80) (x6 : Int32) (b : Bool) {wst L l m : Nat} (hw : wst ≤ 99) (hL : L ≤ 99) (hl : l ≤ 99) (e45 : M.1 45 (c + (b1 b + 1) * 3 ^ f) = nI (lfN k (Wc k W0 c 6 &&& sr k f b) F)) (e46 : M.1 46 (c + (b1 b + 1) * 3 ^ f) = nI l) (eL : M.1 46 c = nI L) : f_M_layCode_80 k53 (m + 1) (nI c) (Wc k W0 c 6) x6 (nI f) (nI wst) (nI (b1 b)) M = f_M_layCode_80 k53 m (nI c) (Wc k W0 c 6) x6 (nI f) (nI (mx wst (lfN k (Wc k W0 c 6 &&& sr k f b) F))) (nI (b1 b + 1)) (ip_upI M 46 c (nI (kst (decide (¬ Wc k W0 c 6 &&& sr k f b = 0)) l L))) := by
  have hb : b1 b < 2 := by cases b <;> decide
  obtain ⟨hn, -⟩ := dg_ck c hc f hf h0 (b1 b) hb
  obtain ⟨p1, p2, p3⟩ := pow_ck f hf
  have h6 := lfN_6 k F (Wc k W0 c 6 &&& sr k f b)
  have hix : nI c + (nI (b1 b) + 1) * f_M_powerOf (nI f) = nI (c + (b1 b + 1) * 3 ^ f) := by rw [p1, nI_1, pk_mul, nI_add]
  have hkb : f_M_keptIf (srow k f) (nI (b1 b)) = sr k f b := by cases b <;> rfl
  rw [f_M_layCode_80, if_neg (by rw [show (2 : Int32) = nI 2 from rfl, nI_leI (by omega) (by omega)]; omega), aL_at (n := 6) rfl hf, Option.bind_some, hM f hf, hkb, hix]
  unfold f_M_layCode_124 f_M_layCode_153 f_M_layCode_155 f_M_layCode_197 f_M_layCode_203
  by_cases hz : Wc k W0 c 6 &&& sr k f b = 0
  · rw [if_pos hz, if_pos rfl, if_pos rfl, aI_at (n := 729) rfl hc, Option.bind_some, wI_at (n := 729) rfl hc, Option.bind_some, eL, nI_1, hz, lfN_cl hk hF (opn_0 F), mx_0]
    have : kst (decide (¬ (0 : Int64) = 0)) l L = L := by unfold kst; rw [if_neg]; simp
    rw [this]
  · have i1 : ¬ (1 : Int32) = 0 := by decide
    rw [if_neg hz, if_neg i1, aI_at (n := 729) rfl hn, Option.bind_some, e45, Option.bind_some, aI_at (n := 729) rfl hn, aI_at (n := 729) rfl hc, e46, eL]
    simp only [if_neg i1, Option.bind_some]
    rw [nI_1, wI_at (n := 729) rfl hc, wI_at (n := 729) rfl hc, nI_1]
    simp only [Option.bind_some]
    have hL2 : (if nI L ≤ nI (l + 1) then ip_upI M 46 c (nI L) else ip_upI M 46 c (nI (l + 1))) = ip_upI M 46 c (nI (kst (decide (¬ Wc k W0 c 6 &&& sr k f b = 0)) l L)) := by
      unfold kst
      rw [decide_eq_true hz]
      by_cases q : L ≤ l + 1
      · rw [if_pos ((nI_leI (by omega) (by omega)).mpr q), if_neg (by omega)]
      · rw [if_neg (fun z => q ((nI_leI (by omega) (by omega)).mp z)), if_pos ⟨rfl, by omega⟩]
    have fin : ∀ x8 : Int32, (if nI L ≤ nI (l + 1) then f_M_layCode_80 k53 m (nI c) (Wc k W0 c 6) x6 (nI f) x8 (nI (b1 b + 1)) (ip_upI M 46 c (nI L)) else f_M_layCode_80 k53 m (nI c) (Wc k W0 c 6) x6 (nI f) x8 (nI (b1 b + 1)) (ip_upI M 46 c (nI (l + 1)))) = f_M_layCode_80 k53 m (nI c) (Wc k W0 c 6) x6 (nI f) x8 (nI (b1 b + 1)) (ip_upI M 46 c (nI (kst (decide (¬ Wc k W0 c 6 &&& sr k f b = 0)) l L))) := by
      intro x8
      rw [← hL2]
      split
      · rfl
      · rfl
    rw [fin, fin]
    unfold mx
    by_cases q : lfN k (Wc k W0 c 6 &&& sr k f b) F ≤ wst
    · rw [if_pos ((nI_leI (by omega) (by omega)).mpr q), if_neg (by omega)]
    · rw [if_neg (fun z => q ((nI_leI (by omega) (by omega)).mp z)), if_pos (by omega)]
