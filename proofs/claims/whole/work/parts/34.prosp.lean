/-! ===== the class's prospect: spread ===== -/
def vw (k : Nat) (W : Int64) (fc : Nat → Nat) (s : Nat) : Nat → Int64
  | 0 => W
  | i + 1 => vw k W fc s i &&& (if dg s i = 0 then -1 else sr k (fc i) (decide (dg s i = 2)))
theorem vw_cg {k : Nat} {W : Int64} {fc fc' : Nat → Nat} {s t : Nat} : ∀ n, (∀ i, i < n → dg s i = dg t i ∧ fc i = fc' i) → vw k W fc s n = vw k W fc' t n
  | 0, _ => rfl
  | n + 1, h => by
    simp only [vw]
    rw [vw_cg n (fun i hi => h i (by omega)), (h n (by omega)).1, (h n (by omega)).2]
theorem lb_vw {k : Nat} (hk : k < 5) (W : Int64) (fc : Nat → Nat) (s : Nat) {w : Nat} (hw : w < 64) : ∀ n, (∀ i, i < n → fc i < 6) → (lb (vw k W fc s n) w = true ↔ lb W w = true ∧ ∀ i, i < n → ¬ dg s i = 0 → (sayN k w).testBit (fc i) = decide (dg s i = 2)) := by
  intro n
  induction n with
  | zero =>
    intro _
    exact ⟨fun h => ⟨h, fun f hf => absurd hf (Nat.not_lt_zero f)⟩, fun h => h.1⟩
  | succ n ih =>
    intro hn
    simp only [vw]
    rw [lb_and, Bool.and_eq_true, ih (fun i hi => hn i (by omega))]
    have e1 : lb (if dg s n = 0 then -1 else sr k (fc n) (decide (dg s n = 2))) w = true ↔ (¬ dg s n = 0 → (sayN k w).testBit (fc n) = decide (dg s n = 2)) := by
      by_cases h0 : dg s n = 0
      · rw [if_pos h0]
        exact ⟨fun _ q => absurd h0 q, fun _ => lb_m1 hw⟩
      · rw [if_neg h0, lb_sr hk (hn n (by omega)) _ hw]
        constructor
        · intro q _
          simpa using q
        · intro q
          have := q h0
          simp [this]
    rw [e1]
    constructor
    · rintro ⟨⟨a, b⟩, d⟩
      refine ⟨a, fun f hf => ?_⟩
      rcases Nat.lt_or_ge f n with q | q
      · exact b f q
      · obtain rfl : f = n := by omega
        exact d
    · rintro ⟨a, b⟩
      exact ⟨⟨a, fun f hf => b f (by omega)⟩, b n (by omega)⟩
theorem dgs_ck : ∀ m, m < 6 → ∀ t, t < 3 ^ m → ∀ q, q < 3 → dg (t + q * 3 ^ m) m = q ∧ ∀ i, i < m → dg (t + q * 3 ^ m) i = dg t i := by decide +kernel
theorem p3_ck : ∀ m, m < 6 → 3 ^ m * 3 = 3 ^ (m + 1) ∧ 3 ^ (m + 1) ≤ 729 ∧ 0 < 3 ^ m := by decide +kernel
theorem dgn_ck : ∀ m, m ≤ 6 → ∀ s, s < 3 ^ m → ∀ i, i < m → dg s i = 0 → s + 2 * 3 ^ i < 3 ^ m := by decide +kernel
theorem vw_0 {k : Nat} {W : Int64} {fc : Nat → Nat} : ∀ n, vw k W fc 0 n = W
  | 0 => rfl
  | n + 1 => by
    simp only [vw]
    rw [vw_0 n, if_pos (by unfold dg; simp), and_m1]
theorem vw_next {k : Nat} (hk : k < 5) (W : Int64) {fc : Nat → Nat} {m s i : Nat} (hm : m ≤ 6) (hfc : ∀ i, i < m → fc i < 6) (hs : s < 729) (hi : i < m) (h0 : dg s i = 0) (b : Bool) : vw k W fc (s + (b1 b + 1) * 3 ^ i) m = vw k W fc s m &&& sr k (fc i) b := by
  have hb : b1 b < 2 := by cases b <;> decide
  obtain ⟨-, hg⟩ := dg_ck s hs i (by omega) h0 (b1 b) hb
  have hd : decide (b1 b + 1 = 2) = b := by cases b <;> decide
  apply lb_iff
  intro w hw
  rw [lb_vw hk _ _ _ hw m hfc, lb_and, Bool.and_eq_true, lb_vw hk _ _ _ hw m hfc, lb_sr hk (hfc i hi) _ hw]
  constructor
  · rintro ⟨a, q⟩
    refine ⟨⟨a, fun g hg6 hn => ?_⟩, ?_⟩
    · have hne : ¬ g = i := fun z => hn (by rw [z]; exact h0)
      have := q g hg6
      rw [hg g (by omega), if_neg hne] at this
      exact this hn
    · have := q i hi
      rw [hg i (by omega), if_pos rfl] at this
      rw [this (by omega), hd]
      simp
  · rintro ⟨⟨a, q⟩, r⟩
    refine ⟨a, fun g hg6 hn => ?_⟩
    rw [hg g (by omega)] at hn ⊢
    by_cases z : g = i
    · subst z
      rw [if_pos rfl, hd]
      simpa using r
    · rw [if_neg z] at hn ⊢
      exact q g hg6 hn
def usef (k : Nat) (W : Int64) (g : Nat) : Prop := (¬ W &&& sr k g true = 0) ∧ ¬ W &&& sr k g false = 0
theorem usef_no {k g : Nat} {W : Int64} (hk : k < 5) (hg : g < 6) (h : ¬ usef k W g) : cst k g W := by
  have hz : ∀ b : Bool, W &&& sr k g b = 0 → cst k g W := by
    intro b hb
    refine ⟨!b, fun w hw q => ?_⟩
    rw [lb_zero] at hb
    have := hb w hw
    rw [lb_and, q, lb_sr hk hg _ hw] at this
    cases hx : (sayN k w).testBit g <;> cases b <;> simp_all
  by_cases h1 : W &&& sr k g true = 0
  · exact hz true h1
  · by_cases h2 : W &&& sr k g false = 0
    · exact hz false h2
    · exact absurd ⟨h1, h2⟩ h
def SI (k : Nat) (W : Int64) (f m : Nat) (fc : Nat → Nat) (C : ip_St) : Prop := m ≤ f ∧ C.1 26 6 = nI m ∧ C.1 26 9 = nI (3 ^ m) ∧ (∀ i, i < m → C.1 27 i = nI (fc i) ∧ fc i < f) ∧ (∀ i i', i < i' → i' < m → fc i < fc i') ∧ (∀ g, g < f → usef k W g → ∃ i, i < m ∧ fc i = g) ∧ ∀ s, s < 3 ^ m → C.2 28 s = vw k W fc s m
theorem spread_in {k : Nat} {W : Int64} {f m : Nat} {fc : Nat → Nat} (hm : m < 6) (k30 : Int32 → Int64 → Int32 → ip_St → Option ip_St) (x1 : Int32) : ∀ (e s n : Nat) (C : ip_St), s + e = 3 ^ m → e < n → C.1 26 9 = nI (3 ^ m) → (∀ t, t < 3 ^ m → C.2 28 t = vw k W fc t m) → (∀ t, t < s → C.2 28 (t + 3 ^ m) = vw k W fc t m &&& sr k f false ∧ C.2 28 (t + 2 * 3 ^ m) = vw k W fc t m &&& sr k f true) → ∃ C', f_P_spread_71 k30 n x1 W (nI f) (srow k f) (nI s) C = f_P_spread_71 k30 (n - e) x1 W (nI f) (srow k f) (nI (3 ^ m)) C' ∧ C'.1 = C.1 ∧ (∀ a b, ¬ a = 28 → C'.2 a b = C.2 a b) ∧ (∀ t, t < 3 ^ m → C'.2 28 t = vw k W fc t m) ∧ ∀ t, t < 3 ^ m → C'.2 28 (t + 3 ^ m) = vw k W fc t m &&& sr k f false ∧ C'.2 28 (t + 2 * 3 ^ m) = vw k W fc t m &&& sr k f true := by
  obtain ⟨p1, p2, p3⟩ := p3_ck m hm
  intro e
  induction e with
  | zero =>
    intro s n C hs hn h9 h1 h2
    obtain rfl : s = 3 ^ m := by omega
    exact ⟨C, rfl, rfl, fun a b _ => rfl, h1, h2⟩
  | succ e ih =>
    intro s n C hs hn h9 h1 h2
    obtain ⟨q, rfl⟩ : ∃ q, n = q + 1 := ⟨n - 1, by omega⟩
    have hk0 : srow k f ^^^ (-1) = sr k f false := rfl
    have hk1 : srow k f = sr k f true := rfl
    have i2m : (2 : Int32) * nI (3 ^ m) = nI (2 * 3 ^ m) := by rw [show (2 : Int32) = nI 2 from rfl, pk_mul]
    rw [f_P_spread_71, h9, if_neg (by rw [nI_leI (by omega) (by omega)]; omega), aL_at (n := 729) rfl (by omega), Option.bind_some, nI_add, wL_at (n := 729) rfl (by omega), Option.bind_some, aL_at (n := 729) rfl (by omega), Option.bind_some, upL_ne _ _ (show ¬ (28 = 28 ∧ s = s + 3 ^ m) by omega), upL_1, h9, i2m, nI_add, wL_at (n := 729) rfl (by omega), Option.bind_some, nI_1, h1 s (by omega), hk0]
    obtain ⟨C', g1, g2, g3, g4, g5⟩ := ih (s + 1) q (ip_upL (ip_upL C 28 (s + 3 ^ m) (vw k W fc s m &&& sr k f false)) 28 (s + 2 * 3 ^ m) (vw k W fc s m &&& srow k f)) (by omega) (by omega) h9 (fun t ht => by rw [upL_ne _ _ (by omega), upL_ne _ _ (by omega)]; exact h1 t ht) (fun t ht => by
      by_cases z : t = s
      · subst z
        constructor
        · rw [upL_ne _ _ (by omega), upL_same]
        · rw [upL_same]; rfl
      · have := h2 t (by omega)
        constructor
        · rw [upL_ne _ _ (by omega), upL_ne _ _ (by omega)]; exact this.1
        · rw [upL_ne _ _ (by omega), upL_ne _ _ (by omega)]; exact this.2)
    refine ⟨C', ?_, g2, fun a b hab => ?_, g4, g5⟩
    · rw [g1, show q + 1 - (e + 1) = q - e by omega]
    · rw [g3 a b hab, upL_ne _ _ (fun z => hab z.1), upL_ne _ _ (fun z => hab z.1)]
def fcs (fc : Nat → Nat) (m f : Nat) : Nat → Nat := fun i => if i = m then f else fc i
theorem fcs_m (fc : Nat → Nat) (m f : Nat) : fcs fc m f m = f := if_pos rfl
theorem fcs_n (fc : Nat → Nat) {m f i : Nat} (h : ¬ i = m) : fcs fc m f i = fc i := if_neg h
theorem spread_step {k : Nat} {W : Int64} {f m : Nat} {fc : Nat → Nat} {C : ip_St} (hf : f < 6) (hI : SI k W f m fc C) (hu : usef k W f) (k30 : Int32 → Int64 → Int32 → ip_St → Option ip_St) (x1 : Int32) : ∃ C' fc', f_P_spread_71 k30 ip_FU x1 W (nI f) (srow k f) 0 C = k30 x1 W (nI (f + 1)) C' ∧ SI k W (f + 1) (m + 1) fc' C' ∧ C'.1 26 2 = C.1 26 2 ∧ C'.2 26 3 = C.2 26 3 := by
  obtain ⟨hm, c6, c9, h27, has, hus, h28⟩ := hI
  have hm6 : m < 6 := by omega
  obtain ⟨p1, p2, p3⟩ := p3_ck m hm6
  obtain ⟨C1, g1, g2, g3, g4, g5⟩ := spread_in (f := f) hm6 k30 x1 (3 ^ m) 0 ip_FU C (by omega) (by rw [FU_eq]; omega) c9 h28 (fun t ht => absurd ht (Nat.not_lt_zero t))
  obtain ⟨q, hq⟩ : ∃ q, ip_FU - 3 ^ m = q + 1 := ⟨ip_FU - 3 ^ m - 1, by rw [FU_eq]; omega⟩
  rw [hq] at g1
  rw [show nI 0 = (0 : Int32) from rfl] at g1
  rw [g1, f_P_spread_71, g2, c9, if_pos (by rw [nI_leI (by omega) (by omega)]; omega), c6, wI_at (n := 6) rfl hm6, Option.bind_some]
  have u6 : (ip_upI C1 27 m (nI f)).1 26 6 = nI m := by rw [upI_ne _ _ (by omega), g2]; exact c6
  have u9 : (ip_upI (ip_upI C1 27 m (nI f)) 26 6 (nI m + 1)).1 26 9 = nI (3 ^ m) := by rw [upI_ne _ _ (by omega), upI_ne _ _ (by omega), g2]; exact c9
  rw [u6, u9, show (3 : Int32) = nI 3 from rfl, pk_mul, p1, nI_1, nI_1]
  refine ⟨_, fcs fc m f, rfl, ⟨by omega, ?_, ?_, fun i hi => ?_, fun i i' h1 h2 => ?_, fun g hg hug => ?_, fun s hs => ?_⟩, ?_, ?_⟩
  · rw [upI_ne _ _ (by omega), upI_same]
  · rw [upI_same]
  · rw [upI_ne _ _ (by omega), upI_ne _ _ (by omega)]
    by_cases z : i = m
    · rw [z, fcs_m, upI_same]
      exact ⟨rfl, by omega⟩
    · rw [fcs_n fc z, upI_ne _ _ (by omega), g2]
      have := h27 i (by omega)
      exact ⟨this.1, by omega⟩
  · have hi : ¬ i = m := by omega
    rw [fcs_n fc hi]
    by_cases z : i' = m
    · rw [z, fcs_m]
      exact (h27 i (by omega)).2
    · rw [fcs_n fc z]
      exact has i i' h1 (by omega)
  · by_cases z : g = f
    · exact ⟨m, by omega, by rw [fcs_m, z]⟩
    · obtain ⟨i, i1, i2⟩ := hus g (by omega) hug
      exact ⟨i, by omega, by rw [fcs_n fc (by omega)]; exact i2⟩
  · rw [upI_2, upI_2, upI_2]
    have hlow : ∀ t r, t < 3 ^ m → r < 3 → vw k W (fcs fc m f) (t + r * 3 ^ m) m = vw k W fc t m := by
      intro t r ht hr
      apply vw_cg
      intro i hi
      exact ⟨(dgs_ck m hm6 t ht r hr).2 i hi, fcs_n fc (by omega)⟩
    have hd : s % 3 ^ m + s / 3 ^ m * 3 ^ m = s := by
      have := Nat.mod_add_div s (3 ^ m)
      rw [Nat.mul_comm] at this
      exact this
    have ht : s % 3 ^ m < 3 ^ m := Nat.mod_lt _ p3
    have hr : s / 3 ^ m < 3 := by
      rw [Nat.div_lt_iff_lt_mul p3]
      omega
    generalize s % 3 ^ m = t at hd ht
    generalize s / 3 ^ m = r at hd hr
    have hdm := (dgs_ck m hm6 t ht r hr).1
    have hv := hlow t r ht hr
    rw [← hd]
    simp only [vw]
    rw [hv, hdm, fcs_m]
    rcases (show r = 0 ∨ r = 1 ∨ r = 2 by omega) with rfl | rfl | rfl
    · rw [if_pos rfl, and_m1, Nat.zero_mul, Nat.add_zero]
      exact g4 t ht
    · rw [if_neg (by decide), Nat.one_mul]
      exact (g5 t ht).1
    · rw [if_neg (by decide)]
      exact (g5 t ht).2
  · rw [upI_ne _ _ (by omega), upI_ne _ _ (by omega), upI_ne _ _ (by omega), g2]
  · rw [upI_2, upI_2, upI_2]
    exact g3 26 3 (by omega)
theorem spread_loop {k : Nat} (hk : k < 5) (W : Int64) : ∀ (e f n : Nat) (C : ip_St) (m : Nat) (fc : Nat → Nat), f + e = 6 → e < n → SI k W f m fc C → ∃ C' m' fc', f_P_spread_30 n (nI k) W (nI f) C = some C' ∧ SI k W 6 m' fc' C' ∧ C'.1 26 2 = C.1 26 2 ∧ C'.2 26 3 = C.2 26 3 := by
  intro e
  induction e with
  | zero =>
    intro f n C m fc hf hn hI
    obtain rfl : f = 6 := by omega
    obtain ⟨q, rfl⟩ : ∃ q, n = q + 1 := ⟨n - 1, by omega⟩
    rw [f_P_spread_30, if_pos (by decide)]
    exact ⟨C, m, fc, rfl, hI, rfl, rfl⟩
  | succ e ih =>
    intro f n C m fc hf hn hI
    obtain ⟨q, rfl⟩ : ∃ q, n = q + 1 := ⟨n - 1, by omega⟩
    have hf6 : f < 6 := by omega
    have ws : f_A_whereSaid (nI k) (nI f) 1 = some (srow k f) := whereSaid_eq hk hf6 true
    rw [f_P_spread_30, if_neg (by rw [show (6 : Int32) = nI 6 from rfl, nI_leI (by omega) (by omega)]; omega), ws, Option.bind_some, nI_1]
    have skip : ¬ usef k W f → SI k W (f + 1) m fc C := by
      intro hu
      obtain ⟨hm, c6, c9, h27, has, hus, h28⟩ := hI
      refine ⟨by omega, c6, c9, fun i hi => ⟨(h27 i hi).1, by have := (h27 i hi).2; omega⟩, has, fun g hg hug => ?_, h28⟩
      by_cases z : g = f
      · exact absurd (z ▸ hug) hu
      · exact hus g (by omega) hug
    by_cases h1 : W &&& srow k f = 0
    · rw [if_pos h1]
      exact ih (f + 1) q C m fc (by omega) (by omega) (skip (fun hu => hu.1 h1))
    · rw [if_neg h1]
      by_cases h2 : W &&& (srow k f ^^^ (-1)) = 0
      · rw [if_pos h2]
        exact ih (f + 1) q C m fc (by omega) (by omega) (skip (fun hu => hu.2 h2))
      · rw [if_neg h2]
        obtain ⟨C', fc', g1, g2, g3, g4⟩ := spread_step hf6 hI ⟨h1, h2⟩ (f_P_spread_30 q) (nI k)
        rw [g1]
        obtain ⟨C'', m', fc'', r1, r2, r3, r4⟩ := ih (f + 1) q C' (m + 1) fc' (by omega) (by omega) g2
        exact ⟨C'', m', fc'', r1, r2, r3.trans g3, r4.trans g4⟩
theorem spread_eq {k : Nat} (hk : k < 5) (W : Int64) (C : ip_St) : ∃ C' m fc, f_P_spread (nI k) W C = some C' ∧ SI k W 6 m fc C' ∧ C'.1 26 2 = nI k ∧ C'.2 26 3 = W := by
  unfold f_P_spread
  rw [show (0 : Int32) = nI 0 from rfl, wL_at (n := 729) rfl (by omega), Option.bind_some]
  obtain ⟨C', m, fc, g1, g2, g3, g4⟩ := spread_loop hk W 6 0 ip_FU (ip_upI (ip_upI (ip_upL (ip_upL (ip_upI C 26 2 (nI k)) 26 3 W) 28 0 W) 26 9 1) 26 6 (nI 0)) 0 (fun _ => 0) rfl (by rw [FU_eq]; omega) ⟨by omega, upI_same _ _ _ _, by rw [upI_ne _ _ (by omega), upI_same]; rfl, fun i hi => absurd hi (Nat.not_lt_zero i), fun i i' _ h => absurd h (Nat.not_lt_zero i'), fun g hg => absurd hg (Nat.not_lt_zero g), fun s hs => by
    obtain rfl : s = 0 := by simp at hs; exact hs
    rw [upI_2, upI_2, upL_same]
    rfl⟩
  refine ⟨C', m, fc, g1, g2, ?_, ?_⟩
  · rw [g3, upI_ne _ _ (by omega), upI_ne _ _ (by omega), upL_1, upL_1, upI_same]
  · rw [g4, upI_2, upI_2, upL_ne _ _ (by omega), upL_same]
