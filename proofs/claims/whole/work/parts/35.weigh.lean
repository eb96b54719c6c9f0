/-! ===== the class's prospect: weigh ===== -/
def Pb (fc : Nat → Nat) (m s f : Nat) : Bool := anyF (fun i => decide (fc i = f) && decide (dg s i = 0)) m
theorem Pb_iff {fc : Nat → Nat} {m s f : Nat} : Pb fc m s f = true ↔ ∃ i, i < m ∧ fc i = f ∧ dg s i = 0 := by
  unfold Pb
  rw [anyF_iff]
  simp only [Bool.and_eq_true, decide_eq_true_eq]
theorem cst_le {k f : Nat} {W X : Int64} (hs : ∀ w, w < 64 → lb X w = true → lb W w = true) (h : cst k f W) : cst k f X := by
  obtain ⟨b, hb⟩ := h
  exact ⟨b, fun w hw q => hb w hw (hs w hw q)⟩
def FI (k : Nat) (W : Int64) (m : Nat) (fc : Nat → Nat) : Prop := m ≤ 6 ∧ (∀ i, i < m → fc i < 6) ∧ (∀ i i', i < i' → i' < m → fc i < fc i') ∧ ∀ g, g < 6 → usef k W g → ∃ i, i < m ∧ fc i = g
theorem Pb_cst {k : Nat} (hk : k < 5) {W : Int64} {m : Nat} {fc : Nat → Nat} (hI : FI k W m fc) (s : Nat) : ∀ f, f < 6 → Pb fc m s f = false → cst k f (vw k W fc s m) := by
  obtain ⟨h1, h2, h3, h4⟩ := hI
  intro f hf hp
  by_cases hu : usef k W f
  · obtain ⟨i, i1, i2⟩ := h4 f hf hu
    have hd : ¬ dg s i = 0 := fun z => by
      have := Pb_iff.mpr ⟨i, i1, i2, z⟩
      rw [hp] at this
      cases this
    refine ⟨decide (dg s i = 2), fun w hw q => ?_⟩
    have := ((lb_vw hk W fc s hw m h2).mp q).2 i i1 hd
    rw [i2] at this
    exact this
  · exact cst_le (fun w hw q => ((lb_vw hk W fc s hw m h2).mp q).1) (usef_no hk hf hu)
theorem eq_by_le {a b : Nat} (h : ∀ n, a ≤ n ↔ b ≤ n) : a = b := by
  have h1 := (h b).mpr (Nat.le_refl b)
  have h2 := (h a).mp (Nat.le_refl a)
  omega
theorem idx_min {k : Nat} (hk : k < 5) {F W : Int64} (hF : sayd k F) {m : Nat} {fc : Nat → Nat} (hI : FI k W m fc) (s : Nat) (ho : opn (vw k W fc s m) F = true) : lmn (fun i => gW k F (vw k W fc s m) (fc i)) (fun i => decide (dg s i = 0)) 6 m = lfN k (vw k W fc s m) F := by
  have he := left_eq hk hF ho (Pb fc m s) (Pb_cst hk hI s) 6 (Nat.le_refl 6)
  apply eq_by_le
  intro n
  rw [← he, lmn_le, lmn_le]
  constructor
  · rintro (h | ⟨i, i1, i2, i3⟩)
    · exact Or.inl h
    · exact Or.inr ⟨fc i, hI.2.1 i i1, Pb_iff.mpr ⟨i, i1, rfl, of_decide_eq_true i2⟩, i3⟩
  · rintro (h | ⟨f, f1, f2, f3⟩)
    · exact Or.inl h
    · obtain ⟨i, i1, i2, i3⟩ := Pb_iff.mp f2
      refine Or.inr ⟨i, i1, decide_eq_true i3, ?_⟩
      show gW k F (vw k W fc s m) (fc i) ≤ n
      rw [i2]
      exact f3
theorem mxI {a b : Nat} (ha : a < 2 ^ 31) (hb : b < 2 ^ 31) : (if nI a ≤ nI b then some (nI b) else some (nI a)) = some (nI (mx a b)) := by
  unfold mx
  by_cases h : a ≤ b
  · rw [if_pos ((nI_leI ha hb).mpr h)]
    by_cases h2 : a < b
    · rw [if_pos h2]
    · rw [if_neg h2]
      have : a = b := by omega
      rw [this]
  · rw [if_neg (fun z => h ((nI_leI ha hb).mp z)), if_neg (by omega)]
theorem worst_eq {k : Nat} (hk : k < 5) {F W : Int64} {m : Nat} {fc : Nat → Nat} (hI : FI k W m fc) {C : ip_St} {s i : Nat} (hs : s < 3 ^ m) (hi : i < m) (h0 : dg s i = 0) (h29 : ∀ t, s < t → t < 3 ^ m → C.1 29 t = nI (lfN k (vw k W fc t m) F)) : f_P_worstBehind (nI s) (nI (3 ^ i)) C = some (nI (mx (lfN k (vw k W fc s m &&& sr k (fc i) false) F) (lfN k (vw k W fc s m &&& sr k (fc i) true) F))) := by
  have hm := hI.1
  have hp : 3 ^ m ≤ 729 := Nat.pow_le_pow_right (n := 3) (by decide) hm
  have hb := dgn_ck m hm s hs i hi h0
  have p3 : 0 < 3 ^ i := Nat.pow_pos (by decide)
  have n0 := vw_next hk W hm hI.2.1 (show s < 729 by omega) hi h0 false
  have n1 := vw_next hk W hm hI.2.1 (show s < 729 by omega) hi h0 true
  rw [show s + (b1 false + 1) * 3 ^ i = s + 3 ^ i by simp [b1]] at n0
  rw [show s + (b1 true + 1) * 3 ^ i = s + 2 * 3 ^ i by simp [b1]] at n1
  unfold f_P_worstBehind
  rw [show (2 : Int32) = nI 2 from rfl, pk_mul, nI_add, nI_add, aI_at (n := 729) rfl (by omega), Option.bind_some, aI_at (n := 729) rfl (by omega), Option.bind_some, h29 _ (by omega) (by omega), h29 _ (by omega) (by omega), n0, n1]
  have a0 := lfN_6 k F (vw k W fc s m &&& sr k (fc i) false)
  have a1 := lfN_6 k F (vw k W fc s m &&& sr k (fc i) true)
  exact mxI (by omega) (by omega)
theorem fewFrom_loop {k : Nat} (hk : k < 5) {F W : Int64} {m : Nat} {fc : Nat → Nat} (hI : FI k W m fc) {C : ip_St} {s : Nat} (hs : s < 3 ^ m) (c6 : C.1 26 6 = nI m) (h29 : ∀ t, s < t → t < 3 ^ m → C.1 29 t = nI (lfN k (vw k W fc t m) F)) : ∀ (e i n : Nat), i + e = m → e < n → f_P_fewFrom_11 n (nI s) (nI (lmn (fun i => gW k F (vw k W fc s m) (fc i)) (fun i => decide (dg s i = 0)) 6 i)) (nI (s / 3 ^ i)) (nI (3 ^ i)) (nI i) C = some (nI (lmn (fun i => gW k F (vw k W fc s m) (fc i)) (fun i => decide (dg s i = 0)) 6 m)) := by
  have hm := hI.1
  have hp : 3 ^ m ≤ 729 := Nat.pow_le_pow_right (n := 3) (by decide) hm
  intro e
  induction e with
  | zero =>
    intro i n hi hn
    obtain rfl : i = m := by omega
    obtain ⟨q, rfl⟩ : ∃ q, n = q + 1 := ⟨n - 1, by omega⟩
    rw [f_P_fewFrom_11, c6, if_pos (by rw [nI_leI (by omega) (by omega)]; omega)]
  | succ e ih =>
    intro i n hi hn
    obtain ⟨q, rfl⟩ : ∃ q, n = q + 1 := ⟨n - 1, by omega⟩
    have ih' := ih (i + 1) q (by omega) (by omega)
    have hd := Nat.div_le_self s (3 ^ i)
    have hlt := dg_lt s i
    have e1 : ip_irem (nI (s / 3 ^ i)) 3 = nI (dg s i) := by rw [show (3 : Int32) = nI 3 from rfl, irem_nI (by omega) (by omega) (by omega)]; rfl
    have e2 : nI (s / 3 ^ i) / 3 = nI (s / 3 ^ (i + 1)) := by rw [show (3 : Int32) = nI 3 from rfl, pk_div (by omega) (by omega) (by omega), Nat.div_div_eq_div_mul, ← Nat.pow_succ]
    have e3 : nI (3 ^ i) * 3 = nI (3 ^ (i + 1)) := by rw [show (3 : Int32) = nI 3 from rfl, pk_mul, ← Nat.pow_succ]
    have el : lmn (fun i => gW k F (vw k W fc s m) (fc i)) (fun i => decide (dg s i = 0)) 6 (i + 1) = if decide (dg s i = 0) = true ∧ gW k F (vw k W fc s m) (fc i) < lmn (fun i => gW k F (vw k W fc s m) (fc i)) (fun i => decide (dg s i = 0)) 6 i then gW k F (vw k W fc s m) (fc i) else lmn (fun i => gW k F (vw k W fc s m) (fc i)) (fun i => decide (dg s i = 0)) 6 i := rfl
    rw [f_P_fewFrom_11, c6, if_neg (by rw [nI_leI (by omega) (by omega)]; omega), e1, e2, e3, nI_1]
    rw [el] at ih'
    by_cases h0 : dg s i = 0
    · rw [h0, if_pos (show nI 0 = 0 from rfl), worst_eq hk hI hs (by omega) h0 h29, Option.bind_some, nI_1]
      rw [decide_eq_true h0] at ih'
      simp only [true_and] at ih'
      have a0 := lfN_6 k F (vw k W fc s m &&& sr k (fc i) false)
      have a1 := lfN_6 k F (vw k W fc s m &&& sr k (fc i) true)
      have hmx : mx (lfN k (vw k W fc s m &&& sr k (fc i) false) F) (lfN k (vw k W fc s m &&& sr k (fc i) true) F) ≤ 6 := mx_le.mpr ⟨a0, a1⟩
      have hl6 : lmn (fun i => gW k F (vw k W fc s m) (fc i)) (fun i => decide (dg s i = 0)) 6 i ≤ 6 := lmn_le.mpr (Or.inl (Nat.le_refl 6))
      by_cases hlt2 : gW k F (vw k W fc s m) (fc i) < lmn (fun i => gW k F (vw k W fc s m) (fc i)) (fun i => decide (dg s i = 0)) 6 i
      · rw [if_pos hlt2] at ih'
        have hlt3 : mx (lfN k (vw k W fc s m &&& sr k (fc i) false) F) (lfN k (vw k W fc s m &&& sr k (fc i) true) F) + 1 < lmn (fun i => gW k F (vw k W fc s m) (fc i)) (fun i => decide (dg s i = 0)) 6 i := hlt2
        rw [if_pos ((nI_ltI (by omega) (by omega)).mpr hlt3)]
        exact ih'
      · rw [if_neg hlt2] at ih'
        have hlt3 : ¬ mx (lfN k (vw k W fc s m &&& sr k (fc i) false) F) (lfN k (vw k W fc s m &&& sr k (fc i) true) F) + 1 < lmn (fun i => gW k F (vw k W fc s m) (fc i)) (fun i => decide (dg s i = 0)) 6 i := hlt2
        rw [if_neg (fun z => hlt3 ((nI_ltI (by omega) (by omega)).mp z))]
        exact ih'
    · rw [if_neg (nI_ne0 (by omega) (by omega))]
      rw [decide_eq_false h0, if_neg (by simp)] at ih'
      exact ih'
theorem fst_un {p : Nat → Bool} {f : Nat} (hf : f < 2 ^ 31) (hp : p f = true) (hlow : ∀ g, g < f → p g = false) : ∀ n, f < n → fstF p n = nI f := by
  have h0 : ∀ n, n ≤ f → fstF p n = -1 := by
    intro n
    induction n with
    | zero => intro _; rfl
    | succ n ih =>
      intro hn
      simp only [fstF]
      rw [if_pos (ih (by omega)), hlow n (by omega)]
      rfl
  intro n
  induction n with
  | zero =>
    intro h
    omega
  | succ n ih =>
    intro h
    simp only [fstF]
    by_cases q : f = n
    · subst q
      rw [if_pos (h0 f (Nat.le_refl f)), if_pos hp]
    · have e := ih (by omega)
      rw [e, if_neg (nI_n1 hf).1]
theorem fstq_loop {k : Nat} (hk : k < 5) {F W : Int64} (hF : sayd k F) {m : Nat} {fc : Nat → Nat} (hI : FI k W m fc) {C : ip_St} (c0 : C.1 26 0 = nI (lfN k W F)) (c6 : C.1 26 6 = nI m) (c27 : ∀ i, i < m → C.1 27 i = nI (fc i)) (h29 : ∀ t, 0 < t → t < 3 ^ m → C.1 29 t = nI (lfN k (vw k W fc t m) F)) : ∀ (e i n : Nat), i + e = m → e < n → (∀ i', i' < i → ¬ gW k F W (fc i') = lfN k W F) → f_P_firstQuestion_4 n (nI (3 ^ i)) (nI i) C = some (lfF k W F) := by
  have hm := hI.1
  have p0 : 0 < 3 ^ m := Nat.pow_pos (by decide)
  have d0 : ∀ i, dg 0 i = 0 := fun i => by unfold dg; simp
  intro e
  induction e with
  | zero =>
    intro i n hi hn hno
    obtain rfl : i = m := by omega
    obtain ⟨q, rfl⟩ : ∃ q, n = q + 1 := ⟨n - 1, by omega⟩
    rw [f_P_firstQuestion_4, c6, if_pos (by rw [nI_leI (by omega) (by omega)]; omega)]
    congr 1
    cases ho : opn W F with
    | false =>
      unfold lfF
      rw [ho]
      rfl
    | true =>
      exfalso
      have hP := Pb_cst hk hI 0
      rw [vw_0] at hP
      have he := left_eq hk hF ho (Pb fc i 0) hP 99 (by omega)
      have h6 := lfN_6 k F W
      have hle := lmn_le.mp (show lmn _ _ 99 6 ≤ lfN k W F from Nat.le_of_eq he)
      rcases hle with h | ⟨f, f1, f2, f3⟩
      · omega
      · obtain ⟨i', i1, i2, i3⟩ := Pb_iff.mp f2
        have hge : lfN k W F ≤ gW k F W f := by
          rw [← he]
          exact lmn_le.mpr (Or.inr ⟨f, f1, f2, Nat.le_refl _⟩)
        have f3' : gW k F W f ≤ lfN k W F := f3
        apply hno i' i1
        rw [i2]
        omega
  | succ e ih =>
    intro i n hi hn hno
    obtain ⟨q, rfl⟩ : ∃ q, n = q + 1 := ⟨n - 1, by omega⟩
    have hw := worst_eq hk hI (F := F) (C := C) p0 (show i < m by omega) (d0 i) h29
    rw [vw_0, show nI 0 = (0 : Int32) from rfl] at hw
    have e3 : nI (3 ^ i) * 3 = nI (3 ^ (i + 1)) := by rw [show (3 : Int32) = nI 3 from rfl, pk_mul, ← Nat.pow_succ]
    have a0 := lfN_6 k F (W &&& sr k (fc i) false)
    have a1 := lfN_6 k F (W &&& sr k (fc i) true)
    have hmx : mx (lfN k (W &&& sr k (fc i) false) F) (lfN k (W &&& sr k (fc i) true) F) ≤ 6 := mx_le.mpr ⟨a0, a1⟩
    have h6 := lfN_6 k F W
    rw [f_P_firstQuestion_4, c6, if_neg (by rw [nI_leI (by omega) (by omega)]; omega), hw, Option.bind_some, c0, nI_1, e3, nI_1]
    by_cases hg : gW k F W (fc i) = lfN k W F
    · have hg' : mx (lfN k (W &&& sr k (fc i) false) F) (lfN k (W &&& sr k (fc i) true) F) + 1 = lfN k W F := hg
      rw [if_pos (by rw [hg']), aI_at (n := 6) rfl (by omega), Option.bind_some, c27 i (by omega)]
      congr 1
      have hv : 0 < lfN k W F := by omega
      have ho : opn W F = true := by
        cases ho : opn W F with
        | true => rfl
        | false =>
          have := lfN_cl hk hF ho
          omega
      have hP := Pb_cst hk hI 0
      rw [vw_0] at hP
      have he := left_eq hk hF ho (Pb fc m 0) hP 99 (by omega)
      unfold lfF
      rw [if_pos ho]
      refine (fst_un (by have := hI.2.1 i (by omega); omega) ?_ (fun g hgl => ?_) 6 (hI.2.1 i (by omega))).symm
      · rw [Bool.and_eq_true, ← lfN_le hk hF, ← lfN_le hk hF]
        exact mx_le.mp (by omega)
      · have hi6 := hI.2.1 i (by omega)
        cases hpg : (QL k F (lfN k W F - 1) (W &&& sr k g false) && QL k F (lfN k W F - 1) (W &&& sr k g true)) with
        | false => rfl
        | true =>
          exfalso
          rw [Bool.and_eq_true, ← lfN_le hk hF, ← lfN_le hk hF] at hpg
          cases hb : Pb fc m 0 g with
          | true =>
            obtain ⟨i', i1, i2, i3⟩ := Pb_iff.mp hb
            have hge : lfN k W F ≤ gW k F W g := by
              rw [← he]
              exact lmn_le.mpr (Or.inr ⟨g, by omega, hb, Nat.le_refl _⟩)
            have hle := mx_le.mpr hpg
            have hge' : lfN k W F ≤ mx (lfN k (W &&& sr k g false) F) (lfN k (W &&& sr k g true) F) + 1 := hge
            have hii : i' < i := by
              rcases Nat.lt_or_ge i' i with z | z
              · exact z
              · rcases Nat.lt_or_ge i i' with y | y
                · have := hI.2.2.1 i i' y i1
                  omega
                · have : i = i' := by omega
                  rw [this] at hgl
                  omega
            apply hno i' hii
            show mx (lfN k (W &&& sr k (fc i') false) F) (lfN k (W &&& sr k (fc i') true) F) + 1 = lfN k W F
            rw [i2]
            omega
          | false =>
            obtain ⟨c, e1, -⟩ := cst_cut hk (show g < 6 by omega) (hP g (by omega) hb)
            cases c
            · rw [e1] at hpg; omega
            · rw [e1] at hpg; omega
    · have hg' : ¬ mx (lfN k (W &&& sr k (fc i) false) F) (lfN k (W &&& sr k (fc i) true) F) + 1 = lfN k W F := hg
      rw [if_neg (fun z => hg' ((nI_eq (by omega) (by omega)).mp z))]
      refine ih (i + 1) q (by omega) (by omega) (fun i' hi' => ?_)
      rcases Nat.lt_or_ge i' i with z | z
      · exact hno i' z
      · obtain rfl : i' = i := by omega
        exact hg
theorem weigh_loop {k : Nat} (hk : k < 5) {F W : Int64} (hF : sayd k F) {m : Nat} {fc : Nat → Nat} (hI : FI k W m fc) : ∀ (e n : Nat) (C : ip_St), e ≤ 3 ^ m → e < n → C.1 26 6 = nI m → (∀ i, i < m → C.1 27 i = nI (fc i)) → (∀ s, s < 3 ^ m → C.2 28 s = vw k W fc s m) → (∀ t, e ≤ t → t < 3 ^ m → C.1 29 t = nI (lfN k (vw k W fc t m) F)) → ∃ C', f_P_weigh_12 n F (nI e - 1) C = some C' ∧ C'.1 26 0 = nI (lfN k W F) ∧ C'.1 26 1 = lfF k W F ∧ C'.1 26 2 = C.1 26 2 ∧ C'.2 = C.2 := by
  have hm := hI.1
  have hp : 3 ^ m ≤ 729 := Nat.pow_le_pow_right (n := 3) (by decide) hm
  have p0 : 0 < 3 ^ m := Nat.pow_pos (by decide)
  intro e
  induction e with
  | zero =>
    intro n C he hn c6 c27 c28 c29
    obtain ⟨q, rfl⟩ : ∃ q, n = q + 1 := ⟨n - 1, by omega⟩
    have a0 := aI_at (S := C) (c := 29) (n := 729) (i := 0) rfl (by omega)
    rw [show nI 0 = (0 : Int32) from rfl, c29 0 (Nat.le_refl 0) p0, vw_0] at a0
    rw [f_P_weigh_12, if_pos (by decide), a0, Option.bind_some]
    have fq := fstq_loop hk hF hI (C := ip_upI C 26 0 (nI (lfN k W F))) (upI_same _ _ _ _) (by rw [upI_ne _ _ (by omega)]; exact c6) (fun i hi => by rw [upI_ne _ _ (by omega)]; exact c27 i hi) (fun t h1 h2 => by rw [upI_ne _ _ (by omega)]; exact c29 t (by omega) h2) m 0 ip_FU (by omega) (by rw [FU_eq]; omega) (fun i hi => absurd hi (Nat.not_lt_zero i))
    have fq' : f_P_firstQuestion (ip_upI C 26 0 (nI (lfN k W F))) = some (lfF k W F) := fq
    rw [fq', Option.bind_some]
    refine ⟨_, rfl, ?_, upI_same _ _ _ _, ?_, rfl⟩
    · rw [upI_ne _ _ (by omega), upI_same]
    · rw [upI_ne _ _ (by omega), upI_ne _ _ (by omega)]
  | succ e ih =>
    intro n C he hn c6 c27 c28 c29
    obtain ⟨q, rfl⟩ : ∃ q, n = q + 1 := ⟨n - 1, by omega⟩
    rw [nI_pred, f_P_weigh_12, if_neg (nI_pos (by omega)), aL_at (n := 729) rfl (by omega), Option.bind_some, c28 e (by omega)]
    have fin : ∀ v : Nat, v = lfN k (vw k W fc e m) F → ∃ C', f_P_weigh_72 (f_P_weigh_12 q) F (nI e) (nI e) (nI v) C = some C' ∧ C'.1 26 0 = nI (lfN k W F) ∧ C'.1 26 1 = lfF k W F ∧ C'.1 26 2 = C.1 26 2 ∧ C'.2 = C.2 := by
      intro v hv
      unfold f_P_weigh_72
      rw [wI_at (n := 729) rfl (by omega), Option.bind_some, sub1]
      obtain ⟨C', g1, g2, g3, g4, g5⟩ := ih q (ip_upI C 29 e (nI v)) (by omega) (by omega) (by rw [upI_ne _ _ (by omega)]; exact c6) (fun i hi => by rw [upI_ne _ _ (by omega)]; exact c27 i hi) c28 (fun t h1 h2 => by
        by_cases z : t = e
        · rw [z, upI_same, hv]
        · rw [upI_ne _ _ (by omega)]
          exact c29 t (by omega) h2)
      exact ⟨C', g1, g2, g3, by rw [g4, upI_ne _ _ (by omega)], g5⟩
    unfold f_P_weigh_50 f_P_weigh_51
    by_cases h1 : vw k W fc e m &&& F = 0
    · rw [if_pos h1, if_pos rfl]
      refine fin 0 ?_
      rw [lfN_cl hk hF]
      cases ho : opn (vw k W fc e m) F with
      | false => rfl
      | true => exact absurd h1 (opn_iff.mp ho).1
    · rw [if_neg h1]
      by_cases h2 : vw k W fc e m &&& (F ^^^ (-1)) = 0
      · rw [if_pos h2, if_pos rfl]
        refine fin 0 ?_
        rw [lfN_cl hk hF]
        cases ho : opn (vw k W fc e m) F with
        | false => rfl
        | true => exact absurd h2 (opn_iff.mp ho).2
      · have ho : opn (vw k W fc e m) F = true := opn_iff.mpr ⟨h1, h2⟩
        rw [if_neg h2, if_neg (show ¬ (1 : Int32) = 0 by decide)]
        have ff := fewFrom_loop hk (F := F) hI (C := C) (show e < 3 ^ m by omega) c6 (fun t h1 h2 => c29 t (by omega) h2) m 0 ip_FU (by omega) (by rw [FU_eq]; omega)
        have ff' : f_P_fewFrom (nI e) C = some (nI (lfN k (vw k W fc e m) F)) := by
          rw [idx_min hk hF hI e ho] at ff
          rw [Nat.pow_zero, Nat.div_one] at ff
          exact ff
        rw [ff', Option.bind_some]
        exact fin _ rfl
theorem prospect_eq {C : ip_St} {c : Nat} {d : JD} (hd : jok d) (hw : ¬ wy d = 0) (hc : jC C c d) (hX : RX C) : ∃ C', f_A_prospectOf c C = some C' ∧ C'.1 26 0 = nI (lfN d.1 (wy d) (fre d.1 (C.2 17 0))) ∧ C'.1 26 1 = lfF d.1 (wy d) (fre d.1 (C.2 17 0)) ∧ RX C' := by
  have hF := fre_sayd hd.1 (C.2 17 0)
  unfold f_A_prospectOf
  rw [worlds_eq hd hc, Option.bind_some, hc.1, freed_eq hd.1, Option.bind_some]
  by_cases hf : f_P_isFor (nI d.1) (wy d) (fre d.1 (C.2 17 0)) C = true
  · rw [if_pos hf]
    unfold f_P_isFor at hf
    have q1 : nI d.1 = C.1 26 2 := by
      apply Classical.byContradiction
      intro z
      rw [if_neg z] at hf
      cases hf
    rw [if_pos q1] at hf
    have q2 : wy d = C.2 26 3 := by
      apply Classical.byContradiction
      intro z
      rw [if_neg z] at hf
      cases hf
    rw [if_pos q2] at hf
    have q3 : fre d.1 (C.2 17 0) = C.2 26 4 := by
      apply Classical.byContradiction
      intro z
      rw [if_neg z] at hf
      cases hf
    refine ⟨C, rfl, ?_, ?_, hX⟩
    · rcases hX with h0 | ⟨k, k1, k2, k3, k4⟩
      · exact absurd (q2.trans h0) hw
      · have : k = d.1 := (nI_eq (by omega) (by have := hd.1; omega)).mp (k2.symm.trans q1.symm)
        rw [k3, this, ← q2, ← q3]
    · rcases hX with h0 | ⟨k, k1, k2, k3, k4⟩
      · exact absurd (q2.trans h0) hw
      · have : k = d.1 := (nI_eq (by omega) (by have := hd.1; omega)).mp (k2.symm.trans q1.symm)
        rw [k4, this, ← q2, ← q3]
  · rw [if_neg hf]
    obtain ⟨C1, m, fc, g1, ⟨s1, s2, s3, s4, s5, s6, s7⟩, g3, g4⟩ := spread_eq hd.1 (wy d) C
    rw [g1, Option.bind_some]
    have hI : FI d.1 (wy d) m fc := ⟨s1, fun i hi => (s4 i hi).2, s5, s6⟩
    have hp : 3 ^ m ≤ 729 := Nat.pow_le_pow_right (n := 3) (by decide) s1
    obtain ⟨C', w1, w2, w3, w4, w5⟩ := weigh_loop hd.1 hF hI (3 ^ m) ip_FU (ip_upL C1 26 4 (fre d.1 (C.2 17 0))) (Nat.le_refl _) (by rw [FU_eq]; omega) s2 (fun i hi => (s4 i hi).1) (fun s hs => by rw [upL_ne _ _ (by omega)]; exact s7 s hs) (fun t h1 h2 => by omega)
    have run : f_P_weigh (fre d.1 (C.2 17 0)) C1 = some C' := by
      unfold f_P_weigh
      rw [upL_1, s3]
      exact w1
    rw [run, Option.bind_some]
    have e3 : C'.2 26 3 = wy d := by rw [w5, upL_ne _ _ (by omega)]; exact g4
    have e4 : C'.2 26 4 = fre d.1 (C.2 17 0) := by rw [w5, upL_same]
    refine ⟨C', rfl, w2, w3, Or.inr ⟨d.1, hd.1, ?_, ?_, ?_⟩⟩
    · rw [w4, upL_1]
      exact g3
    · rw [e3, e4]
      exact w2
    · rw [e3, e4]
      exact w3
