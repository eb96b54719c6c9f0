/-! ===== the reference lays its codes ===== -/
theorem b1_t : b1 true = 1 := rfl
theorem b1_f : b1 false = 0 := rfl
theorem fact_step {k : Nat} {F W0 : Int64} {M : ip_St} (hk : k < 5) (hF : sayd k F) (hM : R48 k M) {c f : Nat} (hc : c < 729) (hf : f < 6) (h0 : dg c f = 0) (k53 : K80) (x6 : Int32) {L l0 l1 cur : Nat} (hL : L ≤ 99) (hl0 : l0 ≤ 99) (hl1 : l1 ≤ 99) (hcur : cur ≤ 99) (e0 : M.1 45 (c + (b1 false + 1) * 3 ^ f) = nI (lfN k (Wc k W0 c 6 &&& sr k f false) F)) (e1 : M.1 45 (c + (b1 true + 1) * 3 ^ f) = nI (lfN k (Wc k W0 c 6 &&& sr k f true) F)) (u0 : M.1 46 (c + (b1 false + 1) * 3 ^ f) = nI l0) (u1 : M.1 46 (c + (b1 true + 1) * 3 ^ f) = nI l1) (eL : M.1 46 c = nI L) (ec : M.1 45 c = nI cur) : ∃ M', f_M_layCode_80 k53 ip_FU (nI c) (Wc k W0 c 6) x6 (nI f) 0 0 M = k53 (nI c) (Wc k W0 c 6) x6 (nI (f + 1)) M' ∧ oth c M M' ∧ M'.1 46 c = nI (kst (decide (¬ Wc k W0 c 6 &&& sr k f true = 0)) l1 (kst (decide (¬ Wc k W0 c 6 &&& sr k f false = 0)) l0 L)) ∧ M'.1 45 c = nI (if mx (lfN k (Wc k W0 c 6 &&& sr k f false) F) (lfN k (Wc k W0 c 6 &&& sr k f true) F) + 1 < cur then mx (lfN k (Wc k W0 c 6 &&& sr k f false) F) (lfN k (Wc k W0 c 6 &&& sr k f true) F) + 1 else cur) ∧ M'.1 47 c = (if mx (lfN k (Wc k W0 c 6 &&& sr k f false) F) (lfN k (Wc k W0 c 6 &&& sr k f true) F) + 1 < cur then nI f else M.1 47 c) := by
  obtain ⟨p1, p2, p3⟩ := pow_ck f hf
  have h6 := lfN_6 k F (Wc k W0 c 6 &&& sr k f false)
  have h7 := lfN_6 k F (Wc k W0 c 6 &&& sr k f true)
  have s1 := said_step hk hF hM hc hf h0 k53 x6 false (wst := 0) (m := 999) (by omega) hL hl0 e0 u0 eL
  have hne0 : ¬ (c + (b1 false + 1) * 3 ^ f = c) := by rw [b1_f]; omega
  have hne1 : ¬ (c + (b1 true + 1) * 3 ^ f = c) := by rw [b1_t]; omega
  have hm0 : mx 0 (lfN k (Wc k W0 c 6 &&& sr k f false) F) = lfN k (Wc k W0 c 6 &&& sr k f false) F := by unfold mx; split <;> omega
  rw [hm0] at s1
  have s2 := said_step (M := ip_upI M 46 c (nI (kst (decide (¬ Wc k W0 c 6 &&& sr k f false = 0)) l0 L))) hk hF hM hc hf h0 k53 x6 true (wst := lfN k (Wc k W0 c 6 &&& sr k f false) F) (L := kst (decide (¬ Wc k W0 c 6 &&& sr k f false = 0)) l0 L) (m := 998) (by omega) (kst_99 hL) hl1 (by rw [upI_ne _ _ (by omega)]; exact e1) (by rw [upI_ne _ _ (fun z => hne1 z.2)]; exact u1) (upI_same _ _ _ _)
  have run : f_M_layCode_80 k53 ip_FU (nI c) (Wc k W0 c 6) x6 (nI f) 0 0 M = f_M_layCode_80 k53 (997 + 1) (nI c) (Wc k W0 c 6) x6 (nI f) (nI (mx (lfN k (Wc k W0 c 6 &&& sr k f false) F) (lfN k (Wc k W0 c 6 &&& sr k f true) F))) (nI 2) (ip_upI (ip_upI M 46 c (nI (kst (decide (¬ Wc k W0 c 6 &&& sr k f false = 0)) l0 L))) 46 c (nI (kst (decide (¬ Wc k W0 c 6 &&& sr k f true = 0)) l1 (kst (decide (¬ Wc k W0 c 6 &&& sr k f false = 0)) l0 L)))) := by
    rw [show ip_FU = 999 + 1 from rfl, show (0 : Int32) = nI 0 from rfl]
    rw [b1_f] at s1
    rw [s1]
    rw [b1_t] at s2
    exact s2
  rw [run, f_M_layCode_80, if_pos (by decide), aI_at (n := 729) rfl hc, Option.bind_some, upI_ne _ _ (by omega), upI_ne _ _ (by omega), ec, nI_1, nI_1]
  have hmx : mx (lfN k (Wc k W0 c 6 &&& sr k f false) F) (lfN k (Wc k W0 c 6 &&& sr k f true) F) ≤ 6 := mx_le.mpr ⟨h6, h7⟩
  generalize mx (lfN k (Wc k W0 c 6 &&& sr k f false) F) (lfN k (Wc k W0 c 6 &&& sr k f true) F) = g at hmx ⊢
  by_cases q : cur ≤ g + 1
  · rw [if_pos ((nI_leI (by omega) (by omega)).mpr q), if_neg (by omega), if_neg (by omega)]
    refine ⟨_, rfl, oth_u (by omega) (oth_u (by omega) oth_rf), upI_same _ _ _ _, ?_, ?_⟩
    · rw [upI_ne _ _ (by omega), upI_ne _ _ (by omega)]; exact ec
    · rw [upI_ne _ _ (by omega), upI_ne _ _ (by omega)]
  · rw [if_neg (fun z => q ((nI_leI (by omega) (by omega)).mp z)), wI_at (n := 729) rfl hc, Option.bind_some, wI_at (n := 729) rfl hc, Option.bind_some, if_pos (by omega), if_pos (by omega)]
    refine ⟨_, rfl, oth_u (by omega) (oth_u (by omega) (oth_u (by omega) (oth_u (by omega) oth_rf))), ?_, ?_, upI_same _ _ _ _⟩
    · rw [upI_ne _ _ (by omega), upI_ne _ _ (by omega), upI_same]
    · rw [upI_ne _ _ (by omega), upI_same]
def lv (M : ip_St) (c f : Nat) (b : Bool) : Nat := (M.1 46 (c + (b1 b + 1) * 3 ^ f)).toNatClampNeg
def kmn (k : Nat) (W : Int64) (M : ip_St) (c : Nat) : Nat → Nat
  | 0 => 99
  | n + 1 => if dg c n = 0 then kst (decide (¬ W &&& sr k n true = 0)) (lv M c n true) (kst (decide (¬ W &&& sr k n false = 0)) (lv M c n false) (kmn k W M c n)) else kmn k W M c n
theorem kmn_99 {k : Nat} {W : Int64} {M : ip_St} {c : Nat} : ∀ n, kmn k W M c n ≤ 99
  | 0 => Nat.le_refl _
  | n + 1 => by
    have := kmn_99 (k := k) (W := W) (M := M) (c := c) n
    simp only [kmn]
    split
    · exact kst_99 (kst_99 this)
    · exact this
theorem kmn_le {k : Nat} {W : Int64} {M : ip_St} {c m : Nat} : ∀ n, kmn k W M c n ≤ m ↔ 99 ≤ m ∨ ∃ f, f < n ∧ dg c f = 0 ∧ ∃ b : Bool, (¬ W &&& sr k f b = 0) ∧ lv M c f b + 1 ≤ m
  | 0 => ⟨fun h => Or.inl h, fun h => by rcases h with h | ⟨f, h, -⟩; exact h; exact absurd h (Nat.not_lt_zero f)⟩
  | n + 1 => by
    have ih := kmn_le (k := k) (W := W) (M := M) (c := c) (m := m) n
    simp only [kmn]
    by_cases h0 : dg c n = 0
    · rw [if_pos h0, kst_le, kst_le, ih]
      constructor
      · rintro (((h | ⟨f, f1, f2⟩) | ⟨h1, h2⟩) | ⟨h1, h2⟩)
        · exact Or.inl h
        · exact Or.inr ⟨f, by omega, f2⟩
        · exact Or.inr ⟨n, by omega, h0, false, of_decide_eq_true h1, h2⟩
        · exact Or.inr ⟨n, by omega, h0, true, of_decide_eq_true h1, h2⟩
      · rintro (h | ⟨f, f1, f2, b, f3, f4⟩)
        · exact Or.inl (Or.inl (Or.inl h))
        · rcases Nat.lt_or_ge f n with q | q
          · exact Or.inl (Or.inl (Or.inr ⟨f, q, f2, b, f3, f4⟩))
          · obtain rfl : f = n := by omega
            cases b
            · exact Or.inl (Or.inr ⟨decide_eq_true f3, f4⟩)
            · exact Or.inr ⟨decide_eq_true f3, f4⟩
    · rw [if_neg h0, ih]
      constructor
      · rintro (h | ⟨f, f1, f2⟩)
        · exact Or.inl h
        · exact Or.inr ⟨f, by omega, f2⟩
      · rintro (h | ⟨f, f1, f2, f3⟩)
        · exact Or.inl h
        · have : ¬ f = n := fun z => h0 (by rw [← z]; exact f2)
          exact Or.inr ⟨f, by omega, f2, f3⟩
abbrev gW (k : Nat) (F W : Int64) : Nat → Nat := fun f => mx (lfN k (W &&& sr k f false) F) (lfN k (W &&& sr k f true) F) + 1
theorem facts_loop {k : Nat} {F W0 : Int64} (hk : k < 5) (hF : sayd k F) {c : Nat} (hc : c < 729) (M0 : ip_St) (hM0 : R48 k M0) (hv : ∀ c', c < c' → c' < 729 → CV k F W0 M0 c') : ∀ (e f n : Nat) (M : ip_St), f + e = 6 → e < n → oth c M0 M → M.1 45 c = nI (lmn (gW k F (Wc k W0 c 6)) (fun f => decide (dg c f = 0)) 99 f) → M.1 47 c = lfm (gW k F (Wc k W0 c 6)) (fun f => decide (dg c f = 0)) 99 f → M.1 46 c = nI (kmn k (Wc k W0 c 6) M0 c f) → ∃ M', f_M_layCode_53 n (nI c) (Wc k W0 c 6) 0 (nI f) M = some M' ∧ oth c M0 M' ∧ M'.1 45 c = nI (lmn (gW k F (Wc k W0 c 6)) (fun f => decide (dg c f = 0)) 99 6) ∧ M'.1 47 c = lfm (gW k F (Wc k W0 c 6)) (fun f => decide (dg c f = 0)) 99 6 ∧ M'.1 46 c = nI (kmn k (Wc k W0 c 6) M0 c 6) := by
  intro e
  induction e with
  | zero =>
    intro f n M hf hn ho h1 h2 h3
    obtain rfl : f = 6 := by omega
    obtain ⟨m, rfl⟩ : ∃ m, n = m + 1 := ⟨n - 1, by omega⟩
    rw [f_M_layCode_53, if_pos (by decide)]
    exact ⟨M, rfl, ho, h1, h2, h3⟩
  | succ e ih =>
    intro f n M hf hn ho h1 h2 h3
    obtain ⟨m, rfl⟩ : ∃ m, n = m + 1 := ⟨n - 1, by omega⟩
    have hf6 : f < 6 := by omega
    rw [f_M_layCode_53, if_neg (by rw [show (6 : Int32) = nI 6 from rfl, nI_leI (by omega) (by omega)]; omega), if_pos rfl, digit_eq hc hf6, Option.bind_some]
    have el : lmn (gW k F (Wc k W0 c 6)) (fun f => decide (dg c f = 0)) 99 (f + 1) = if decide (dg c f = 0) = true ∧ gW k F (Wc k W0 c 6) f < lmn (gW k F (Wc k W0 c 6)) (fun f => decide (dg c f = 0)) 99 f then gW k F (Wc k W0 c 6) f else lmn (gW k F (Wc k W0 c 6)) (fun f => decide (dg c f = 0)) 99 f := rfl
    have em : lfm (gW k F (Wc k W0 c 6)) (fun f => decide (dg c f = 0)) 99 (f + 1) = if decide (dg c f = 0) = true ∧ gW k F (Wc k W0 c 6) f < lmn (gW k F (Wc k W0 c 6)) (fun f => decide (dg c f = 0)) 99 f then nI f else lfm (gW k F (Wc k W0 c 6)) (fun f => decide (dg c f = 0)) 99 f := rfl
    have ek : kmn k (Wc k W0 c 6) M0 c (f + 1) = if dg c f = 0 then kst (decide (¬ Wc k W0 c 6 &&& sr k f true = 0)) (lv M0 c f true) (kst (decide (¬ Wc k W0 c 6 &&& sr k f false = 0)) (lv M0 c f false) (kmn k (Wc k W0 c 6) M0 c f)) else kmn k (Wc k W0 c 6) M0 c f := rfl
    by_cases h0 : dg c f = 0
    · rw [h0, if_pos (show nI 0 = 0 from rfl)]
      obtain ⟨p1, p2, p3⟩ := pow_ck f hf6
      have nx : ∀ b : Bool, c < c + (b1 b + 1) * 3 ^ f ∧ c + (b1 b + 1) * 3 ^ f < 729 := by
        intro b
        have hb : b1 b < 2 := by cases b <;> decide
        refine ⟨?_, (dg_ck c hc f hf6 h0 (b1 b) hb).1⟩
        have : 0 < (b1 b + 1) * 3 ^ f := Nat.mul_pos (by omega) p3
        omega
      have cv : ∀ b : Bool, M.1 45 (c + (b1 b + 1) * 3 ^ f) = nI (lfN k (Wc k W0 c 6 &&& sr k f b) F) ∧ lv M0 c f b ≤ 99 ∧ M.1 46 (c + (b1 b + 1) * 3 ^ f) = nI (lv M0 c f b) := by
        intro b
        obtain ⟨x1, x2⟩ := nx b
        obtain ⟨a, -, v, v1, v2, -⟩ := hv _ x1 x2
        have hl : lv M0 c f b = v := by unfold lv; rw [v2, nI_clamp (by omega)]
        refine ⟨?_, by omega, ?_⟩
        · rw [ho.2 _ _ (by omega), a, Wc_next hk W0 hc hf6 h0 b]
        · rw [ho.2 _ _ (by omega), v2, hl]
      have hR : R48 k M := fun i hi => by rw [ho.1]; exact hM0 i hi
      have hcur : lmn (gW k F (Wc k W0 c 6)) (fun f => decide (dg c f = 0)) 99 f ≤ 99 := lmn_le.mpr (Or.inl (Nat.le_refl 99))
      obtain ⟨M', g1, g2, g3, g4, g5⟩ := fact_step hk hF hR hc hf6 h0 (f_M_layCode_53 m) 0 (kmn_99 f) (cv false).2.1 (cv true).2.1 hcur (cv false).1 (cv true).1 (cv false).2.2 (cv true).2.2 h3 h1
      rw [g1]
      refine ih (f + 1) m M' (by omega) (by omega) (oth_tr ho g2) ?_ ?_ ?_
      · rw [g4, el, decide_eq_true h0]
        simp only [true_and]
      · rw [g5, em, h2, decide_eq_true h0]
        simp only [true_and]
      · rw [g3, ek, if_pos h0]
    · have hlt := dg_lt c f
      rw [if_neg (nI_ne0 (by omega) (by omega)), nI_1]
      refine ih (f + 1) m M (by omega) (by omega) ho ?_ ?_ ?_
      · rw [h1, el, decide_eq_false h0, if_neg (by simp)]
      · rw [h2, em, decide_eq_false h0, if_neg (by simp)]
      · rw [h3, ek, if_neg h0]
theorem code_eq {k : Nat} {F W0 : Int64} (hk : k < 5) (hF : sayd k F) {c : Nat} (hc : c < 729) (M : ip_St) (hM : R48 k M) (hv : ∀ c', c < c' → c' < 729 → CV k F W0 M c') : ∃ M', f_M_layCode (nI c) (Wc k W0 c 6) F M = some M' ∧ oth c M M' ∧ CV k F W0 M' c := by
  have cl : ∀ (x6 : Int32) (v : Nat), ¬ x6 = 0 → v ≤ 99 → opn (Wc k W0 c 6) F = false → (¬ Wc k W0 c 6 = 0 → ∀ n, n < 99 → (v ≤ n ↔ LKP k F n (Wc k W0 c 6))) → ∃ M', f_M_layCode_53 ip_FU (nI c) (Wc k W0 c 6) x6 0 (ip_upI (ip_upI (ip_upI M 45 c 0) 47 c (-1)) 46 c (nI v)) = some M' ∧ oth c M M' ∧ CV k F W0 M' c := by
    intro x6 v hx hv9 ho hlk
    rw [show ip_FU = 999 + 1 from rfl, f_M_layCode_53, if_neg (by decide), if_neg hx]
    refine ⟨_, rfl, oth_u (by omega) (oth_u (by omega) (oth_u (by omega) oth_rf)), ?_, ?_, v, hv9, upI_same _ _ _ _, hlk⟩
    · rw [upI_ne _ _ (by omega), upI_ne _ _ (by omega), upI_same, lfN_cl hk hF ho]
      rfl
    · rw [upI_ne _ _ (by omega), upI_same]
      unfold lfF
      rw [ho]
      rfl
  unfold f_M_layCode f_M_layCode_24 f_M_layCode_49
  rw [wI_at (n := 729) rfl hc, wI_at (n := 729) rfl hc]
  simp only [Option.bind_some]
  rw [wI_at (n := 729) rfl hc, wI_at (n := 729) rfl hc]
  simp only [Option.bind_some]
  rw [wI_at (n := 729) rfl hc, wI_at (n := 729) rfl hc, wI_at (n := 729) rfl hc, wI_at (n := 729) rfl hc]
  simp only [Option.bind_some]
  unfold f_M_verdictBy
  by_cases h1 : Wc k W0 c 6 &&& (F ^^^ (-1)) = 0
  · have ho : opn (Wc k W0 c 6) F = false := by
      cases q : opn (Wc k W0 c 6) F with
      | false => rfl
      | true => exact absurd h1 (opn_iff.mp q).2
    rw [if_pos h1, if_neg (show ¬ (1 : Int32) = 0 by decide), if_pos rfl]
    exact cl 1 0 (by decide) (by omega) ho (fun h0 n _ => ⟨fun _ => LKP_sub h1 h0 n, fun _ => Nat.zero_le n⟩)
  · rw [if_neg h1]
    by_cases h2 : Wc k W0 c 6 &&& F = 0
    · have ho : opn (Wc k W0 c 6) F = false := by
        cases q : opn (Wc k W0 c 6) F with
        | false => rfl
        | true => exact absurd h2 (opn_iff.mp q).1
      rw [if_pos h2, if_neg (show ¬ (2 : Int32) = 0 by decide), if_neg (show ¬ (2 : Int32) = 1 by decide)]
      exact cl 2 99 (by decide) (by omega) ho (fun _ n hn => ⟨fun z => by omega, fun z => absurd z (LKP_no h2 n)⟩)
    · have ho : opn (Wc k W0 c 6) F = true := opn_iff.mpr ⟨h2, h1⟩
      rw [if_neg h2, if_pos rfl, if_neg (show ¬ (0 : Int32) = 1 by decide)]
      have ho0 : oth c M (ip_upI (ip_upI (ip_upI M 45 c 99) 47 c (-1)) 46 c 99) := oth_u (by omega) (oth_u (by omega) (oth_u (by omega) oth_rf))
      obtain ⟨M', g1, g2, g3, g4, g5⟩ := facts_loop hk hF hc M hM hv 6 0 ip_FU _ rfl (by rw [FU_eq]; omega) ho0 (by rw [upI_ne _ _ (by omega), upI_ne _ _ (by omega), upI_same]; rfl) (by rw [upI_ne _ _ (by omega), upI_same]; rfl) (by rw [upI_same]; rfl)
      have hP : ∀ f, f < 6 → decide (dg c f = 0) = false → cst k f (Wc k W0 c 6) := fun f hf q => Wc_cst hk W0 hf (of_decide_eq_false q)
      refine ⟨M', g1, g2, ?_, ?_, kmn k (Wc k W0 c 6) M c 6, kmn_99 6, g5, fun h0 n hn => ?_⟩
      · rw [g3, left_eq hk hF ho _ hP 99 (by omega)]
      · rw [g4, left_fst hk hF ho _ hP 99 (by omega)]
      · rw [kmn_le 6, LKP_step hk ho _ hP n]
        constructor
        · rintro (h | ⟨f, f1, f2, b, f3, f4⟩)
          · omega
          · refine ⟨f, f1, decide_eq_true f2, b, f3, n - 1, by omega, ?_⟩
            have hb : b1 b < 2 := by cases b <;> decide
            obtain ⟨p1, p2, p3⟩ := pow_ck f f1
            have hpos : 0 < (b1 b + 1) * 3 ^ f := Nat.mul_pos (by omega) p3
            obtain ⟨-, -, v, v1, v2, v3⟩ := hv _ (by omega) (dg_ck c hc f f1 f2 (b1 b) hb).1
            rw [Wc_next hk W0 hc f1 f2 b] at v3
            have hl : lv M c f b = v := by unfold lv; rw [v2, nI_clamp (by omega)]
            exact (v3 f3 (n - 1) (by omega)).mp (by omega)
        · rintro ⟨f, f1, f2, b, f3, m, rfl, f4⟩
          have f2' : dg c f = 0 := of_decide_eq_true f2
          refine Or.inr ⟨f, f1, f2', b, f3, ?_⟩
          have hb : b1 b < 2 := by cases b <;> decide
          obtain ⟨p1, p2, p3⟩ := pow_ck f f1
          have hpos : 0 < (b1 b + 1) * 3 ^ f := Nat.mul_pos (by omega) p3
          obtain ⟨-, -, v, v1, v2, v3⟩ := hv _ (by omega) (dg_ck c hc f f1 f2' (b1 b) hb).1
          rw [Wc_next hk W0 hc f1 f2' b] at v3
          have hl : lv M c f b = v := by unfold lv; rw [v2, nI_clamp (by omega)]
          have := (v3 f3 m (by omega)).mpr f4
          omega
theorem sub1 (x : Int32) : x + (-1) = x - 1 := by rw [Int32.sub_eq_add_neg]
theorem codes_loop {k : Nat} {F W0 : Int64} (hk : k < 5) (hF : sayd k F) (x6 : Int32) : ∀ (e n : Nat) (M : ip_St), e ≤ 729 → e < n → R48 k M → (∀ c, e ≤ c → c < 729 → CV k F W0 M c) → ∃ M', f_M_layCodes_127 n W0 F x6 (nI e - 1) M = some (x6, M') ∧ ∀ c, c < 729 → CV k F W0 M' c := by
  intro e
  induction e with
  | zero =>
    intro n M he hn hR hv
    obtain ⟨m, rfl⟩ : ∃ m, n = m + 1 := ⟨n - 1, by omega⟩
    rw [f_M_layCodes_127, if_pos (by decide)]
    exact ⟨M, rfl, fun c hc => hv c (Nat.zero_le c) hc⟩
  | succ e ih =>
    intro n M he hn hR hv
    obtain ⟨m, rfl⟩ : ∃ m, n = m + 1 := ⟨n - 1, by omega⟩
    rw [nI_pred, f_M_layCodes_127, if_neg (nI_pos (by omega)), waysBy_eq hR W0 (by omega), Option.bind_some, sub1]
    obtain ⟨M', g1, g2, g3⟩ := code_eq (W0 := W0) hk hF (show e < 729 by omega) M hR (fun c h1 h2 => hv c (by omega) h2)
    rw [g1, Option.bind_some]
    refine ih m M' (by omega) (by omega) (fun i hi => by rw [g2.1]; exact hR i hi) (fun c h1 h2 => ?_)
    by_cases q : c = e
    · subst q
      exact g3
    · exact CV_oth g2 q (hv c (by omega) h2)
-- the code of what was heard
def hdg (d : JD) (f : Nat) : Nat := if d.2.2.2.2.1.testBit f then b1 (d.2.2.2.2.2.testBit f) + 1 else 0
def cd (h : Nat → Nat) : Nat → Nat
  | 0 => 0
  | n + 1 => cd h n + h n * 3 ^ n
def kwF (d : JD) : Nat → Int64
  | 0 => -1
  | f + 1 => kwF d f &&& (if d.2.2.1.testBit f then f_M_keptIf (rw0 f) (b2 (d.2.2.2.1.testBit f)) else -1)
theorem hdg_lt (d : JD) (f : Nat) : hdg d f < 3 := by
  unfold hdg
  split
  · cases d.2.2.2.2.2.testBit f <;> decide
  · decide
theorem cd_ck : ∀ a, a < 3 → ∀ b, b < 3 → ∀ c, c < 3 → ∀ d, d < 3 → ∀ e, e < 3 → ∀ f, f < 3 → (a + b * 3 + c * 9 + d * 27 + e * 81 + f * 243 < 729 ∧ dg (a + b * 3 + c * 9 + d * 27 + e * 81 + f * 243) 0 = a ∧ dg (a + b * 3 + c * 9 + d * 27 + e * 81 + f * 243) 1 = b ∧ dg (a + b * 3 + c * 9 + d * 27 + e * 81 + f * 243) 2 = c ∧ dg (a + b * 3 + c * 9 + d * 27 + e * 81 + f * 243) 3 = d ∧ dg (a + b * 3 + c * 9 + d * 27 + e * 81 + f * 243) 4 = e ∧ dg (a + b * 3 + c * 9 + d * 27 + e * 81 + f * 243) 5 = f) := by
  intro a ha b hb c hc d hd e he f hf
  unfold dg
  simp only [Nat.reducePow]
  refine ⟨?_, ?_, ?_, ?_, ?_, ?_, ?_⟩ <;> omega
theorem cd_dg (h : Nat → Nat) (hh : ∀ f, h f < 3) : cd h 6 < 729 ∧ ∀ f, f < 6 → dg (cd h 6) f = h f := by
  have e : cd h 6 = h 0 + h 1 * 3 + h 2 * 9 + h 3 * 27 + h 4 * 81 + h 5 * 243 := by simp [cd]
  obtain ⟨q, q0, q1, q2, q3, q4, q5⟩ := cd_ck (h 0) (hh 0) (h 1) (hh 1) (h 2) (hh 2) (h 3) (hh 3) (h 4) (hh 4) (h 5) (hh 5)
  rw [e]
  refine ⟨q, fun f hf => ?_⟩
  rcases (show f = 0 ∨ f = 1 ∨ f = 2 ∨ f = 3 ∨ f = 4 ∨ f = 5 by omega) with rfl | rfl | rfl | rfl | rfl | rfl
  · exact q0
  · exact q1
  · exact q2
  · exact q3
  · exact q4
  · exact q5
theorem lb_kw {d : JD} {w : Nat} (hw : w < 64) : ∀ n, n ≤ 6 → (lb (kwF d n) w = true ↔ ∀ f, f < n → d.2.2.1.testBit f = true → w.testBit f = d.2.2.2.1.testBit f) := by
  intro n
  induction n with
  | zero =>
    intro _
    exact ⟨fun _ f hf => absurd hf (Nat.not_lt_zero f), fun _ => lb_m1 hw⟩
  | succ n ih =>
    intro hn
    simp only [kwF]
    rw [lb_and, Bool.and_eq_true, ih (by omega)]
    have e1 : lb (if d.2.2.1.testBit n = true then f_M_keptIf (rw0 n) (b2 (d.2.2.2.1.testBit n)) else -1) w = true ↔ (d.2.2.1.testBit n = true → w.testBit n = d.2.2.2.1.testBit n) := by
      cases hb : d.2.2.1.testBit n with
      | false => simp [lb_m1 hw]
      | true =>
        simp only [if_true, forall_const]
        rw [lb_kb _ _ hw, lb_rw_ck n (by omega) w hw]
        simp
    rw [e1]
    constructor
    · rintro ⟨a, b⟩ f hf
      rcases Nat.lt_or_ge f n with q | q
      · exact a f q
      · obtain rfl : f = n := by omega
        exact b
    · intro a
      exact ⟨fun f hf => a f (by omega), a n (by omega)⟩
theorem Wc_wy {d : JD} (hd : jok d) : Wc d.1 (kwF d 6) (cd (hdg d) 6) 6 = wy d := by
  obtain ⟨-, hg⟩ := cd_dg (hdg d) (hdg_lt d)
  apply lb_iff
  intro w hw
  rw [lb_Wc hd.1 _ _ hw 6 (Nat.le_refl 6), lb_kw hw 6 (Nat.le_refl 6), lb_wy hd.1 hw]
  constructor
  · rintro ⟨a, b⟩ f hf
    refine ⟨a f hf, fun q => ?_⟩
    have := b f hf
    rw [hg f hf] at this
    have e : hdg d f = b1 (d.2.2.2.2.2.testBit f) + 1 := by unfold hdg; rw [if_pos q]
    rw [e] at this
    rw [this (by omega)]
    cases d.2.2.2.2.2.testBit f <;> decide
  · intro h
    refine ⟨fun f hf => (h f hf).1, fun f hf q => ?_⟩
    rw [hg f hf] at q ⊢
    have hb : d.2.2.2.2.1.testBit f = true := by
      cases z : d.2.2.2.2.1.testBit f with
      | true => rfl
      | false =>
        exfalso
        apply q
        unfold hdg
        rw [z]
        rfl
    have e : hdg d f = b1 (d.2.2.2.2.2.testBit f) + 1 := by unfold hdg; rw [if_pos hb]
    rw [e, (h f hf).2 hb]
    cases d.2.2.2.2.2.testBit f <;> decide
theorem lay17 {j : Nat} {d : JD} (hj : j < 3) (hd : jok d) {F : Int64} (hF : sayd d.1 F) : ∀ (e f n : Nat) (M : ip_St), f + e = 6 → e < n → RT M → jM M 42 43 44 j d → (∀ g, g < f → M.2 48 g = srow d.1 g) → ∃ M', f_M_layCodes_17 n (nI j) (kwF d f) F (nI (cd (hdg d) f)) (nI f) M = some (nI (cd (hdg d) 6), M') ∧ ∀ c, c < 729 → CV d.1 F (kwF d 6) M' c := by
  intro e
  induction e with
  | zero =>
    intro f n M hf hn hT hm hR
    obtain rfl : f = 6 := by omega
    obtain ⟨m, rfl⟩ : ∃ m, n = m + 1 := ⟨n - 1, by omega⟩
    rw [f_M_layCodes_17, if_pos (by decide)]
    exact codes_loop hd.1 hF (nI (cd (hdg d) 6)) 729 ip_FU M (Nat.le_refl _) (by rw [FU_eq]; omega) hR (fun c h1 h2 => by omega)
  | succ e ih =>
    intro f n M hf hn hT hm hR
    obtain ⟨m, rfl⟩ : ∃ m, n = m + 1 := ⟨n - 1, by omega⟩
    have hf6 : f < 6 := by omega
    obtain ⟨p1, p2, p3⟩ := pow_ck f hf6
    rw [f_M_layCodes_17, if_neg (by rw [show (6 : Int32) = nI 6 from rfl, nI_leI (by omega) (by omega)]; omega), i2, aI_at (n := 6) rfl (by omega), Option.bind_some, hm.1, saysRow_eq hT hd.1 hf6, Option.bind_some, wL_at (n := 6) rfl hf6, Option.bind_some]
    have hT1 : RT (ip_upL M 48 f (srow d.1 f)) := by
      intro k hk g hg
      rw [upL_ne _ _ (by omega)]
      exact hT k hk g hg
    have hm1 : jM (ip_upL M 48 f (srow d.1 f)) 42 43 44 j d := hm
    have hR1 : ∀ g, g < f + 1 → (ip_upL M 48 f (srow d.1 f)).2 48 g = srow d.1 g := by
      intro g hg
      by_cases q : g = f
      · rw [q, upL_same]
      · rw [upL_ne _ _ (by omega)]
        exact hR g (by omega)
    have go := ih (f + 1) m (ip_upL M 48 f (srow d.1 f)) (by omega) (by omega) hT1 hm1 hR1
    have hcd : nI (cd (hdg d) f) + (kf d.2.2.2.2.1 d.2.2.2.2.2 f + 1) * f_M_powerOf (nI f) = nI (cd (hdg d) (f + 1)) := by
      have : kf d.2.2.2.2.1 d.2.2.2.2.2 f + 1 = nI (hdg d f) := by
        unfold kf hdg
        cases d.2.2.2.2.1.testBit f <;> cases d.2.2.2.2.2.testBit f <;> decide
      rw [this, p1, pk_mul, nI_add]
      rfl
    have tail : ∀ y : Int64, kwF d f &&& y = kwF d (f + 1) → f_M_layCodes_89 (f_M_layCodes_17 m) (nI j) F (nI (cd (hdg d) f)) (nI f) (kwF d f) y (ip_upL M 48 f (srow d.1 f)) = f_M_layCodes_17 m (nI j) (kwF d (f + 1)) F (nI (cd (hdg d) (f + 1))) (nI (f + 1)) (ip_upL M 48 f (srow d.1 f)) := by
      intro y hy
      unfold f_M_layCodes_89
      rw [i6, aI_at (n := 18) rfl (by omega), Option.bind_some, hm1.2.2.2 f hf6, hcd, hy, nI_1]
    rw [i6, aI_at (n := 18) rfl (by omega), Option.bind_some, hm1.2.2.1 f hf6]
    have ekw : kwF d (f + 1) = kwF d f &&& (if d.2.2.1.testBit f then f_M_keptIf (rw0 f) (b2 (d.2.2.2.1.testBit f)) else -1) := rfl
    by_cases hk : kf d.2.2.1 d.2.2.2.1 f = -1
    · rw [if_pos hk]
      rw [kf_neg] at hk
      rw [tail (-1) (by rw [ekw, hk]; rfl)]
      exact go
    · rw [if_neg hk, rowOf_eq hT1 hf6, Option.bind_some, Option.bind_some]
      rw [kf_neg] at hk
      have hk2 : d.2.2.1.testBit f = true := by simpa using hk
      have hkf : kf d.2.2.1 d.2.2.2.1 f = b2 (d.2.2.2.1.testBit f) := by unfold kf; rw [hk2]; rfl
      rw [hkf, tail _ (by rw [ekw, hk2]; rfl)]
      exact go
/-- what the reference tells of a judge's left and luck -/
theorem leftM {C M : ip_St} {J j : Nat} (hT : RT M) (hJ : J ≤ 3) (hn : RNow C M J) (hj : j < J) {d : JD} (d1 : jok d) (d2 : ¬ wy d = 0) (d4 : jM M 42 43 44 j d) : ∃ M' v, f_M_leftOf (nI j) 4 M = some (nI (lfN d.1 (wy d) (fre d.1 (M.2 30 17))), M') ∧ f_M_leftOf (nI j) 5 M = some (lfF d.1 (wy d) (fre d.1 (M.2 30 17)), M') ∧ f_M_leftOf (nI j) 6 M = some (if v ≤ 9 then nI v else -1, M') ∧ v ≤ 99 ∧ ∀ n, n < 99 → (v ≤ n ↔ LKP d.1 (fre d.1 (M.2 30 17)) n (wy d)) := by
  have hj3 : j < 3 := by omega
  obtain ⟨M', g1, g2⟩ := lay17 hj3 d1 (fre_sayd d1.1 (M.2 30 17)) 6 0 ip_FU M rfl (by rw [FU_eq]; omega) hT d4 (fun g hg => absurd hg (Nat.not_lt_zero g))
  have run : f_M_layCodes (nI j) M = some (nI (cd (hdg d) 6), M') := by
    unfold f_M_layCodes
    rw [freesOf_eq hj3 d1 d4, Option.bind_some]
    exact g1
  obtain ⟨hlt, -⟩ := cd_dg (hdg d) (hdg_lt d)
  obtain ⟨a, b, v, v1, v2, v3⟩ := g2 _ hlt
  rw [Wc_wy d1] at a b v3
  refine ⟨M', v, ?_, ?_, ?_, v1, v3 d2⟩
  · unfold f_M_leftOf
    rw [run, Option.bind_some, if_pos rfl, aI_at (n := 729) rfl hlt, Option.bind_some, a]
  · unfold f_M_leftOf
    rw [run, Option.bind_some, if_neg (by decide), if_pos rfl, aI_at (n := 729) rfl hlt, Option.bind_some, b]
  · unfold f_M_leftOf
    rw [run, Option.bind_some, if_neg (by decide), if_neg (by decide), aI_at (n := 729) rfl hlt, Option.bind_some, v2, Option.bind_some]
    by_cases q : v ≤ 9
    · rw [if_pos (show nI v ≤ 9 from (nI_leI (b := 9) (by omega) (by omega)).mpr q), if_pos q]
    · rw [if_neg (show ¬ nI v ≤ 9 from fun z => q ((nI_leI (b := 9) (by omega) (by omega)).mp z)), if_neg q]
