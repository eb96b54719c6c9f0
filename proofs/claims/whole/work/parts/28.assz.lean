/-! ===== assizes ===== -/
theorem and31 (x : Int64) : ∃ q, q < 2 ^ 31 ∧ Int64.toInt32 (x &&& 2147483647) = nI q := by
  refine ⟨tn x % 2 ^ 31, Nat.mod_lt _ (by decide), ?_⟩
  apply Int32.toBitVec_inj.mp
  show ((x &&& 2147483647).toBitVec.signExtend 32) = BitVec.ofNat 32 (tn x % 2 ^ 31)
  have : ((x &&& 2147483647).toBitVec.signExtend 32) = (x &&& 2147483647).toBitVec.setWidth 32 := BitVec.signExtend_eq_setWidth_of_le _ (by decide)
  rw [this]
  apply BitVec.eq_of_toNat_eq
  rw [BitVec.toNat_setWidth, BitVec.toNat_ofNat]
  have h2 : (x &&& 2147483647).toBitVec.toNat = tn x % 2 ^ 31 := by
    have h3 : (x &&& 2147483647).toBitVec.toNat = tn x &&& (2 ^ 31 - 1) := tn_and x 2147483647
    rw [h3, Nat.and_two_pow_sub_one_eq_mod]
  rw [h2]
theorem seed_ex (p : Int32) : ∃ q, q < 2 ^ 31 ∧ f_A_nextSeed p = nI q := and31 _
theorem drawn_eq {q J : Nat} (hq : q < 2 ^ 31) (h0 : 0 < J) (hJ : J ≤ 3) : f_A_drawn (nI q) (nI J) = some (nI (q / 65536 % J)) := by
  unfold f_A_drawn
  rw [if_neg (nI_nle h0 (by omega)), if_neg (nI_ne0 h0 (by omega)), show (16 : Int32) = nI 16 from rfl, nI_ushr (by decide) (by omega), irem_nI (by omega) h0 (by omega)]
theorem draw_eq {M : ip_St} {s : Int32} {q J : Nat} (hs : M.1 30 31 = s) (hq : f_A_nextSeed s = nI q) (hq2 : q < 2 ^ 31) (h0 : 0 < J) (hJ : J ≤ 3) : f_M_draw (nI J) M = some (nI (q / 65536 % J), ip_upI M 30 31 (nI q)) := by
  unfold f_M_draw
  have hq' : Int64.toInt32 (((1103515245 * (Int32.toInt64 (M.1 30 31))) + 12345) &&& 2147483647) = nI q := by rw [hs]; exact hq
  rw [if_neg (nI_ne0 h0 (by omega)), hq', upI_same, show (65536 : Int32) = nI 65536 from rfl, pk_div hq2 (by omega) (by omega), irem_nI (by omega) h0 (by omega)]
theorem b2_mod (t : Nat) : nI (t % 2) = b2 (decide (t % 2 = 1)) := by
  rcases Nat.mod_two_eq_zero_or_one t with h | h <;> rw [h] <;> rfl
def fA (C M : ip_St) : Prop := ip_Fr [(30, 31)] C M
theorem assz_in {C : ip_St} {j : Nat} {d : JD} (hj : j < 3) (hd : jok d) (hc : jC C (14 + j) d) (k49 : Int32 → Int32 → Int32 → Int32 → Int32 → Int32 → ip_St → Option Int32) (k55 : Int32 → Int32 → Int32 → Int32 → Int32 → ip_St → Option (Int32 × ip_St)) (x1 x3 x5 x6 x7 : Int32) : ∀ (e f n n' a b : Nat) (sd : Int32) (M : ip_St), f + e = 6 → e < n → e < n' → M.1 30 31 = sd → jM M 42 43 44 j d → M.2 30 17 = C.2 17 0 → a < 64 → b < 64 → (∀ i, i < 6 → a.testBit i = if i < f then b.testBit i else d.2.2.2.1.testBit i) → (∀ i, i < 6 → f ≤ i → b.testBit i = false) → ∃ sd' t w M', f_A_assizes_94 k49 n x1 x3 sd x5 x6 x7 (14 + j) (nI a) (nI f) C = k49 x1 x3 sd' (x5 + t) (x6 + nI w) (x7 + 1) C ∧ f_M_assizes_77 k55 n' x1 x3 x5 x6 x7 (nI j) (nI b) (nI f) M = k55 x1 x3 (x5 + t) (x6 + nI w) (x7 + 1) M' ∧ M'.1 30 31 = sd' ∧ fA M M' := by
  intro e
  induction e with
  | zero =>
    intro f n n' a b sd M hf hn hn' hs hm hl ha hb hab hb0
    obtain rfl : f = 6 := by omega
    obtain ⟨m, rfl⟩ : ∃ m, n = m + 1 := ⟨n - 1, by omega⟩
    obtain ⟨m', rfl⟩ : ∃ m, n' = m + 1 := ⟨n' - 1, by omega⟩
    obtain rfl : a = b := eq6 ha hb (fun i hi => by rw [hab i hi, if_pos hi])
    rw [f_A_assizes_94, if_pos (by decide), f_M_assizes_77, if_pos (by decide), hc.1, freed_eq hd.1, Option.bind_some, i2, aI_at (n := 6) rfl (by omega), hm.1, Option.bind_some, has_eq _ ha, lb_fre hd.1 _ ha, saysBy_ck d.1 hd.1 a ha, lb_shr1 _ (sayN_lt d.1 hd.1 a ha), toI32_ite, hl]
    cases lb (C.2 17 0) (sayN d.1 a)
    · exact ⟨sd, 0, a, M, rfl, rfl, hs, ip_Fr.rf⟩
    · exact ⟨sd, 1, a, M, rfl, rfl, hs, ip_Fr.rf⟩
  | succ e ih =>
    intro f n n' a b sd M hf hn hn' hs hm hl ha hb hab hb0
    obtain ⟨m, rfl⟩ : ∃ m, n = m + 1 := ⟨n - 1, by omega⟩
    obtain ⟨m', rfl⟩ : ∃ m, n' = m + 1 := ⟨n' - 1, by omega⟩
    have hf6 : f < 6 := by omega
    have h6 : ¬ (6 : Int32) ≤ nI f := by rw [show (6 : Int32) = nI 6 from rfl, nI_leI (by omega) (by omega)]; omega
    have haf := hab f hf6
    rw [if_neg (Nat.lt_irrefl f)] at haf
    have hbf := hb0 f hf6 (Nat.le_refl f)
    rw [f_A_assizes_94, if_neg h6, f_M_assizes_77, if_neg h6, i6, aI_at (n := 18) rfl (by omega), hm.2.2.1 f hf6, Option.bind_some, Option.bind_some, hc.2.1, nI_bit (by omega) (by have := hd.2.1; omega), nI_1]
    cases hk : d.2.2.1.testBit f with
    | false =>
      rw [if_pos (by decide), if_pos ((kf_neg _ _ _).mpr hk)]
      obtain ⟨q, q1, q2⟩ := seed_ex sd
      have dr := draw_eq hs q2 q1 (show 0 < 2 by decide) (by decide)
      have dn := drawn_eq q1 (show 0 < 2 by decide) (show 2 ≤ 3 by decide)
      rw [show nI 2 = (2 : Int32) from rfl] at dr dn
      rw [q2, dn, dr, Option.bind_some, Option.bind_some, b2_mod, ishl_b _ hf6, nI_or, nI_or]
      generalize decide (q / 65536 % 2 = 1) = t
      have haf0 : a.testBit f = false := by
        rw [haf]
        cases hz : d.2.2.2.1.testBit f with
        | false => rfl
        | true =>
          have := hd.2.2.2.2.2.1 f hf6 hz
          rw [hk] at this
          cases this
      obtain ⟨sd', tt, w, M', g1, g2, g3, g4⟩ := ih (f + 1) m m' (a ||| b1 t * 2 ^ f) (b ||| b1 t * 2 ^ f) (nI q) (ip_upI M 30 31 (nI q)) (by omega) (by omega) (by omega) (upI_same _ _ _ _) (jM_u (Or.inl rfl) hm) hl (orb_lt ha hf6 t) (orb_lt hb hf6 t) (fun i hi => by
        rw [tb_orb, tb_orb, hab i hi]
        by_cases z1 : i < f
        · rw [if_pos z1, if_pos (by omega)]
        · rw [if_neg z1]
          by_cases z2 : i = f
          · subst z2
            rw [if_pos (by omega), ← haf, haf0, hbf]
          · have z3 : ¬ f = i := fun z => z2 z.symm
            rw [if_neg (by omega)]
            simp [z3]) (fun i hi z => by
        have z3 : ¬ f = i := by omega
        rw [tb_orb, hb0 i hi (by omega)]
        simp [z3])
      exact ⟨sd', tt, w, M', g1, g2, g3, ip_Fr.trans (ip_Fr.upI rfl ip_Fr.rf) g4⟩
    | true =>
      rw [if_neg (by decide), if_neg (fun z => by rw [kf_neg, hk] at z; cases z)]
      have hkf : kf d.2.2.1 d.2.2.2.1 f = b2 (d.2.2.2.1.testBit f) := by unfold kf; rw [hk]; rfl
      rw [hkf, ishl_b _ hf6, nI_or]
      exact ih (f + 1) m m' a (b ||| b1 (d.2.2.2.1.testBit f) * 2 ^ f) sd M (by omega) (by omega) (by omega) hs hm hl ha (orb_lt hb hf6 _) (fun i hi => by
        rw [tb_orb, hab i hi]
        by_cases z1 : i < f
        · have z3 : ¬ f = i := by omega
          rw [if_pos z1, if_pos (by omega)]
          simp [z3]
        · rw [if_neg z1]
          by_cases z2 : i = f
          · subst z2
            rw [if_pos (by omega), hbf]
            simp
          · rw [if_neg (by omega)]) (fun i hi z => by
        have z3 : ¬ f = i := by omega
        rw [tb_orb, hb0 i hi (by omega)]
        simp [z3])
theorem RNow_fA {C M M' : ip_St} {J : Nat} (hJ : J ≤ 3) (hn : RNow C M J) (h : fA M M') : RNow C M' J := RNow_fr (wc := []) hJ ip_Fr.rf h rfl rfl rfl hn
theorem assz_loop {C : ip_St} {J : Nat} (h0 : 0 < J) (hJ : J ≤ 3) {t : Nat} (ht : t ≤ 60) (x3 : Int32) : ∀ (e i n n' : Nat) (x5 x6 sd : Int32) (M : ip_St), i + e = t → e < n → e < n' → M.1 30 31 = sd → M.1 30 18 = nI J → RNow C M J → ∃ r M', f_A_assizes_49 n (nI t) x3 sd x5 x6 (nI i) C = some r ∧ f_M_assizes_55 n' (nI t) x3 x5 x6 (nI i) M = some (r, M') ∧ fA M M' := by
  intro e
  induction e with
  | zero =>
    intro i n n' x5 x6 sd M hi hn hn' hs hM hR
    obtain ⟨m, rfl⟩ : ∃ m, n = m + 1 := ⟨n - 1, by omega⟩
    obtain ⟨m', rfl⟩ : ∃ m, n' = m + 1 := ⟨n' - 1, by omega⟩
    have hle : nI t ≤ nI i := by rw [nI_leI (by omega) (by omega)]; omega
    rw [f_A_assizes_49, if_pos hle, f_M_assizes_55, if_pos hle, hs]
    by_cases g1 : x3 = 0
    · rw [if_pos g1, if_pos g1]
      exact ⟨_, M, rfl, rfl, ip_Fr.rf⟩
    · rw [if_neg g1, if_neg g1]
      by_cases g2 : x3 = 1
      · rw [if_pos g2, if_pos g2]
        exact ⟨_, M, rfl, rfl, ip_Fr.rf⟩
      · rw [if_neg g2, if_neg g2]
        exact ⟨_, M, rfl, rfl, ip_Fr.rf⟩
  | succ e ih =>
    intro i n n' x5 x6 sd M hi hn hn' hs hM hR
    obtain ⟨m, rfl⟩ : ∃ m, n = m + 1 := ⟨n - 1, by omega⟩
    obtain ⟨m', rfl⟩ : ∃ m, n' = m + 1 := ⟨n' - 1, by omega⟩
    have hc : C.1 12 1 = nI J := hR.1
    have hle : ¬ nI t ≤ nI i := by rw [nI_leI (by omega) (by omega)]; omega
    obtain ⟨q, q1, q2⟩ := seed_ex sd
    have hjl : q / 65536 % J < J := Nat.mod_lt _ h0
    rw [f_A_assizes_49, if_neg hle, f_M_assizes_55, if_neg hle, hc, hM, draw_eq hs q2 q1 h0 hJ, q2, drawn_eq q1 h0 hJ, Option.bind_some, Option.bind_some, aA13 _ (by omega), Option.bind_some]
    generalize q / 65536 % J = j at hjl ⊢
    have fr1' : fA M (ip_upI M 30 31 (nI q)) := ip_Fr.upI rfl ip_Fr.rf
    have hR1 := RNow_fA hJ hR fr1'
    obtain ⟨d, d1, d2, d3, d4⟩ := jd_get hR1 hjl
    rw [d3.2.2.1]
    obtain ⟨sd', tt, w, M', g1, g2, g3, g4⟩ := assz_in (show j < 3 by omega) d1 d3 (f_A_assizes_49 m) (f_M_assizes_55 m') (nI t) x3 x5 x6 (nI i) 6 0 ip_FU ip_FU d.2.2.2.1 0 (nI q) (ip_upI M 30 31 (nI q)) rfl (by rw [FU_eq]; omega) (by rw [FU_eq]; omega) (upI_same _ _ _ _) d4 (law_eq hR1 h0).symm d1.2.2.1 (by omega) (fun i hi => by rw [if_neg (Nat.not_lt_zero i)]) (fun i hi z => by simp)
    rw [show nI 0 = (0 : Int32) from rfl] at g1 g2
    rw [g1, g2, nI_1]
    have hM' : M'.1 30 18 = nI J := by rw [(g4 30 18 rfl).1, upI_ne _ _ (by omega)]; exact hM
    obtain ⟨r, M'', r1, r2, r3⟩ := ih (i + 1) m m' (x5 + tt) (x6 + nI w) sd' M' (by omega) (by omega) (by omega) g3 hM' (RNow_fA hJ hR1 g4)
    exact ⟨r, M'', r1, r2, ip_Fr.trans fr1' (ip_Fr.trans g4 r3)⟩
theorem op_assizes {N : Nat} {C M : ip_St} (h : Rel2 N C M) (p1 p2 p3 : Int32) : ∃ r M', f_A_assizes p1 p2 p3 C = some r ∧ f_M_assizes p1 p2 p3 M = some (r, M') ∧ Rel2 N C M' := by
  obtain ⟨hT, -, -, J, cr, hJ, hj, hn, -⟩ := id h
  have hc : C.1 12 1 = nI J := hn.1
  unfold f_A_assizes f_M_assizes
  rw [in_R p1 1 60 1 60 (by decide) (by decide), in_R p3 0 2 0 2 (by decide) (by decide)]
  by_cases g1 : p1 < 1
  · have : inR p1 (nI 1) (nI 60) = false := by
      unfold inR
      have : ¬ nI 1 ≤ p1 := nle32.mpr g1
      simp [this]
    rw [if_pos g1, if_pos this]
    exact ⟨_, _, rfl, rfl, h⟩
  rw [if_neg g1]
  by_cases g2 : 60 < p1
  · have : inR p1 (nI 1) (nI 60) = false := by
      unfold inR
      have : ¬ p1 ≤ nI 60 := nle32.mpr g2
      simp [this]
    rw [if_pos g2, if_pos this]
    exact ⟨_, _, rfl, rfl, h⟩
  have : inR p1 (nI 1) (nI 60) = true := by
    unfold inR
    have a1 : nI 1 ≤ p1 := nlt32.mp g1
    have a2 : p1 ≤ nI 60 := nlt32.mp g2
    simp [a1, a2]
  rw [if_neg g2, this, if_neg (show ¬ (true = false) by decide)]
  by_cases g3 : p2 < 0
  · rw [if_pos g3, if_pos g3]
    exact ⟨_, _, rfl, rfl, h⟩
  rw [if_neg g3, if_neg g3]
  rcases num_cs p3 2 (by decide) with ⟨k, h1, h2, h3, h4, h5, h6⟩ | ⟨h1, h2⟩
  · rw [h3, if_neg h4, if_pos (show p3 ≤ 2 from h5), if_pos rfl]
    rcases court_cs hJ hc hj with ⟨-, c1, c2⟩ | ⟨c0, c1, c2⟩
    · rw [c1, c2]
      exact ⟨_, _, rfl, rfl, h⟩
    · rw [c1, c2, if_pos rfl, if_pos rfl]
      have f1 : fA M (ip_upI M 30 31 p2) := ip_Fr.upI rfl ip_Fr.rf
      rcases pk_ix p1 (show 61 < 2 ^ 31 by decide) with z | z | ⟨t, ht, rfl⟩
      · exfalso
        apply g1
        rw [Int32.lt_iff_toInt_lt] at z ⊢
        have a1 : (0 : Int32).toInt = 0 := rfl
        have a2 : (1 : Int32).toInt = 1 := rfl
        omega
      · exact absurd (big_n z (by decide)) (fun y => y (nlt32.mp g2))
      · obtain ⟨r, M', r1, r2, r3⟩ := assz_loop c0 hJ (show t ≤ 60 by omega) p3 t 0 ip_FU ip_FU 0 0 p2 (ip_upI M 30 31 p2) (by omega) (by rw [FU_eq]; omega) (by rw [FU_eq]; omega) (upI_same _ _ _ _) (by rw [upI_ne _ _ (by omega)]; exact hj) (RNow_fA hJ hn f1)
        rw [show nI 0 = (0 : Int32) from rfl] at r1 r2
        refine ⟨r, M', r1, r2, h.scrM ?_⟩
        exact ip_Fr.mono (by decide) (ip_Fr.trans f1 r3)
  · rw [h1, if_neg (show ¬ (false = true) by decide)]
    rcases h2 with h2 | ⟨h2, h3, h4, h5, h6⟩
    · rw [if_pos h2]
      exact ⟨_, _, rfl, rfl, h⟩
    · rw [if_neg h2, if_neg (show ¬ p3 ≤ 2 from h3)]
      exact ⟨_, _, rfl, rfl, h⟩
