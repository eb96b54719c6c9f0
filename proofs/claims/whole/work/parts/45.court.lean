/-! ===== amend, court ===== -/
theorem whole_eq {C M : ip_St} {a : AS} (h : CW C a) (hm : AR M a) (hL : a.1 ≤ 56) : f_R_isWhole C = f_M_isLawWhole M ∧ (f_R_isWhole C = true → C.1 2 9 = 0) := by
  obtain ⟨h9, h10, h11, h12, hg, hgw, hwn, h40, hs0, hi⟩ := h
  obtain ⟨m4, m5, -⟩ := hm
  unfold f_R_isWhole f_M_isLawWhole
  rw [h9, h10, m4, m5]
  by_cases z : nI a.1 = 0
  · rw [if_pos z, if_pos z]
    refine ⟨?_, fun _ => z⟩
    by_cases g0 : a.2.2.2.1 = 0
    · rw [if_pos g0]
      cases a.2.1
      · rfl
      · rfl
    · rw [if_neg g0, hgw g0]
      rfl
  · rw [if_neg z, if_neg z]
    refine ⟨?_, (fun q => by cases q)⟩
    rw [ite_self]
theorem lay_loop {P : Nat → Int32} {len fm : Nat} (hlen : len ≤ 56) {H : Int64} (hrow : ∀ M1 : ip_St, RT M1 → (∀ k, k < len - fm → M1.1 41 k = P (fm + k)) → ∃ M', f_M_lawRow (nI (len - fm)) (-1) M1 = some (H, M')) : ∀ (e k n : Nat) (M : ip_St), fm + k + e = len → e < n → RT M → M.1 30 16 = nI (len - fm) → (∀ i, i < len → M.1 32 i = P i) → (∀ i, i < k → M.1 41 i = P (fm + i)) → ∃ M', f_M_layLaw_12 n (nI fm) (nI k) M = some M' ∧ M'.1 30 16 = nI (len - fm) ∧ M'.2 30 17 = H ∧ M'.1 30 2 = 0 ∧ ∀ i, i < len - fm → M'.1 41 i = P (fm + i) := by
  intro e
  induction e with
  | zero =>
    intro k n M hk hn hT h16 hp ht
    obtain ⟨q, rfl⟩ : ∃ q, n = q + 1 := ⟨n - 1, by omega⟩
    obtain ⟨M1, r1⟩ := hrow M hT (fun i hi => ht i (by omega))
    have fr := F_M_lawRow r1
    rw [f_M_layLaw_12, h16, if_pos (by rw [nI_leI (by omega) (by omega)]; omega), r1, Option.bind_some]
    refine ⟨_, rfl, ?_, rfl, rfl, fun i hi => ?_⟩
    · show M1.1 30 16 = _
      rw [(fr 30 16 rfl).1]
      exact h16
    · show M1.1 41 i = _
      rw [(fr 41 i rfl).1]
      exact ht i (by omega)
  | succ e ih =>
    intro k n M hk hn hT h16 hp ht
    obtain ⟨q, rfl⟩ : ∃ q, n = q + 1 := ⟨n - 1, by omega⟩
    rw [f_M_layLaw_12, h16, if_neg (by rw [nI_leI (by omega) (by omega)]; omega), nI_add, aI_at (n := 56) rfl (by omega), Option.bind_some, wI_at (n := 56) rfl (by omega), Option.bind_some, nI_1, hp _ (by omega)]
    refine ih (k + 1) q (ip_upI M 41 k (P (fm + k))) (by omega) (by omega) hT h16 (fun i hi => by rw [upI_ne _ _ (by omega)]; exact hp i hi) (fun i hi => ?_)
    by_cases z : i = k
    · rw [z, upI_same]
    · rw [upI_ne _ _ (by omega)]
      exact ht i (by omega)
theorem layLaw_eq {P : Nat → Int32} {len fm : Nat} (hlen : len ≤ 56) (hfm : fm ≤ len) {H : Int64} (hrow : ∀ M1 : ip_St, RT M1 → (∀ k, k < len - fm → M1.1 41 k = P (fm + k)) → ∃ M', f_M_lawRow (nI (len - fm)) (-1) M1 = some (H, M')) {M : ip_St} (hT : RT M) (hm : M.1 30 2 = nI len) (hp : ∀ i, i < len → M.1 32 i = P i) : ∃ M', f_M_layLaw (nI fm) M = some M' ∧ M'.1 30 16 = nI (len - fm) ∧ M'.2 30 17 = H ∧ M'.1 30 2 = 0 ∧ ∀ i, i < len - fm → M'.1 41 i = P (fm + i) := by
  have := lay_loop (P := P) hlen hrow (len - fm) 0 ip_FU (ip_upI M 30 16 (nI (len - fm))) (by omega) (by rw [FU_eq]; omega) hT (upI_same _ _ _ _) (fun i hi => by rw [upI_ne _ _ (by omega)]; exact hp i hi) (fun i hi => absurd hi (Nat.not_lt_zero i))
  unfold f_M_layLaw
  rw [hm, pk_sub hfm]
  exact this
theorem result_eq {C : ip_St} (h : C.1 2 9 = 0) : f_R_result C = some (ip_upL C 3 0 (C.2 7 0 ||| C.2 8 0)) := by
  unfold f_R_result
  rw [lawSoFar_eq (L := 0) h (by omega)]
  rfl
def wAmC : List (Nat × Nat) := [(0, 1), (3, 0), (12, 3), (17, 99)]
def wAmM : List (Nat × Nat) := (30, 20) :: w_M_layLaw
theorem op_amend {N : Nat} {C M : ip_St} (h : Rel2 N C M) : ∃ r C' M', f_A_amend C = some (r, C') ∧ f_M_amend M = some (r, M') ∧ Rel2 N C' M' := by
  obtain ⟨hT, ⟨len, l1, l2, l3, l4⟩, -, J, cr, hJ, hj, hn, -⟩ := id h
  have hc : C.1 12 1 = nI J := hn.1
  unfold f_A_amend f_M_amend
  rcases court_cs hJ hc hj with ⟨-, k1, k2⟩ | ⟨k0, k1, k2⟩
  · rw [k1, k2]
    exact ⟨_, _, _, rfl, rfl, h⟩
  · rw [k1, k2, if_neg (by decide), if_neg (by decide)]
    obtain ⟨r, C1, M1, g1, g2, g3, g4⟩ := scanLaw_eq (P := fun i => M.1 32 i) (fm := 0) l1 (Nat.zero_le _) l2 l3 l4 (fun _ _ => rfl)
    rw [show nI 0 = (0 : Int32) from rfl] at g1 g2
    have fC := F_A_scanLaw g1
    have fM := F_M_goLawFrom g2
    have h1 : Rel2 N C1 M1 := (h.scrC (ip_Fr.mono (by decide) fC)).scrM (ip_Fr.mono (by decide) fM)
    have c01 : C1.1 0 1 = nI len := by rw [(fC 0 1 rfl).1]; exact l2
    have m02 : M1.1 30 2 = nI len := by rw [(fM 30 2 rfl).1]; exact l3
    rw [g1, Option.bind_some, g2, Option.bind_some, c01, m02]
    by_cases hr : r < len
    · have hlt : nI r < nI len := (nI_ltI (by omega) (by omega)).mpr hr
      rw [if_pos hlt, if_pos hlt]
      exact ⟨_, _, _, rfl, rfl, h1⟩
    · have hlt : ¬ nI r < nI len := fun z => hr ((nI_ltI (by omega) (by omega)).mp z)
      rw [if_neg hlt, if_neg hlt]
      have hLR := g4 (by omega)
      obtain ⟨a, l, l0, q1, q2, q3, q4, q5, q6, q7, q8⟩ := id hLR
      obtain ⟨w1, w2⟩ := whole_eq q4 q7 q8
      rw [← w1]
      cases hw : f_R_isWhole C1 with
      | false =>
        rw [if_neg (by decide), if_neg (by decide)]
        exact ⟨_, _, _, rfl, rfl, h1⟩
      | true =>
        have h29 := w2 hw
        obtain ⟨hT1, -, -, J1, cr1, hJ1, hj1, hn1, d4, d5, d6, d7⟩ := id h1
        obtain ⟨lf, lrw⟩ := LawF_of (t := fun q => M.1 32 (0 + q)) l1 hLR h29 (fun _ _ => rfl)
        obtain ⟨M2, y1, y2, y3, y4, y5⟩ := layLaw_eq (P := fun i => M.1 32 i) l1 (Nat.zero_le _) lrw hT1 m02 (fun i hi => by rw [(fM 32 i rfl).1])
        rw [show nI 0 = (0 : Int32) from rfl] at y1
        have fY := F_M_layLaw y1
        rw [if_pos rfl, if_pos rfl, result_eq h29, Option.bind_some, y1, Option.bind_some, ones_eq, Option.bind_some, bitCount_eq]
        have frC : ip_Fr wAmC C1 (ip_upI (ip_upI (f_L_take_17_3 (ip_upL C1 3 0 (C1.2 7 0 ||| C1.2 8 0))) 12 3 (((f_L_take_17_3 (ip_upL C1 3 0 (C1.2 7 0 ||| C1.2 8 0))).1 12 3) + 1)) 0 1 0) := by
          unfold f_L_take_17_3
          exact ip_Fr.upI rfl (ip_Fr.upI rfl (ip_Fr.upI rfl (ip_Fr.upI rfl (ip_Fr.upI rfl (ip_Fr.upI rfl (ip_Fr.upL rfl (ip_Fr.upL rfl ip_Fr.rf)))))))
        have frM : ip_Fr wAmM M1 (ip_upI M2 30 20 (M2.1 30 20 + 1)) := ip_Fr.upI rfl (ip_Fr.mono (by decide) fY)
        have ev : (ip_upI (ip_upI (f_L_take_17_3 (ip_upL C1 3 0 (C1.2 7 0 ||| C1.2 8 0))) 12 3 (((f_L_take_17_3 (ip_upL C1 3 0 (C1.2 7 0 ||| C1.2 8 0))).1 12 3) + 1)) 0 1 0).2 17 0 = C1.2 7 0 ||| C1.2 8 0 := rfl
        have em : (ip_upI M2 30 20 (M2.1 30 20 + 1)).2 30 17 = C1.2 7 0 ||| C1.2 8 0 := y3
        rw [ev, em]
        refine ⟨_, _, _, rfl, rfl, ?_⟩
        obtain ⟨x1, x2, x3, x4, x5, x6⟩ := hn1
        refine ⟨RT_fr frM rfl hT1, ⟨0, by omega, rfl, y4, fun k hk => absurd hk (Nat.not_lt_zero k)⟩, RX_fr frC rfl h1.2.2.1, J1, cr1, hJ1, by rw [(frM 30 18 rfl).1]; exact hj1, ⟨by rw [(frC 12 1 rfl).1]; exact x1, ?_, by rw [(frC 12 4 rfl).1, (frM 30 19 rfl).1]; exact x3, ?_, fun _ => ?_, ?_⟩, d4, by rw [(frC 0 7 rfl).1]; exact d5, by rw [(frM 30 21 rfl).1]; exact d6, RIm_fr hJ1 frC frM rfl rfl rfl rfl rfl d7⟩
        · show C1.1 12 3 + 1 = M2.1 30 20 + 1
          rw [(fY 30 20 rfl).1, x2]
        · intro j hj
          obtain ⟨d, d1, d2, d3, d4⟩ := x4 j hj
          refine ⟨d, d1, d2, ?_, ?_⟩
          · have : (ip_upI (ip_upI (f_L_take_17_3 (ip_upL C1 3 0 (C1.2 7 0 ||| C1.2 8 0))) 12 3 (((f_L_take_17_3 (ip_upL C1 3 0 (C1.2 7 0 ||| C1.2 8 0))).1 12 3) + 1)) 0 1 0).1 (12 + 2 + j) = C1.1 (12 + 2 + j) := by
              rcases (show j = 0 ∨ j = 1 ∨ j = 2 by omega) with rfl | rfl | rfl
              · exact fr1 (c := 14) frC rfl
              · exact fr1 (c := 15) frC rfl
              · exact fr1 (c := 16) frC rfl
            unfold jC at d3 ⊢
            rw [this]
            exact d3
          · unfold jM at d4 ⊢
            rw [fr1 (c := 42) frM rfl, fr1 (c := 43) frM rfl, fr1 (c := 44) frM rfl]
            exact d4
        · refine ⟨len - 0, by omega, y2, ?_, ?_⟩
          · exact y3.symm
          · exact LawF_cg (fun k hk => y5 k hk) lf
        · unfold RSeen RSn1 at x6 ⊢
          rw [(frC 12 6 rfl).1, fr1 (c := 12 + 6) frC rfl, fr1 (c := 49) frM rfl, (frM 30 29 rfl).1]
          exact x6
-- a judge read from the page
theorem kind_cs (c : Int32) : f_A_kindOf c = -1 ∨ ∃ k, k < 5 ∧ f_A_kindOf c = nI k := by
  unfold f_A_kindOf
  by_cases h1 : c = 99
  · rw [if_pos h1]; exact Or.inr ⟨2, by omega, rfl⟩
  rw [if_neg h1]
  by_cases h2 : c = 106
  · rw [if_pos h2]; exact Or.inr ⟨0, by omega, rfl⟩
  rw [if_neg h2]
  by_cases h3 : c = 112
  · rw [if_pos h3]; exact Or.inr ⟨3, by omega, rfl⟩
  rw [if_neg h3]
  by_cases h4 : c = 115
  · rw [if_pos h4]; exact Or.inr ⟨1, by omega, rfl⟩
  rw [if_neg h4]
  by_cases h5 : c = 118
  · rw [if_pos h5]; exact Or.inr ⟨4, by omega, rfl⟩
  rw [if_neg h5]
  exact Or.inl rfl
def sdJ (P : Nat → Int32) (j k : Nat) : Nat → JD
  | 0 => (k, false, 0, 0, 0, 0)
  | f + 1 => if P (8 * j + 1 + f) = 63 then sdJ P j k f else lern (sdJ P j k f) f (decide (P (8 * j + 1 + f) = 49))
theorem sdJ_p {P : Nat → Int32} {j k : Nat} (hk : k < 5) : ∀ n, n ≤ 6 → jok (sdJ P j k n) ∧ (sdJ P j k n).1 = k ∧ (sdJ P j k n).2.1 = false ∧ (sdJ P j k n).2.2.2.2.1 = 0 ∧ (sdJ P j k n).2.2.2.2.2 = 0 ∧ ∀ i, i < 6 → kf (sdJ P j k n).2.2.1 (sdJ P j k n).2.2.2.1 i = if i < n then (if P (8 * j + 1 + i) = 63 then -1 else b2 (decide (P (8 * j + 1 + i) = 49))) else -1 := by
  intro n
  induction n with
  | zero =>
    intro _
    refine ⟨⟨hk, (by decide : 0 < 64), (by decide : 0 < 64), (by decide : 0 < 64), (by decide : 0 < 64), fun f hf z => ?_, fun f hf z => ?_⟩, rfl, rfl, rfl, rfl, fun i hi => ?_⟩
    · have z' : (0 : Nat).testBit f = true := z
      simp at z'
    · have z' : (0 : Nat).testBit f = true := z
      simp at z'
    · show kf 0 0 i = _
      unfold kf
      rw [if_neg (by simp), if_neg (Nat.not_lt_zero i)]
  | succ n ih =>
    intro hn
    obtain ⟨i1, i2, i3, i4, i5, i6⟩ := ih (by omega)
    have e : sdJ P j k (n + 1) = if P (8 * j + 1 + n) = 63 then sdJ P j k n else lern (sdJ P j k n) n (decide (P (8 * j + 1 + n) = 49)) := rfl
    rw [e]
    by_cases z : P (8 * j + 1 + n) = 63
    · rw [if_pos z]
      refine ⟨i1, i2, i3, i4, i5, fun i hi => ?_⟩
      rw [i6 i hi]
      by_cases y : i < n
      · rw [if_pos y, if_pos (show i < n + 1 by omega)]
      · rw [if_neg y]
        by_cases x : i = n
        · rw [if_pos (show i < n + 1 by omega), x, if_pos z]
        · rw [if_neg (show ¬ i < n + 1 by omega)]
    · rw [if_neg z]
      have h0 : (sdJ P j k n).2.2.1.testBit n = false := by
        have := i6 n (by omega)
        rw [if_neg (Nat.lt_irrefl n)] at this
        exact (kf_neg _ _ _).mp this
      refine ⟨lern_ok i1 (by omega) _, i2, i3, i4, i5, fun i hi => ?_⟩
      have hk2 : kf (lern (sdJ P j k n) n (decide (P (8 * j + 1 + n) = 49))).2.2.1 (lern (sdJ P j k n) n (decide (P (8 * j + 1 + n) = 49))).2.2.2.1 i = if i = n then b2 (decide (P (8 * j + 1 + n) = 49)) else kf (sdJ P j k n).2.2.1 (sdJ P j k n).2.2.2.1 i := kf_set (by omega) i1.2.2.2.2.2.1 h0 _ i
      rw [hk2, i6 i hi]
      by_cases x : i = n
      · rw [if_pos x, x, if_pos (show n < n + 1 by omega), if_neg z]
      · rw [if_neg x]
        by_cases y : i < n
        · rw [if_pos y, if_pos (show i < n + 1 by omega)]
        · rw [if_neg y, if_neg (show ¬ i < n + 1 by omega)]
theorem wy_nz {d : JD} (hd : jok d) (h0 : d.2.2.2.2.1 = 0) : ¬ wy d = 0 := by
  intro z
  have : lb (wy d) d.2.2.2.1 = true := by
    rw [lb_wy hd.1 hd.2.2.1]
    intro f hf
    refine ⟨fun _ => rfl, fun q => ?_⟩
    rw [h0] at q
    simp at q
  rw [z, lb_0] at this
  cases this
theorem seat_loop {P : Nat → Int32} {len j k : Nat} (hlen : len ≤ 56) (hj : j < 3) (hl : 8 * j + 7 < len) (hk : k < 5) (hok : ∀ f, f < 6 → P (8 * j + 1 + f) = 48 ∨ P (8 * j + 1 + f) = 49 ∨ P (8 * j + 1 + f) = 63) : ∀ (e f n : Nat) (C : ip_St), f + e = 6 → e < n → (∀ i, i < len → C.1 1 i = P i) → jC C (14 + j) (sdJ P j k f) → ∃ C', f_A_seat_15 n (14 + j) (nI (8 * j)) (nI f) C = some C' ∧ jC C' (14 + j) (sdJ P j k 6) ∧ C'.2 = C.2 ∧ ∀ a b, ¬ a = 14 + j → C'.1 a b = C.1 a b := by
  intro e
  induction e with
  | zero =>
    intro f n C hf hn hp hc
    obtain rfl : f = 6 := by omega
    obtain ⟨q, rfl⟩ : ∃ q, n = q + 1 := ⟨n - 1, by omega⟩
    rw [f_A_seat_15, if_pos (by decide)]
    exact ⟨C, rfl, hc, rfl, fun _ _ _ => rfl⟩
  | succ e ih =>
    intro f n C hf hn hp hc
    obtain ⟨q, rfl⟩ : ∃ q, n = q + 1 := ⟨n - 1, by omega⟩
    rw [f_A_seat_15, if_neg (by rw [show (6 : Int32) = nI 6 from rfl, nI_leI (by omega) (by omega)]; omega), nI_1, nI_add, aI_at (n := 56) rfl (by omega), Option.bind_some, hp _ (by omega), nI_1]
    have e0 : sdJ P j k (f + 1) = if P (8 * j + 1 + f) = 63 then sdJ P j k f else lern (sdJ P j k f) f (decide (P (8 * j + 1 + f) = 49)) := rfl
    by_cases h63 : P (8 * j + 1 + f) = 63
    · rw [if_pos h63]
      rw [if_pos h63] at e0
      exact ih (f + 1) q C (by omega) (by omega) hp (by rw [e0]; exact hc)
    · rw [if_neg h63]
      rw [if_neg h63] at e0
      have go : ∀ b : Bool, b = decide (P (8 * j + 1 + f) = 49) → ∃ C', f_A_seat_54 (f_A_seat_15 q) (14 + j) (nI (8 * j)) (nI f) (14 + j) (nI f) (b2 b) C = some C' ∧ jC C' (14 + j) (sdJ P j k 6) ∧ C'.2 = C.2 ∧ ∀ a b, ¬ a = 14 + j → C'.1 a b = C.1 a b := by
        intro b hb
        unfold f_A_seat_54
        rw [know_eq (by omega) hc b, nI_1]
        obtain ⟨C', g1, g2, g3, g4⟩ := ih (f + 1) q (ip_upI (ip_upI C (14 + j) 1 (nI ((sdJ P j k f).2.2.1 ||| 2 ^ f))) (14 + j) 2 (nI ((sdJ P j k f).2.2.2.1 ||| b1 b * 2 ^ f))) (by omega) (by omega) (fun i hi => by rw [upI_ne _ _ (by omega), upI_ne _ _ (by omega)]; exact hp i hi) (by rw [e0, ← hb]; exact jC_lern hc b)
        exact ⟨C', g1, g2, g3, fun a c hac => by rw [g4 a c hac, upI_ne _ _ (by omega), upI_ne _ _ (by omega)]⟩
      by_cases h49 : P (8 * j + 1 + f) = 49
      · rw [if_pos h49]
        exact go true (by rw [decide_eq_true h49])
      · rw [if_neg h49]
        exact go false (by rw [decide_eq_false h49])
theorem seat_eq {P : Nat → Int32} {len j k : Nat} (hlen : len ≤ 56) (hj : j < 3) (hl : 8 * j + 7 < len) (hk : k < 5) (hkd : f_A_kindOf (P (8 * j)) = nI k) (hok : ∀ f, f < 6 → P (8 * j + 1 + f) = 48 ∨ P (8 * j + 1 + f) = 49 ∨ P (8 * j + 1 + f) = 63) {C : ip_St} (hp : ∀ i, i < len → C.1 1 i = P i) : ∃ C', f_A_seat (14 + j) (nI (8 * j)) C = some C' ∧ jC C' (14 + j) (sdJ P j k 6) ∧ C'.2 = C.2 ∧ ∀ a b, ¬ a = 14 + j → C'.1 a b = C.1 a b := by
  unfold f_A_seat
  rw [aI_at (n := 56) rfl (by omega), Option.bind_some, hp _ (by omega), hkd]
  unfold f_J_clear f_J_unhear
  obtain ⟨C', g1, g2, g3, g4⟩ := seat_loop hlen hj hl hk hok 6 0 ip_FU (ip_upI (ip_upI (ip_upI (ip_upI (ip_upI (ip_upI C (14 + j) 0 (nI k)) (14 + j) 1 0) (14 + j) 2 0) (14 + j) 3 0) (14 + j) 4 0) (14 + j) 5 0) rfl (by rw [FU_eq]; omega) (fun i hi => by rw [upI_ne _ _ (by omega), upI_ne _ _ (by omega), upI_ne _ _ (by omega), upI_ne _ _ (by omega), upI_ne _ _ (by omega), upI_ne _ _ (by omega)]; exact hp i hi) ⟨by rw [upI_ne _ _ (by omega), upI_ne _ _ (by omega), upI_ne _ _ (by omega), upI_ne _ _ (by omega), upI_ne _ _ (by omega), upI_same]; rfl, by rw [upI_ne _ _ (by omega), upI_ne _ _ (by omega), upI_ne _ _ (by omega), upI_ne _ _ (by omega), upI_same]; rfl, by rw [upI_ne _ _ (by omega), upI_ne _ _ (by omega), upI_ne _ _ (by omega), upI_same]; rfl, by rw [upI_ne _ _ (by omega), upI_ne _ _ (by omega), upI_same]; rfl, by rw [upI_ne _ _ (by omega), upI_same]; rfl, by rw [upI_same]; rfl⟩
  refine ⟨C', g1, g2, g3, fun a b hab => ?_⟩
  rw [g4 a b hab, upI_ne _ _ (by omega), upI_ne _ _ (by omega), upI_ne _ _ (by omega), upI_ne _ _ (by omega), upI_ne _ _ (by omega), upI_ne _ _ (by omega)]
-- the reference reads a judge
theorem cM_in {P : Nat → Int32} {len j : Nat} (hlen : len ≤ 56) (hj : j < 3) (hl : 8 * j + 7 < len) (k42 : Int32 → ip_St → Option (Int32 × ip_St)) : ∀ (e f n : Nat) (M : ip_St), f + e = 6 → e < n → (∀ i, i < len → M.1 32 i = P i) → ∃ M', f_M_court_83 k42 n (nI j) (nI f) M = k42 (nI (j + 1)) M' ∧ M'.2 = M.2 ∧ ∀ a b, M'.1 a b = if a = 43 ∧ 6 * j + f ≤ b ∧ b < 6 * j + 6 then (if P (8 * j + 1 + (b - 6 * j)) = 63 then -1 else P (8 * j + 1 + (b - 6 * j)) - 48) else if a = 44 ∧ 6 * j + f ≤ b ∧ b < 6 * j + 6 then -1 else M.1 a b := by
  intro e
  induction e with
  | zero =>
    intro f n M hf hn hp
    obtain rfl : f = 6 := by omega
    obtain ⟨q, rfl⟩ : ∃ q, n = q + 1 := ⟨n - 1, by omega⟩
    rw [f_M_court_83, if_pos (by decide), nI_1]
    exact ⟨M, rfl, rfl, fun a b => by rw [if_neg (by omega), if_neg (by omega)]⟩
  | succ e ih =>
    intro f n M hf hn hp
    obtain ⟨q, rfl⟩ : ∃ q, n = q + 1 := ⟨n - 1, by omega⟩
    have e8 : (8 : Int32) * nI j = nI (8 * j) := by rw [show (8 : Int32) = nI 8 from rfl, pk_mul]
    have go : ∀ v : Int32, v = (if P (8 * j + 1 + f) = 63 then -1 else P (8 * j + 1 + f) - 48) → ∃ M', f_M_court_127 k42 (f_M_court_83 k42 q) (nI j) (nI f) (nI (6 * j + f)) v M = k42 (nI (j + 1)) M' ∧ M'.2 = M.2 ∧ ∀ a b, M'.1 a b = if a = 43 ∧ 6 * j + f ≤ b ∧ b < 6 * j + 6 then (if P (8 * j + 1 + (b - 6 * j)) = 63 then -1 else P (8 * j + 1 + (b - 6 * j)) - 48) else if a = 44 ∧ 6 * j + f ≤ b ∧ b < 6 * j + 6 then -1 else M.1 a b := by
      intro v hv
      unfold f_M_court_127
      rw [wI_at (n := 18) rfl (by omega), Option.bind_some, i6, wI_at (n := 18) rfl (by omega), Option.bind_some, nI_1]
      obtain ⟨M', g1, g2, g3⟩ := ih (f + 1) q (ip_upI (ip_upI M 43 (6 * j + f) v) 44 (6 * j + f) (-1)) (by omega) (by omega) (fun i hi => by rw [upI_ne _ _ (by omega), upI_ne _ _ (by omega)]; exact hp i hi)
      refine ⟨M', g1, g2, fun a b => ?_⟩
      rw [g3 a b]
      by_cases z1 : a = 43 ∧ 6 * j + (f + 1) ≤ b ∧ b < 6 * j + 6
      · rw [if_pos z1, if_pos (show a = 43 ∧ 6 * j + f ≤ b ∧ b < 6 * j + 6 by omega)]
      · rw [if_neg z1]
        by_cases z2 : a = 44 ∧ 6 * j + (f + 1) ≤ b ∧ b < 6 * j + 6
        · rw [if_pos z2, if_neg (by omega), if_pos (by omega)]
        · rw [if_neg z2, upI_f, upI_f]
          by_cases z3 : a = 44 ∧ b = 6 * j + f
          · rw [if_pos z3, if_neg (by omega), if_pos (by omega)]
          · rw [if_neg z3]
            by_cases z4 : a = 43 ∧ b = 6 * j + f
            · rw [if_pos z4, if_pos (by omega), show b - 6 * j = f by omega, hv]
            · rw [if_neg z4, if_neg (by omega), if_neg (by omega)]
    rw [f_M_court_83, if_neg (by rw [show (6 : Int32) = nI 6 from rfl, nI_leI (by omega) (by omega)]; omega), e8, nI_1, nI_add, aI_at (n := 56) rfl (by omega), Option.bind_some, hp _ (by omega), i6]
    by_cases h63 : P (8 * j + 1 + f) = 63
    · rw [if_pos h63]
      exact go _ (by rw [if_pos h63])
    · rw [if_neg h63]
      exact go _ (by rw [if_neg h63])
/-- what both have read when all judges are read -/
theorem judges_loop {P : Nat → Int32} {len jn : Nat} (hlen : len ≤ 56) (hjn : jn ≤ 3) (hl : 8 * jn ≤ len) (hok : ∀ i, i < 8 * jn - 1 → okJ P i) : ∀ (e j n n' : Nat) (C M : ip_St), j + e = jn → e < n → e < n' → C.1 0 3 = nI jn → M.1 30 18 = nI jn → (∀ i, i < len → C.1 1 i = P i) → (∀ i, i < len → M.1 32 i = P i) → RJs C M j 14 42 43 44 → RB C → ∃ C' M' q q', f_A_court_44 n (nI j) C = f_A_court_44 (q + 1) (nI jn) C' ∧ f_M_court_42 n' (nI j) M = f_M_court_42 (q' + 1) (nI jn) M' ∧ RJs C' M' jn 14 42 43 44 ∧ RB C' ∧ C'.2 = C.2 ∧ M'.2 = M.2 ∧ (∀ a b, ¬ (14 ≤ a ∧ a ≤ 16) → C'.1 a b = C.1 a b) ∧ ∀ a b, ¬ (42 ≤ a ∧ a ≤ 44) → M'.1 a b = M.1 a b := by
  intro e
  induction e with
  | zero =>
    intro j n n' C M hj hn hn' h3 h18 hpc hpm hR hB
    obtain rfl : j = jn := by omega
    obtain ⟨q, rfl⟩ : ∃ q, n = q + 1 := ⟨n - 1, by omega⟩
    obtain ⟨q', rfl⟩ : ∃ q, n' = q + 1 := ⟨n' - 1, by omega⟩
    exact ⟨C, M, q, q', rfl, rfl, hR, hB, rfl, rfl, fun _ _ _ => rfl, fun _ _ _ => rfl⟩
  | succ e ih =>
    intro j n n' C M hj hn hn' h3 h18 hpc hpm hR hB
    obtain ⟨q, rfl⟩ : ∃ q, n = q + 1 := ⟨n - 1, by omega⟩
    obtain ⟨q', rfl⟩ : ∃ q, n' = q + 1 := ⟨n' - 1, by omega⟩
    have hle : ¬ nI jn ≤ nI j := by rw [nI_leI (by omega) (by omega)]; omega
    have hj3 : j < 3 := by omega
    have hlj : 8 * j + 7 < len := by omega
    have hkn : ¬ f_A_kindOf (P (8 * j)) = -1 := (hok (8 * j) (by omega)).1 (by omega)
    obtain ⟨k, k1, k2⟩ : ∃ k, k < 5 ∧ f_A_kindOf (P (8 * j)) = nI k := by
      rcases kind_cs (P (8 * j)) with z | z
      · exact absurd z hkn
      · exact z
    have hsg : ∀ f, f < 6 → P (8 * j + 1 + f) = 48 ∨ P (8 * j + 1 + f) = 49 ∨ P (8 * j + 1 + f) = 63 := fun f hf => (hok (8 * j + 1 + f) (by omega)).2 (by omega) (by omega)
    have e8 : nI j * 8 = nI (8 * j) := by rw [show (8 : Int32) = nI 8 from rfl, pk_mul, Nat.mul_comm]
    have e8' : (8 : Int32) * nI j = nI (8 * j) := by rw [show (8 : Int32) = nI 8 from rfl, pk_mul]
    obtain ⟨C1, s1, s2, s3, s4⟩ := seat_eq hlen hj3 hlj k1 k2 hsg hpc
    obtain ⟨M1, m1, m2, m3⟩ := cM_in (P := P) hlen hj3 hlj (f_M_court_42 q') 6 0 ip_FU (ip_upI (ip_upI M 42 (2 * j) (nI k)) 42 (2 * j + 1) 0) rfl (by rw [FU_eq]; omega) (fun i hi => by rw [upI_ne _ _ (by omega), upI_ne _ _ (by omega)]; exact hpm i hi)
    obtain ⟨d1, d2, d3, d4, d5, d6⟩ := sdJ_p (P := P) (j := j) k1 6 (Nat.le_refl 6)
    have jm : jM M1 42 43 44 j (sdJ P j k 6) := by
      refine ⟨?_, ?_, fun f hf => ?_, fun f hf => ?_⟩
      · rw [m3, if_neg (by omega), if_neg (by omega), upI_ne _ _ (by omega), upI_same, d2]
      · rw [m3, if_neg (by omega), if_neg (by omega), upI_same, d3]
        rfl
      · rw [m3, if_pos (by omega), d6 f hf, if_pos hf, show 6 * j + f - 6 * j = f by omega]
        rcases hsg f hf with z | z | z <;> rw [z] <;> decide
      · rw [m3, if_neg (by omega), if_pos (by omega), d4, d5]
        unfold kf
        rw [if_neg (by simp)]
    have hR1 : RJs C1 M1 (j + 1) 14 42 43 44 := by
      intro i hi
      by_cases z : i = j
      · rw [z]
        exact ⟨sdJ P j k 6, d1, wy_nz d1 d4, s2, jm⟩
      · obtain ⟨d, f1, f2, f3, f4⟩ := hR i (by omega)
        refine ⟨d, f1, f2, ?_, ?_⟩
        · have : C1.1 (14 + i) = C.1 (14 + i) := funext fun b => s4 _ b (by omega)
          unfold jC at f3 ⊢
          rw [this]
          exact f3
        · obtain ⟨u0, u1, u2, u3⟩ := f4
          refine ⟨?_, ?_, fun f hf => ?_, fun f hf => ?_⟩
          · rw [m3, if_neg (by omega), if_neg (by omega), upI_ne _ _ (by omega), upI_ne _ _ (by omega)]; exact u0
          · rw [m3, if_neg (by omega), if_neg (by omega), upI_ne _ _ (by omega), upI_ne _ _ (by omega)]; exact u1
          · rw [m3, if_neg (by omega), if_neg (by omega), upI_ne _ _ (by omega), upI_ne _ _ (by omega)]; exact u2 f hf
          · rw [m3, if_neg (by omega), if_neg (by omega), upI_ne _ _ (by omega), upI_ne _ _ (by omega)]; exact u3 f hf
    have hB1 : RB C1 := by
      intro i hi
      refine ⟨?_, by rw [s4 _ _ (by omega)]; exact (hB i hi).2⟩
      by_cases z : i = j
      · rw [z, s2.2.2.2.2.2, d3]
        decide
      · rw [s4 _ _ (by omega)]
        exact (hB i hi).1
    rw [f_A_court_44, h3, if_neg hle, f_M_court_42, h18, if_neg hle, aA13 j hj3, Option.bind_some, e8, s1, Option.bind_some, nI_1, e8', aI_at (n := 56) rfl (by omega), Option.bind_some, hpm _ (by omega), show f_M_kindBy (P (8 * j)) = nI k from k2, i2, wI_at (n := 6) rfl (by omega), Option.bind_some, nI_1, wI_at (n := 6) rfl (by omega), Option.bind_some]
    rw [show nI 0 = (0 : Int32) from rfl] at m1
    rw [m1]
    obtain ⟨C2, M2, p, p', r1, r2, r3, r4, r5, r6, r7, r8⟩ := ih (j + 1) q q' C1 M1 (by omega) (by omega) (by omega) (by rw [s4 _ _ (by omega)]; exact h3) (by rw [m3, if_neg (by omega), if_neg (by omega), upI_ne _ _ (by omega), upI_ne _ _ (by omega)]; exact h18) (fun i hi => by rw [s4 _ _ (by omega)]; exact hpc i hi) (fun i hi => by rw [m3, if_neg (by omega), if_neg (by omega), upI_ne _ _ (by omega), upI_ne _ _ (by omega)]; exact hpm i hi) hR1 hB1
    refine ⟨C2, M2, p, p', r1, r2, r3, r4, r5.trans s3, r6.trans m2, fun a b hab => ?_, fun a b hab => ?_⟩
    · rw [r7 a b hab, s4 a b (by omega)]
    · rw [r8 a b hab, m3, if_neg (by omega), if_neg (by omega), upI_ne _ _ (by omega), upI_ne _ _ (by omega)]
