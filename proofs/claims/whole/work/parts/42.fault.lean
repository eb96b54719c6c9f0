/-! ===== a court scanned by both: fault ===== -/
theorem kind59 : f_A_kindOf 59 = -1 := by decide
theorem fits_eq {P : Nat → Int32} {len i : Nat} (hlen : len ≤ 56) (hi : i < len) (h23 : i ≤ 23) {C M : ip_St} (hpc : ∀ i, i < len → C.1 1 i = P i) (hpm : ∀ i, i < len → M.1 32 i = P i) (hns : ¬ (i % 8 = 7 ∧ P i = 59)) : (f_A_fitsAmongJudges (nI i) C = some false ∧ f_M_isJudgesLetter (nI i) M = some false) ∨ (f_A_fitsAmongJudges (nI i) C = some true ∧ f_M_isJudgesLetter (nI i) M = some true ∧ okJ P i ∧ ¬ P i = 59 ∧ i < 23) := by
  unfold f_A_fitsAmongJudges f_M_isJudgesLetter
  have hr : ip_irem (nI i) 8 = nI (i % 8) := by rw [show (8 : Int32) = nI 8 from rfl, irem_nI (by omega) (by omega) (by omega)]
  have hd : nI i / 8 = nI (i / 8) := by rw [show (8 : Int32) = nI 8 from rfl, pk_div (by omega) (by omega) (by omega)]
  have hm8 : i % 8 < 8 := Nat.mod_lt _ (by omega)
  rw [aI_at (n := 56) rfl (by omega), Option.bind_some, aI_at (n := 56) rfl (by omega), Option.bind_some, hpc i hi, hpm i hi, hr, hd]
  have a0 : nI (i % 8) = 0 ↔ i % 8 = 0 := nI_eq (b := 0) (by omega) (by omega)
  have a7 : nI (i % 8) = 7 ↔ i % 8 = 7 := nI_eq (b := 7) (by omega) (by omega)
  have b7 : 7 ≤ nI (i % 8) ↔ 7 ≤ i % 8 := nI_leI (a := 7) (by omega) (by omega)
  have c2 : 2 ≤ nI (i / 8) ↔ 2 ≤ i / 8 := nI_leI (a := 2) (by omega) (by omega)
  have c23 : 23 ≤ nI i ↔ 23 ≤ i := nI_leI (a := 23) (by omega) (by omega)
  by_cases h0 : i % 8 = 0
  · rw [if_pos (a0.mpr h0), if_pos (a0.mpr h0)]
    by_cases hk : f_A_kindOf (P i) = -1
    · left
      rw [if_pos hk, if_pos (show f_M_kindBy (P i) = -1 from hk)]
      exact ⟨rfl, rfl⟩
    · right
      rw [if_neg hk, if_neg (show ¬ f_M_kindBy (P i) = -1 from hk)]
      exact ⟨rfl, rfl, ⟨fun _ => hk, fun z => by omega⟩, fun z => hk (by rw [z]; exact kind59), by omega⟩
  · rw [if_neg (fun z => h0 (a0.mp z)), if_neg (fun z => h0 (a0.mp z))]
    by_cases h7 : i % 8 = 7
    · have hn59 : ¬ P i = 59 := fun z => hns ⟨h7, z⟩
      rw [if_pos (a7.mpr h7), if_pos (b7.mpr (by omega)), if_neg hn59]
      by_cases h44 : P i = 44
      · rw [if_pos h44, if_pos h44]
        by_cases hb : i < 23
        · right
          rw [if_neg (fun z => by have := c2.mp z; omega), if_neg (fun z => by have := c23.mp z; omega)]
          exact ⟨rfl, rfl, ⟨fun z => by omega, fun _ z => by omega⟩, hn59, hb⟩
        · left
          rw [if_pos (c2.mpr (by omega)), if_pos (c23.mpr (by omega))]
          exact ⟨rfl, rfl⟩
      · left
        rw [if_neg h44, if_neg h44]
        exact ⟨rfl, rfl⟩
    · rw [if_neg (fun z => h7 (a7.mp z)), if_neg (show ¬ 7 ≤ nI (i % 8) from fun z => by have := b7.mp z; omega)]
      by_cases g1 : P i = 48
      · right
        rw [if_pos g1]
        exact ⟨rfl, rfl, ⟨fun z => absurd z h0, fun _ _ => Or.inl g1⟩, by rw [g1]; decide, by omega⟩
      · rw [if_neg g1]
        by_cases g2 : P i = 49
        · right
          rw [if_pos g2]
          exact ⟨rfl, rfl, ⟨fun z => absurd z h0, fun _ _ => Or.inr (Or.inl g2)⟩, by rw [g2]; decide, by omega⟩
        · rw [if_neg g2]
          by_cases g3 : P i = 63
          · right
            rw [if_pos g3]
            exact ⟨rfl, rfl, ⟨fun z => absurd z h0, fun _ _ => Or.inr (Or.inr g3)⟩, by rw [g3]; decide, by omega⟩
          · left
            rw [if_neg g3]
            exact ⟨rfl, rfl⟩
def CR (P : Nat → Int32) (len r : Nat) (C M : ip_St) : Prop := (C.1 0 3 = 0 ∧ M.1 30 6 = -1) ∨ ∃ jn, 1 ≤ jn ∧ jn ≤ 3 ∧ C.1 0 3 = nI jn ∧ M.1 30 6 = nI (8 * jn) ∧ 8 * jn ≤ len ∧ (∀ i, i < 8 * jn - 1 → okJ P i) ∧ (r = len → LR P (8 * jn) len C M)
theorem court_loop {P : Nat → Int32} {len : Nat} (hlen : len ≤ 56) : ∀ (e i n n' : Nat) (C M : ip_St), i + e = len → e < n → e + 1 < n' → i ≤ 23 → C.1 0 1 = nI len → M.1 30 2 = nI len → (∀ i, i < len → C.1 1 i = P i) → (∀ i, i < len → M.1 32 i = P i) → C.1 0 3 = 0 → M.1 30 6 = -1 → (∀ i', i' < i → okJ P i') → ∃ r C' M', f_A_scanCourt_14 n (nI i) C = some (nI r, C') ∧ f_M_faultOf_7 n' (nI i) M = some (nI r, M') ∧ r ≤ len ∧ CR P len r C' M' := by
  intro e
  induction e with
  | zero =>
    intro i n n' C M hi hn hn' h23 hc hm hpc hpm h3 h6 hok
    obtain ⟨q, rfl⟩ : ∃ q, n = q + 1 := ⟨n - 1, by omega⟩
    obtain ⟨q', rfl⟩ : ∃ q, n' = q + 1 := ⟨n' - 1, by omega⟩
    have hle : nI len ≤ nI i := by rw [nI_leI (by omega) (by omega)]; omega
    rw [f_A_scanCourt_14, hc, if_pos hle, f_M_faultOf_7, hm, if_pos hle]
    unfold f_M_faultOf_61
    rw [h6, if_pos rfl, show i = len by omega]
    exact ⟨len, C, M, rfl, rfl, Nat.le_refl _, Or.inl ⟨h3, h6⟩⟩
  | succ e ih =>
    intro i n n' C M hi hn hn' h23 hc hm hpc hpm h3 h6 hok
    obtain ⟨q, rfl⟩ : ∃ q, n = q + 1 := ⟨n - 1, by omega⟩
    obtain ⟨q', rfl⟩ : ∃ q, n' = q + 1 := ⟨n' - 1, by omega⟩
    have hle : ¬ nI len ≤ nI i := by rw [nI_leI (by omega) (by omega)]; omega
    have hr : ip_irem (nI i) 8 = nI (i % 8) := by rw [show (8 : Int32) = nI 8 from rfl, irem_nI (by omega) (by omega) (by omega)]
    have hm8 : i % 8 < 8 := Nat.mod_lt _ (by omega)
    have a7 : nI (i % 8) = 7 ↔ i % 8 = 7 := nI_eq (b := 7) (by omega) (by omega)
    rw [f_A_scanCourt_14, hc, if_neg hle, f_M_faultOf_7, hm, if_neg hle, h6, if_pos rfl, hr, aI_at (n := 56) rfl (by omega), Option.bind_some, hpc i (by omega)]
    by_cases hs : i % 8 = 7 ∧ P i = 59
    · obtain ⟨s7, s59⟩ := hs
      have hd : nI i / 8 = nI (i / 8) := by rw [show (8 : Int32) = nI 8 from rfl, pk_div (by omega) (by omega) (by omega)]
      have hjl : f_M_isJudgesLetter (nI i) M = some true := by
        unfold f_M_isJudgesLetter
        rw [aI_at (n := 56) rfl (by omega), Option.bind_some, hpm i (by omega), hr, if_neg (fun z => by have := (nI_eq (b := 0) (by omega) (by omega)).mp z; omega), if_pos (by rw [show (7 : Int32) = nI 7 from rfl, nI_leI (by omega) (by omega)]; omega), if_pos s59]
      rw [if_pos (a7.mpr s7), if_pos s59, hjl, Option.bind_some, if_pos rfl, aI_at (n := 56) rfl (by omega), Option.bind_some, hpm i (by omega), if_pos s59, hd, nI_1, nI_1]
      unfold f_M_faultOf_52
      rw [nI_1]
      have e8 : i + 1 = 8 * (i / 8 + 1) := by omega
      obtain ⟨r, C', M', g1, g2, g3, g4⟩ := scanLaw_eq (P := P) (len := len) (fm := 8 * (i / 8 + 1)) hlen (by omega) (C := ip_upI C 0 3 (nI (i / 8 + 1))) (M := ip_upI M 30 6 (nI (i + 1))) (by rw [upI_ne _ _ (by omega)]; exact hc) (by rw [upI_ne _ _ (by omega)]; exact hm) (fun j hj => by rw [upI_ne _ _ (by omega)]; exact hpc j hj) (fun j hj => by rw [upI_ne _ _ (by omega)]; exact hpm j hj)
      have f61 : f_M_faultOf_61 (nI (i + 1)) (ip_upI M 30 6 (nI (i + 1))) = some (nI r, M') := by
        unfold f_M_faultOf_61
        rw [upI_same, if_neg (nI_n1 (by omega)).1]
        rw [← e8] at g2
        rw [g2]
        rfl
      have fM : f_M_faultOf_7 q' (nI (i + 1)) (ip_upI M 30 6 (nI (i + 1))) = some (nI r, M') := by
        obtain ⟨q2, rfl⟩ : ∃ q, q' = q + 1 := ⟨q' - 1, by omega⟩
        rw [f_M_faultOf_7]
        split
        · exact f61
        · rw [upI_same, if_neg (nI_n1 (by omega)).1]
          exact f61
      rw [e8, g1, Option.bind_some, ← e8, fM]
      refine ⟨r, C', M', rfl, rfl, g3, Or.inr ⟨i / 8 + 1, by omega, by omega, ?_, ?_, by omega, fun j hj => hok j (by omega), g4⟩⟩
      · rw [(F_A_scanLaw g1 0 3 rfl).1, upI_same]
      · rw [(F_M_goLawFrom g2 30 6 rfl).1, upI_same, e8]
    · have hA : (if nI (i % 8) = 7 then (if P i = 59 then ((f_A_scanLaw (nI i + 1) (ip_upI C 0 3 ((nI i / 8) + 1))).bind fun zq5 => some (zq5.1, zq5.2)) else f_A_scanCourt_60 (f_A_scanCourt_14 q) (nI i) C) else f_A_scanCourt_60 (f_A_scanCourt_14 q) (nI i) C) = f_A_scanCourt_60 (f_A_scanCourt_14 q) (nI i) C := by
        by_cases h7 : i % 8 = 7
        · rw [if_pos (a7.mpr h7), if_neg (fun z => hs ⟨h7, z⟩)]
        · rw [if_neg (fun z => h7 (a7.mp z))]
      rw [hA]
      unfold f_A_scanCourt_60
      rcases fits_eq hlen (show i < len by omega) h23 hpc hpm hs with ⟨f1, f2⟩ | ⟨f1, f2, f3, f4, f5⟩
      · rw [f1, Option.bind_some, f2, Option.bind_some, if_neg (by decide), if_neg (by decide)]
        exact ⟨i, C, M, rfl, rfl, by omega, Or.inl ⟨h3, h6⟩⟩
      · rw [f1, Option.bind_some, f2, Option.bind_some, if_pos rfl, if_pos rfl, aI_at (n := 56) rfl (by omega), Option.bind_some, hpm i (by omega), if_neg f4]
        unfold f_M_faultOf_52
        rw [nI_1]
        exact ih (i + 1) q q' C (ip_upI M 30 6 (-1)) (by omega) (by omega) (by omega) (by omega) hc (by rw [upI_ne _ _ (by omega)]; exact hm) hpc (fun j hj => by rw [upI_ne _ _ (by omega)]; exact hpm j hj) h3 (upI_same _ _ _ _) (fun j hj => by
          by_cases z : j = i
          · rw [z]; exact f3
          · exact hok j (by omega))
theorem scanCourt_eq {P : Nat → Int32} {len : Nat} (hlen : len ≤ 56) {C M : ip_St} (hc : C.1 0 1 = nI len) (hm : M.1 30 2 = nI len) (hpc : ∀ i, i < len → C.1 1 i = P i) (hpm : ∀ i, i < len → M.1 32 i = P i) : ∃ r C' M', f_A_scanCourt C = some (nI r, C') ∧ f_M_faultOf M = some (nI r, M') ∧ r ≤ len ∧ CR P len r C' M' := by
  have fs := F_R_start (start_eq (ip_upI C 0 3 0))
  obtain ⟨r, C', M', g1, g2, g3⟩ := court_loop (P := P) hlen len 0 ip_FU ip_FU (RS (ip_upI C 0 3 0)) (ip_upI M 30 6 (-1)) (by omega) (by rw [FU_eq]; omega) (by rw [FU_eq]; omega) (by omega) (by rw [(fs 0 1 rfl).1]; exact hc) hm (fun i hi => by rw [(fs 1 i rfl).1]; exact hpc i hi) hpm (by rw [(fs 0 3 rfl).1]; rfl) rfl (fun i hi => absurd hi (Nat.not_lt_zero i))
  refine ⟨r, C', M', ?_, g2, g3⟩
  unfold f_A_scanCourt
  rw [start_eq, Option.bind_some]
  exact g1
theorem op_fault {N : Nat} {C M : ip_St} (h : Rel2 N C M) : ∃ r C' M', f_A_fault C = some (r, C') ∧ f_M_fault M = some (r, M') ∧ Rel2 N C' M' := by
  obtain ⟨len, l1, l2, l3, l4⟩ := h.2.1
  obtain ⟨r, C', M', g1, g2, -⟩ := scanCourt_eq (P := fun i => M.1 32 i) l1 l2 l3 l4 (fun _ _ => rfl)
  refine ⟨nI r, C', M', ?_, ?_, ?_⟩
  · unfold f_A_fault
    rw [g1]
    rfl
  · unfold f_M_fault
    rw [g2]
    rfl
  · exact (h.scrC (ip_Fr.mono (by decide) (F_A_scanCourt g1))).scrM (ip_Fr.mono (by decide) (F_M_faultOf g2))
