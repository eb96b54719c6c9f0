/-! ===== a law scanned by both ===== -/
def arun (t : Nat → Int32) (s0 : AS × rLS) : Nat → Option (AS × rLS)
  | 0 => some s0
  | k + 1 => (arun t s0 k).bind fun s => (astep (tok (t k)).1 (tok (t k)).2 s.1).bind fun a' => some (a', lstep (tok (t k)).1 (tok (t k)).2 s.1 s.2)
def a00 : AS := (0, true, false, 0, fun _ => 0, fun _ => 0, fun _ => false)
theorem inR_1 {c : Int32} {n : Nat} (hn : n < 2 ^ 31) (h : ¬ c = nI n) : inR c (nI n) (nI n) = false := by
  cases q : inR c (nI n) (nI n) with
  | false => rfl
  | true =>
    exfalso
    unfold inR at q
    rw [Bool.and_eq_true, decide_eq_true_eq, decide_eq_true_eq] at q
    apply h
    apply Int32.toInt_inj.mp
    have h1 := q.1
    have h2 := q.2
    rw [Int32.le_iff_toInt_le] at h1 h2
    omega
theorem tok_in (c : Int32) : inR c 97 102 = decide ((tok c).1 = 1) ∧ inR c 33 33 = decide ((tok c).1 = 2) ∧ inR c 49 51 = decide ((tok c).1 = 3) ∧ (if c = 40 then (1 : Int32) else if c = 91 then 1 else if c = 41 then -1 else if c = 93 then -1 else 0) = (if (tok c).1 = 4 ∨ (tok c).1 = 5 then 1 else if (tok c).1 = 9 ∨ (tok c).1 = 10 then -1 else 0) := by
  rcases tok_cs c with ⟨k, x, hx, e, ec⟩ | ⟨k, ec⟩ | ⟨k, x, hx1, hx3, e, ec⟩ | ⟨k, ec⟩ | ⟨k, ec⟩ | ⟨k, ec⟩ | ⟨k, ec⟩ | ⟨k, ec⟩ | ⟨k, ec⟩ | ⟨k, ec⟩ | ⟨k, e1, e2, e3, e4, e5, e6, e7, e8, e9, e10⟩
  · clear k e
    rcases (show x = 0 ∨ x = 1 ∨ x = 2 ∨ x = 3 ∨ x = 4 ∨ x = 5 by omega) with rfl | rfl | rfl | rfl | rfl | rfl <;> subst ec <;> decide
  · subst ec; decide
  · clear k e
    rcases (show x = 1 ∨ x = 2 ∨ x = 3 by omega) with rfl | rfl | rfl <;> subst ec <;> decide
  · subst ec; decide
  · subst ec; decide
  · subst ec; decide
  · subst ec; decide
  · subst ec; decide
  · subst ec; decide
  · subst ec; decide
  · rw [k, e1, e2, if_neg e4, if_neg e5, if_neg e9, if_neg e10]
    have : inR c 33 33 = false := inR_1 (n := 33) (by omega) e3
    rw [this]
    exact ⟨rfl, rfl, rfl, rfl⟩
theorem astep_lv {k x : Nat} {a a' : AS} (h : astep k x a = some a') (h0 : a.2.2.2.2.1 0 = 0) : a'.1 = (if k = 4 ∨ k = 5 then a.1 + 1 else if k = 9 ∨ k = 10 then a.1 - 1 else a.1) ∧ ((k = 9 ∨ k = 10) → 1 ≤ a.1) := by
  have hsh : ¬ shL a = 0 → 1 ≤ a.1 := by
    intro q
    rcases Nat.eq_zero_or_pos a.1 with z | z
    · exfalso
      apply q
      unfold shL
      rw [z]
      exact h0
    · exact z
  unfold astep at h
  by_cases e1 : k = 1
  · subst e1
    rw [if_pos rfl] at h
    split at h
    · cases h; exact ⟨rfl, by omega⟩
    · cases h
  rw [if_neg e1] at h
  by_cases e2 : k = 2
  · subst e2
    rw [if_pos rfl] at h
    split at h
    · cases h; exact ⟨rfl, by omega⟩
    · cases h
  rw [if_neg e2] at h
  by_cases e3 : k = 3
  · subst e3
    rw [if_pos rfl] at h
    split at h
    · cases h; exact ⟨rfl, by omega⟩
    · cases h
  rw [if_neg e3] at h
  by_cases e4 : k = 4
  · subst e4
    rw [if_pos rfl] at h
    split at h
    · cases h; exact ⟨rfl, by omega⟩
    · cases h
  rw [if_neg e4] at h
  by_cases e5 : k = 5
  · subst e5
    rw [if_pos rfl] at h
    split at h
    · cases h
    · cases h; exact ⟨rfl, by omega⟩
  rw [if_neg e5] at h
  by_cases e6 : k = 6
  · subst e6
    rw [if_pos rfl] at h
    split at h
    · cases h; exact ⟨rfl, by omega⟩
    · cases h
  rw [if_neg e6] at h
  by_cases e7 : k = 7
  · subst e7
    rw [if_pos rfl] at h
    split at h
    · cases h; exact ⟨rfl, by omega⟩
    · cases h
  rw [if_neg e7] at h
  by_cases e8 : k = 8
  · subst e8
    rw [if_pos rfl] at h
    split at h
    · cases h; exact ⟨rfl, by omega⟩
    · cases h
  rw [if_neg e8] at h
  by_cases e9 : k = 9
  · subst e9
    rw [if_pos rfl] at h
    split at h
    · rename_i q
      cases h; exact ⟨rfl, fun _ => hsh (by omega)⟩
    · cases h
  rw [if_neg e9] at h
  by_cases e10 : k = 10
  · subst e10
    rw [if_pos rfl] at h
    split at h
    · rename_i q
      cases h; exact ⟨rfl, fun _ => hsh (by omega)⟩
    · cases h
  rw [if_neg e10] at h
  cases h
def CT (C : ip_St) (t : Nat → Int32) (k : Nat) (a : AS) : Prop := C.1 3 1 = nI (ctR t 97 102 k) ∧ C.1 3 2 = nI (ctR t 33 33 k) ∧ C.1 3 3 = nI (ctR t 49 51 k) ∧ C.1 3 4 = (dpp t k).2 ∧ (dpp t k).1 = nI a.1 ∧ nI a.1 ≤ C.1 3 4
theorem ctR_s (t : Nat → Int32) (lo hi : Int32) (k : Nat) : ctR t lo hi (k + 1) = ctR t lo hi k + (if inR (t k) lo hi = true then 1 else 0) := rfl
theorem CT_step {C C' : ip_St} {t : Nat → Int32} {k : Nat} {a a' : AS} (hL : a.1 ≤ 55) (h0 : a.2.2.2.2.1 0 = 0) (hs : astep (tok (t k)).1 (tok (t k)).2 a = some a') (hn : CN (tok (t k)).1 a'.1 C C') (h : CT C t k a) : CT C' t (k + 1) a' := by
  obtain ⟨c1, c2, c3, c4, c5, c6⟩ := h
  obtain ⟨n1, n2, n3, n4⟩ := hn
  obtain ⟨i1, i2, i3, i4⟩ := tok_in (t k)
  obtain ⟨v1, v2⟩ := astep_lv hs h0
  have hd1 : (dpp t (k + 1)).1 = nI a'.1 := by
    show (dpp t k).1 + (if t k = 40 then (1 : Int32) else if t k = 91 then 1 else if t k = 41 then -1 else if t k = 93 then -1 else 0) = nI a'.1
    rw [i4, c5, v1]
    by_cases q1 : (tok (t k)).1 = 4 ∨ (tok (t k)).1 = 5
    · rw [if_pos q1, if_pos q1, nI_1]
    · rw [if_neg q1, if_neg q1]
      by_cases q2 : (tok (t k)).1 = 9 ∨ (tok (t k)).1 = 10
      · rw [if_pos q2, if_pos q2]
        obtain ⟨L, e⟩ : ∃ L, a.1 = L + 1 := ⟨a.1 - 1, by have := v2 q2; omega⟩
        rw [e, pk_m1]
        rfl
      · rw [if_neg q2, if_neg q2, show nI a.1 + 0 = nI (a.1 + 0) from nI_add _ 0, Nat.add_zero]
  have hd2 : (dpp t (k + 1)).2 = if C.1 3 4 < nI a'.1 then nI a'.1 else C.1 3 4 := by
    have e : (dpp t (k + 1)).2 = if (dpp t k).2 < (dpp t (k + 1)).1 then (dpp t (k + 1)).1 else (dpp t k).2 := rfl
    rw [e, hd1, c4]
  have hst : ∀ (b : Bool) (K : Nat) (y y' : Int32) (n : Nat), b = decide ((tok (t k)).1 = K) → y = nI n → y' = (if (tok (t k)).1 = K then y + 1 else y) → y' = nI (n + (if b = true then 1 else 0)) := by
    intro b K y y' n hb hy hy'
    rw [hy', hy, hb]
    by_cases q : (tok (t k)).1 = K
    · rw [if_pos q, decide_eq_true q, if_pos rfl, nI_1]
    · rw [if_neg q, decide_eq_false q, if_neg (by decide), Nat.add_zero]
  have hmax : C'.1 3 4 = (dpp t (k + 1)).2 := by
    rw [hd2, n4]
    by_cases q1 : (tok (t k)).1 = 4 ∨ (tok (t k)).1 = 5
    · rw [if_pos q1]
    · rw [if_neg q1]
      have hle : a'.1 ≤ a.1 := by
        rw [v1, if_neg q1]
        split
        · omega
        · omega
      have : ¬ C.1 3 4 < nI a'.1 := by
        apply nlt32.mpr
        have x1 : nI a'.1 ≤ nI a.1 := (nI_leI (by omega) (by omega)).mpr hle
        rw [Int32.le_iff_toInt_le] at c6 x1 ⊢
        omega
      rw [if_neg this]
  refine ⟨?_, ?_, ?_, hmax, hd1, ?_⟩
  · rw [ctR_s]; exact hst _ 1 _ _ _ i1 c1 n1
  · rw [ctR_s]; exact hst _ 2 _ _ _ i2 c2 n2
  · rw [ctR_s]; exact hst _ 3 _ _ _ i3 c3 n3
  · rw [hmax, hd2]
    by_cases q : C.1 3 4 < nI a'.1
    · rw [if_pos q]
      rw [Int32.le_iff_toInt_le]
      omega
    · rw [if_neg q]
      exact nlt32.mp q
theorem scan_loop {P : Nat → Int32} {len fm : Nat} {s0 : AS × rLS} (hlen : len ≤ 56) : ∀ (e k n n' : Nat) (C M : ip_St) (a : AS) (l : rLS), fm + k + e = len → e < n → e < n' → C.1 0 1 = nI len → M.1 30 2 = nI len → (∀ i, i < len → C.1 1 i = P i) → (∀ i, i < len → M.1 32 i = P i) → arun (fun q => P (fm + q)) s0 k = some (a, l) → a.1 ≤ k → CW C a → LC C l → CT C (fun q => P (fm + q)) k a → AR M a → ∃ r C' M', f_A_scanLaw_9 n (nI (fm + k)) C = some (nI r, C') ∧ f_M_goLawFrom_12 n' (nI (fm + k)) M = some (nI r, M') ∧ r ≤ len ∧ (r = len → ∃ a' l', arun (fun q => P (fm + q)) s0 (len - fm) = some (a', l') ∧ CW C' a' ∧ LC C' l' ∧ CT C' (fun q => P (fm + q)) (len - fm) a' ∧ AR M' a' ∧ a'.1 ≤ 56) := by
  intro e
  induction e with
  | zero =>
    intro k n n' C M a l hk hn hn' hc hm hpc hpm hr hak hcw hlc hct har
    obtain ⟨q, rfl⟩ : ∃ q, n = q + 1 := ⟨n - 1, by omega⟩
    obtain ⟨q', rfl⟩ : ∃ q, n' = q + 1 := ⟨n' - 1, by omega⟩
    have hle : nI len ≤ nI (fm + k) := by rw [nI_leI (by omega) (by omega)]; omega
    rw [f_A_scanLaw_9, hc, if_pos hle, f_M_goLawFrom_12, hm, if_pos hle]
    refine ⟨len, C, M, rfl, by rw [show fm + k = len by omega], Nat.le_refl _, fun _ => ?_⟩
    rw [show len - fm = k by omega]
    exact ⟨a, l, hr, hcw, hlc, hct, har, by omega⟩
  | succ e ih =>
    intro k n n' C M a l hk hn hn' hc hm hpc hpm hr hak hcw hlc hct har
    obtain ⟨q, rfl⟩ : ∃ q, n = q + 1 := ⟨n - 1, by omega⟩
    obtain ⟨q', rfl⟩ : ∃ q, n' = q + 1 := ⟨n' - 1, by omega⟩
    have hle : ¬ nI len ≤ nI (fm + k) := by rw [nI_leI (by omega) (by omega)]; omega
    have hL : a.1 ≤ 55 := by omega
    rw [f_A_scanLaw_9, hc, if_neg hle, f_M_goLawFrom_12, hm, if_neg hle, aI_at (n := 56) rfl (by omega), Option.bind_some, aI_at (n := 56) rfl (by omega), Option.bind_some, hpc _ (by omega), hpm _ (by omega), nI_1]
    have h1 := cs_step hcw hlc hL (P (fm + k))
    have h2 := ms_step har hL (P (fm + k))
    rcases h1 with ⟨s1, C', s2⟩ | ⟨a', C', s1, s2, s3, s4, s5⟩
    · rcases h2 with ⟨-, M', m2⟩ | ⟨a'', M', m1, -⟩
      · rw [s2, Option.bind_some, m2, Option.bind_some, if_neg (show ¬ (false = true) by decide), if_pos rfl]
        exact ⟨fm + k, C', M', rfl, rfl, by omega, fun z => by omega⟩
      · rw [s1] at m1
        cases m1
    · rcases h2 with ⟨m1, -⟩ | ⟨a'', M', m1, m2, m3⟩
      · rw [s1] at m1
        cases m1
      · have ea : a'' = a' := by
          rw [s1] at m1
          cases m1
          rfl
        rw [ea] at m3
        have fc := F_R_accept s2
        have fm' := F_M_goLaw m2
        have hrun : arun (fun q => P (fm + q)) s0 (k + 1) = some (a', lstep (tok (P (fm + k))).1 (tok (P (fm + k))).2 a l) := by
          show ((arun (fun q => P (fm + q)) s0 k).bind _) = _
          rw [hr, Option.bind_some]
          show ((astep (tok (P (fm + k))).1 (tok (P (fm + k))).2 a).bind _) = _
          rw [s1]
          rfl
        have hlv := (astep_lv s1 hcw.2.2.2.2.2.2.2.2.1).1
        have hak' : a'.1 ≤ k + 1 := by
          rw [hlv]
          split
          · omega
          · split
            · omega
            · omega
        have hct' : CT C' (fun q => P (fm + q)) (k + 1) a' := CT_step hL hcw.2.2.2.2.2.2.2.2.1 s1 s5 hct
        rw [s2, Option.bind_some, m2, Option.bind_some, if_pos rfl, if_neg (show ¬ (true = false) by decide)]
        exact ih (k + 1) q q' C' M' a' _ (by omega) (by omega) (by omega) (by rw [(fc 0 1 rfl).1]; exact hc) (by rw [(fm' 30 2 rfl).1]; exact hm) (fun i hi => by rw [(fc 1 i rfl).1]; exact hpc i hi) (fun i hi => by rw [(fm' 32 i rfl).1]; exact hpm i hi) hrun hak' s3 s4 hct' m3
def RS (C : ip_St) : ip_St := ip_upI (ip_upI (ip_upI (ip_upL (ip_upL (ip_upI (ip_upI (ip_upI (f_L_clear_3 C) 2 9 0) 4 0 0) 6 0 (0 &&& 1)) 7 0 0) 8 0 (-1)) 2 10 1) 2 11 0) 2 12 0
theorem start_eq (C : ip_St) : f_R_start C = some (RS C) := by
  unfold f_R_start
  refine (wI_r (n := 57) (i := 0) rfl rfl (by omega)).trans ?_
  refine (wZ_r (n := 57) (i := 0) rfl rfl (by omega)).trans ?_
  rw [startLaw_eq (L := 0) rfl (by omega)]
  rfl
/-- what a law that was scanned to its end leaves -/
def LR (P : Nat → Int32) (fm len : Nat) (C M : ip_St) : Prop := ∃ a l l0, l0.1 0 = 0 ∧ l0.2.1 0 = -1 ∧ arun (fun q => P (fm + q)) (a00, l0) (len - fm) = some (a, l) ∧ CW C a ∧ LC C l ∧ CT C (fun q => P (fm + q)) (len - fm) a ∧ AR M a ∧ a.1 ≤ 56
theorem scanLaw_eq {P : Nat → Int32} {len fm : Nat} (hlen : len ≤ 56) (hfm : fm ≤ len) {C M : ip_St} (hc : C.1 0 1 = nI len) (hm : M.1 30 2 = nI len) (hpc : ∀ i, i < len → C.1 1 i = P i) (hpm : ∀ i, i < len → M.1 32 i = P i) : ∃ r C' M', f_A_scanLaw (nI fm) C = some (nI r, C') ∧ f_M_goLawFrom (nI fm) M = some (nI r, M') ∧ r ≤ len ∧ (r = len → LR P fm len C' M') := by
  have hcw : CW (RS C) a00 := ⟨rfl, rfl, rfl, rfl, Nat.zero_le 3, fun z => absurd rfl z, (fun z => by cases z), rfl, rfl, fun i i1 i2 => by
    have : i ≤ 0 := i2
    omega⟩
  have har : AR (ip_upI (ip_upI M 30 4 0) 30 5 0) a00 := ⟨rfl, rfl, rfl, fun i i1 i2 => by
    have : i ≤ 0 := i2
    omega⟩
  have hct : CT (RS C) (fun q => P (fm + q)) 0 a00 := ⟨rfl, rfl, rfl, rfl, rfl, (by decide : (0 : Int32) ≤ 0)⟩
  have fs := F_R_start (start_eq C)
  obtain ⟨r, C', M', g1, g2, g3, g4⟩ := scan_loop (P := P) (fm := fm) (s0 := (a00, ((RS C).2 7, (RS C).2 8, (RS C).2 9, (RS C).2 10, (RS C).2 11))) hlen (len - fm) 0 ip_FU ip_FU (RS C) (ip_upI (ip_upI M 30 4 0) 30 5 0) a00 _ (by omega) (by rw [FU_eq]; omega) (by rw [FU_eq]; omega) (by rw [(fs 0 1 rfl).1]; exact hc) hm (fun i hi => by rw [(fs 1 i rfl).1]; exact hpc i hi) hpm rfl (Nat.le_refl 0) hcw ⟨rfl, rfl, rfl, rfl, rfl⟩ hct har
  refine ⟨r, C', M', ?_, g2, g3, fun z => ?_⟩
  · unfold f_A_scanLaw
    rw [start_eq, Option.bind_some]
    exact g1
  · obtain ⟨a, l, q1, q2, q3, q4, q5, q6⟩ := g4 z
    exact ⟨a, l, _, rfl, rfl, q1, q2, q3, q4, q5, q6⟩
theorem op_lawFault {N : Nat} {C M : ip_St} (h : Rel2 N C M) : ∃ r C' M', f_A_lawFault C = some (r, C') ∧ f_M_lawFault M = some (r, M') ∧ Rel2 N C' M' := by
  obtain ⟨len, l1, l2, l3, l4⟩ := h.2.1
  obtain ⟨r, C', M', g1, g2, -⟩ := scanLaw_eq (P := fun i => M.1 32 i) (fm := 0) l1 (Nat.zero_le _) l2 l3 l4 (fun _ _ => rfl)
  rw [show nI 0 = (0 : Int32) from rfl] at g1 g2
  refine ⟨nI r, C', M', ?_, ?_, ?_⟩
  · unfold f_A_lawFault
    rw [g1]
    rfl
  · unfold f_M_lawFault
    rw [g2]
    rfl
  · exact (h.scrC (ip_Fr.mono (by decide) (F_A_scanLaw g1))).scrM (ip_Fr.mono (by decide) (F_M_goLawFrom g2))
/-! ===== a court scanned by both ===== -/
def okJ (P : Nat → Int32) (i : Nat) : Prop := (i % 8 = 0 → ¬ f_A_kindOf (P i) = -1) ∧ (1 ≤ i % 8 → i % 8 ≤ 6 → P i = 48 ∨ P i = 49 ∨ P i = 63)
