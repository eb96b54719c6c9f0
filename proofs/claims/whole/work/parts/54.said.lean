theorem laid_ck : ((List.range 5).all fun k => (List.range 6).all fun f => match f_M_laidRow_5 70 (nI k) (nI f) 0 0 with
  | some x => decide (x = srow k f)
  | none => false) = true := by decide +kernel
theorem laid_eq {k f : Nat} (hk : k < 5) (hf : f < 6) : f_M_laidRow_5 70 (nI k) (nI f) 0 0 = some (srow k f) := by
  have h1 := List.all_eq_true.mp (List.all_eq_true.mp laid_ck k (List.mem_range.mpr hk)) f (List.mem_range.mpr hf)
  split at h1
  · rename_i x hx
    rw [hx, of_decide_eq_true h1]
  · cases h1
theorem laid_me {k f : Nat} (hk : k < 5) (hf : f < 6) (S : ip_St) : ip_Me 100 [.int (nI k), .int (nI f)] S (some (.long (srow k f))) S := by
  refine ⟨[some (.int (nI k)), some (.int (nI f)), none, none, none], rfl, ?_⟩
  refine ip_Ev.steps 4 (pc' := 5) (lv' := [some (.int (nI k)), some (.int (nI f)), some (.long 0), none, some (.int 0)]) (st' := []) (S1 := S) rfl ?_
  exact E_M_laidRow_5 70 (laid_eq hk hf)
def ax_T (L : Nat) (xs : Nat → Int32) (i : Nat) : ip_St := ((ax_S L xs).1, fun c k => if c = 31 then (if k < i then srow (k / 6) (k % 6) else 0) else 0)
theorem ax_T_up (L : Nat) (xs : Nat → Int32) (i : Nat) : ip_upL (ax_T L xs i) 31 i (srow (i / 6) (i % 6)) = ax_T L xs (i + 1) := by
  unfold ax_T ip_upL
  dsimp only
  congr 1
  funext c k
  by_cases hc : c = 31
  · subst hc
    by_cases hk : k = i
    · subst hk
      simp
    · have h1 : (k < i + 1) = (k < i) := by
        apply propext
        omega
      simp [hk, h1]
  · simp [hc]
theorem dv_ck : ∀ i, i < 30 → nI i / 6 = nI (i / 6) ∧ nI i - nI i / 6 * 6 = nI (i % 6) := by decide +kernel
theorem said_ev (L : Nat) (xs : Nat → Int32) : ∀ (d i : Nat), i + d = 30 → ip_Ev 190 206 [some (.ref 30), some (.int (nI i))] [] (ax_T L xs i) none (ax_T L xs 30) := by
  intro d
  induction d with
  | zero =>
    intro i h
    obtain rfl : i = 30 := by omega
    refine ip_Ev.steps 2 (pc' := 209) (lv' := [some (.ref 30), some (.int (nI 30))]) (st' := [.int 30, .int (nI 30)]) (S1 := ax_T L xs 30) rfl ?_
    refine ip_Ev.iff2 (t := 235) rfl rfl ip_cGe (fun _ => ?_) (fun z => absurd (by decide) z)
    exact ip_Ev.ret rfl
  | succ d ih =>
    intro i h
    have hi : i < 30 := by omega
    obtain ⟨q1, q2⟩ := dv_ck i hi
    refine ip_Ev.steps 2 (pc' := 209) (lv' := [some (.ref 30), some (.int (nI i))]) (st' := [.int 30, .int (nI i)]) (S1 := ax_T L xs i) rfl ?_
    refine ip_Ev.iff2 (t := 235) rfl rfl ip_cGe (fun z => ?_) (fun _ => ?_)
    · exfalso
      rw [show (30 : Int32) = nI 30 from rfl, Int32.le_iff_toInt_le, nI_toInt (by omega), nI_toInt (by omega)] at z
      omega
    refine ip_Ev.steps 5 (pc' := 220) (lv' := [some (.ref 30), some (.int (nI i))]) (st' := [.int 6, .int (nI i), .int (nI i), .ref 31]) (S1 := ax_T L xs i) rfl ?_
    refine ip_Ev.idiv rfl (by decide) ?_
    rw [q1]
    refine ip_Ev.steps 2 (pc' := 224) (lv' := [some (.ref 30), some (.int (nI i))]) (st' := [.int 6, .int (nI i), .int (nI (i / 6)), .int (nI i), .ref 31]) (S1 := ax_T L xs i) rfl ?_
    refine ip_Ev.irem rfl (by decide) ?_
    rw [q2]
    refine ip_Ev.call (i := 100) (a := [.int (nI (i / 6)), .int (nI (i % 6))]) (r := [.int (nI i), .ref 31]) rfl (laid_me (by omega) (by omega) _) ?_
    show ip_Ev 190 228 _ [.long (srow (i / 6) (i % 6)), .int (nI i), .ref 31] _ _ _
    refine ip_Ev.last (S1 := ax_T L xs (i + 1)) rfl ?_ ?_
    · rw [← ax_T_up]
      exact wL_at (show ip_ar 31 = some (1, 30) from rfl) hi
    refine ip_Ev.steps 2 (pc' := 206) (lv' := [some (.ref 30), some (.int (nI i + 1))]) (st' := []) (S1 := ax_T L xs (i + 1)) rfl ?_
    rw [show nI i + 1 = nI (i + 1) from nI_add i 1]
    exact ih (i + 1) (by omega)
theorem said_ev0 (L : Nat) (xs : Nat → Int32) : ip_Ev 190 204 [some (.ref 30), none] [] (ax_S L xs) none (ax_T L xs 30) := by
  have h0 : ax_T L xs 0 = ax_S L xs := by
    unfold ax_T ax_S
    dsimp only
    congr 1
    funext c k
    simp
  rw [← h0]
  refine ip_Ev.steps 2 (pc' := 206) (lv' := [some (.ref 30), some (.int 0)]) (st' := []) (S1 := ax_T L xs 0) rfl ?_
  exact said_ev L xs 30 0 rfl
theorem inv0 (L : Nat) (xs : Nat → Int32) : Inv 0 L xs (ax_T L xs 30) := by
  refine ⟨⟨fun k hk f hf => ?_, ⟨0, by omega, rfl, rfl, fun k hk => absurd hk (Nat.not_lt_zero _)⟩, Or.inl rfl, 0, 0, by omega, rfl, ⟨rfl, rfl, rfl, fun j hj => absurd hj (Nat.not_lt_zero _), fun h => absurd h (Nat.lt_irrefl _), ⟨0, by omega, rfl, rfl, fun i hi => absurd hi (Nat.not_lt_zero _)⟩⟩, Nat.le_refl _, rfl, rfl, Or.inr ⟨rfl, Or.inl rfl⟩⟩, fun j hj => ?_, rfl, fun j _ => rfl⟩
  · show (if 31 = 31 then (if 6 * k + f < 30 then srow ((6 * k + f) / 6) ((6 * k + f) % 6) else 0) else 0) = srow k f
    rw [if_pos rfl, if_pos (by omega), show (6 * k + f) / 6 = k by omega, show (6 * k + f) % 6 = f by omega]
  · match j, hj with
    | 0, _ => exact ⟨rfl, rfl⟩
    | 1, _ => exact ⟨rfl, rfl⟩
    | 2, _ => exact ⟨rfl, rfl⟩
theorem law_ev {L : Nat} (xs : Nat → Int32) (hL : L ≤ 320) : ∃ S', ip_Ev 189 16 [some (.ref 58), some (.ref 0), some (.ref 30), none] [] (ax_T L xs 30) (some (.int 1)) S' := by
  obtain ⟨S', h⟩ := loop_ev hL (xs := xs) L 0 0 (ax_T L xs 30) (by omega) (by omega) (by omega) (inv0 L xs)
  refine ⟨S', ?_⟩
  refine ip_Ev.steps 2 (pc' := 18) (lv' := lvL 0) (st' := []) (S1 := ax_T L xs 30) rfl ?_
  exact h
