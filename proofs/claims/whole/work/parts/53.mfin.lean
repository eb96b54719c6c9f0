/-! ===== what the constructors leave ===== -/
def ax_i0 (c k : Nat) : Int32 := cond (Nat.beq c 26) (cond (Nat.beq k 1) (-1) 0) (cond (Nat.beq c 30) (cond (Nat.beq k 32) (-1) 0) 0)
def ax_fv (c ci k : Nat) : Value := match ip_ty ci k with
  | 0 => .int (ax_i0 c k)
  | 1 => .long 0
  | 2 => .int (ax_i0 c k)
  | _ => match ip_rf c k with
    | some r => .ref r
    | none => .null
def ax_fin (c : Nat) : ax_E := match ip_ob c with
  | some ci => .inr (ci, (List.range (ip_nf ci)).map (fun k => ax_fv c ci k))
  | none => match ip_ar c with
    | some (0, n) => .inl (0, n, [])
    | some (1, n) => .inl (1, n, [])
    | some (2, n) => .inl (2, n, [])
    | some (_, n) => .inl (3, n, (List.range n).map (fun k => ip_rf c k))
    | none => .inl (0, 0, [])
def ax_G (n : Nat) : List ax_E := (List.range n).map ax_fin
def ax_S (L : Nat) (xs : Nat → Int32) : ip_St := (fun c k => cond (Nat.beq c 58) (xs k) (cond (Nat.beq c 59) (Int32.ofNat L) (ax_i0 c k)), fun _ _ => 0)
theorem ax_eqv (a b : List ax_E) (h : decide (a = b) = true) : a = b := of_decide_eq_true h
def ax_ok0 (x : Option (List ax_E)) (b : List ax_E) : Bool := match x with
  | some a => decide (a = b)
  | none => false
theorem ax_ok0_eq {x : Option (List ax_E)} {b : List ax_E} (h : ax_ok0 x b = true) : x = some b := by
  unfold ax_ok0 at h
  split at h
  · rw [of_decide_eq_true h]
  · cases h
def ax_ok1 (x : Option ax_Cf) (b : ax_Cf) : Bool := match x with
  | some a => Nat.beq a.1 b.1 && (decide (a.2.1 = b.2.1) && (decide (a.2.2.1 = b.2.2.1) && (decide (a.2.2.2.1 = b.2.2.2.1) && (Nat.beq a.2.2.2.2.1 b.2.2.2.2.1 && Nat.beq a.2.2.2.2.2 b.2.2.2.2.2))))
  | none => false
theorem ax_ok1_eq {x : Option ax_Cf} {b : ax_Cf} (h : ax_ok1 x b = true) : x = some b := by
  unfold ax_ok1 at h
  split at h
  · rename_i a
    obtain ⟨a1, a2, a3, a4, a5, a6⟩ := a
    obtain ⟨b1, b2, b3, b4, b5, b6⟩ := b
    simp only [Bool.and_eq_true, decide_eq_true_eq] at h
    obtain ⟨h1, h2, h3, h4, h5, h6⟩ := h
    rw [Nat.eq_of_beq_eq_true h1, h2, h3, h4, Nat.eq_of_beq_eq_true h5, Nat.eq_of_beq_eq_true h6]
  · cases h
theorem ax_r0 : ax_run 300 5 (0, [some (.ref 0)], [], [.inr (5, ax_df 5)], 0, 0) = some (ax_G 30) := ax_ok0_eq (by decide +kernel)
theorem ax_r1 : ax_its 101 6 (0, [some (.ref 30), none], [], ax_G 30 ++ [.inr (6, ax_df 6)], 0, 0) = some (204, [some (.ref 30), none], [], ax_G 55, 24, 3019) := ax_ok1_eq (by decide +kernel)
theorem ax_S1 {L : Nat} {xs : Nat → Int32} {c k : Nat} (h : c < 55) : (ax_S L xs).1 c k = ax_i0 c k := by
  show cond (Nat.beq c 58) (xs k) (cond (Nat.beq c 59) (Int32.ofNat L) (ax_i0 c k)) = ax_i0 c k
  have h1 : Nat.beq c 58 = false := by
    cases hb : Nat.beq c 58 with
    | false => rfl
    | true => have := Nat.eq_of_beq_eq_true hb; omega
  have h2 : Nat.beq c 59 = false := by
    cases hb : Nat.beq c 59 with
    | false => rfl
    | true => have := Nat.eq_of_beq_eq_true hb; omega
  rw [h1, h2]
  rfl
theorem ax_i0_ar {c : Nat} (h : ip_ob c = none) (k : Nat) : ax_i0 c k = 0 := by
  unfold ax_i0
  cases h1 : Nat.beq c 26 with
  | true =>
    rw [Nat.eq_of_beq_eq_true h1] at h
    cases h
  | false =>
    cases h2 : Nat.beq c 30 with
    | true =>
      rw [Nat.eq_of_beq_eq_true h2] at h
      cases h
    | false => rfl
theorem ax_ar3_ck : ∀ c, c < 55 → ∀ q, ip_ar c = some q → 3 ≤ q.1 → q.2 = 3 ∧ (c = 13 ∨ c = 20) := by
  have h : (List.range 55).all (fun c => match ip_ar c with
    | some q => !(Nat.ble 3 q.1) || (Nat.beq q.2 3 && (Nat.beq c 13 || Nat.beq c 20))
    | none => true) = true := by decide +kernel
  intro c hc q hq h3
  have h1 := List.all_eq_true.mp h c (List.mem_range.mpr hc)
  rw [hq] at h1
  dsimp only at h1
  have h4 : Nat.ble 3 q.1 = true := Nat.ble_eq_true_of_le h3
  rw [h4] at h1
  simp only [Bool.not_true, Bool.false_or, Bool.and_eq_true, Bool.or_eq_true] at h1
  exact ⟨Nat.eq_of_beq_eq_true h1.1, h1.2.imp Nat.eq_of_beq_eq_true Nat.eq_of_beq_eq_true⟩
theorem ax_rf3 {c : Nat} (h : c = 13 ∨ c = 20) (k : Nat) : ((List.range 3).map (fun k => ip_rf c k)).getD k none = ip_rf c k := by
  rw [List.getD_eq_getElem?_getD, List.getElem?_map]
  by_cases hk : k < 3
  · rw [List.getElem?_range hk]; rfl
  · rw [List.getElem?_eq_none (by simp; omega)]
    have h1 : Nat.blt k 3 = false := by
      cases hb : Nat.blt k 3 with
      | false => rfl
      | true => have := Nat.le_of_ble_eq_true hb; omega
    rcases h with rfl | rfl
    · show none = cond (Nat.beq 13 13) (cond (Nat.blt k 3) (some (14 + k)) none) _
      rw [h1]; rfl
    · show none = cond (Nat.beq 20 13) _ (cond (Nat.beq 20 20) (cond (Nat.blt k 3) (some (21 + k)) none) _)
      rw [h1]; rfl
theorem ax_fin_ce (ad : Nat → Nat) (cy : Nat → ClassId) (L : Nat) (xs : Nat → Int32) {c : Nat} (hc : c < 55) : ax_tr ad cy (ax_fin c) = ip_ce ad cy (ax_S L xs) c := by
  unfold ax_fin ip_ce
  cases ho : ip_ob c with
  | some ci =>
    dsimp only
    show Sum.inr (ci, ((List.range (ip_nf ci)).map (fun k => ax_fv c ci k)).map (ip_mv ad)) = _
    rw [List.map_map]
    congr 2
    apply List.map_congr_left
    intro k _
    show ip_mv ad (ax_fv c ci k) = ip_fv ad (ax_S L xs) c ci k
    unfold ax_fv ip_fv
    rw [ax_S1 hc]
    generalize ip_ty ci k = ty
    match ty with
    | 0 => rfl
    | 1 => rfl
    | 2 => rfl
    | n + 3 =>
      show ip_mv ad (match ip_rf c k with
        | some r => .ref r
        | none => .null) = va_rf ((ip_rf c k).map ad)
      cases ip_rf c k <;> rfl
  | none =>
    dsimp only
    have hf : (ax_S L xs).1 c = fun _ => 0 := by
      funext k
      rw [ax_S1 hc, ax_i0_ar ho]
    cases ha : ip_ar c with
    | none => rfl
    | some q =>
      obtain ⟨kd, n⟩ := q
      match kd, ha with
      | 0, ha => rw [hf]; rfl
      | 1, ha => rfl
      | 2, ha => rw [hf]; rfl
      | kd + 3, ha =>
        obtain ⟨h1, h2⟩ := ax_ar3_ck c hc _ ha (Nat.le_add_left 3 kd)
        dsimp only at h1
        subst h1
        show Sum.inl (cy 3, 3, Sum.inr (Sum.inr (Sum.inr (Sum.inr (fun k => (((List.range 3).map (fun k => ip_rf c k)).getD k none).map ad))))) = Sum.inl (cy 3, 3, Sum.inr (Sum.inr (Sum.inr (Sum.inr (fun k => (ip_rf c k).map ad)))))
        have e1 : (fun k => (((List.range 3).map (fun k => ip_rf c k)).getD k none).map ad) = fun k => (ip_rf c k).map ad := by
          funext k
          rw [ax_rf3 h2]
        rw [e1]
theorem ax_fin_ws (ad : Nat → Nat) (cy : Nat → ClassId) (L : Nat) (xs : Nat → Int32) : ax_ws ad cy (ax_G 55) = ip_ws ad cy (ax_S L xs) := by
  apply List.ext_getElem?
  intro j
  rw [ax_ws_at]
  by_cases hj : j < 55
  · rw [ip_ws_at ad cy _ hj]
    unfold ax_G
    rw [List.getElem?_map, List.getElem?_range hj]
    show some (ad j, ax_tr ad cy (ax_fin j)) = _
    rw [ax_fin_ce ad cy L xs hj]
  · rw [List.getElem?_eq_none (by simp [ax_G]; omega), List.getElem?_eq_none (by simp [ip_ws]; omega)]
    rfl
