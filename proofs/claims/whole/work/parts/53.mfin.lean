/-! ===== what the constructors leave ===== -/
def ax_i0 (c k : Nat) : Int32 := cond (Nat.beq c 26) (cond (Nat.beq k 1) (-1) 0) (cond (Nat.beq c 30) (cond (Nat.beq k 32) (-1) 0) 0)
def ax_fv (c ci k : Nat) : Value := match ip_ty ci k with
  | 0 => .int (ax_i0 c k)
  | 1 => .long 0
  | 2 => .int (ax_i0 c k)
  | _ => match ip_rf c k with
    | some r => .ref r
    | none => .null
def ax_fin (c : Nat) : ax_E := match ip_ob c with
  | some ci => .inr (ci, (List.range (ip_nf ci)).map (fun k => ax_fv c ci k))
  | none => match ip_ar c with
    | some (0, n) => .inl (0, n, [])
    | some (1, n) => .inl (1, n, [])
    | some (2, n) => .inl (2, n, [])
    | some (_, n) => .inl (3, n, (List.range n).map (fun k => ip_rf c k))
    | none => .inl (0, 0, [])
def ax_G (n : Nat) : List ax_E := (List.range n).map ax_fin
def ax_S (L : Nat) (xs : Nat → Int32) : ip_St := (fun c k => cond (Nat.beq c 58) (xs k) (cond (Nat.beq c 59) (Int32.ofNat L) (ax_i0 c k)), fun _ _ => 0)
theorem ax_eqv (a b : List ax_E) (h : decide (a = b) = true) : a = b := of_decide_eq_true h
def ax_ok0 (x : Option (List ax_E)) (b : List ax_E) : Bool := match x with
  | some a => decide (a = b)
  | none => false
theorem ax_ok0_eq {x : Option (List ax_E)} {b : List ax_E} (h : ax_ok0 x b = true) : x = some b := by
  unfold ax_ok0 at h
  split at h
  · rw [of_decide_eq_true h]
  · cases h
def ax_ok1 (x : Option ax_Cf) (b : ax_Cf) : Bool := match x with
  | some a => Nat.beq a.1 b.1 && (decide (a.2.1 = b.2.1) && (decide (a.2.2.1 = b.2.2.1) && (decide (a.2.2.2.1 = b.2.2.2.1) && (Nat.beq a.2.2.2.2.1 b.2.2.2.2.1 && Nat.beq a.2.2.2.2.2 b.2.2.2.2.2))))
  | none => false
theorem ax_ok1_eq {x : Option ax_Cf} {b : ax_Cf} (h : ax_ok1 x b = true) : x = some b := by
  unfold ax_ok1 at h
  split at h
  · rename_i a
    obtain ⟨a1, a2, a3, a4, a5, a6⟩ := a
    obtain ⟨b1, b2, b3, b4, b5, b6⟩ := b
    simp only [Bool.and_eq_true, decide_eq_true_eq] at h
    obtain ⟨h1, h2, h3, h4, h5, h6⟩ := h
    rw [Nat.eq_of_beq_eq_true h1, h2, h3, h4, Nat.eq_of_beq_eq_true h5, Nat.eq_of_beq_eq_true h6]
  · cases h
theorem ax_r0 : ax_run 300 5 (0, [some (.ref 0)], [], [.inr (5, ax_df 5)], 0, 0) = some (ax_G 30) := ax_ok0_eq (by decide +kernel)
theorem ax_r1 : ax_its 101 6 (0, [some (.ref 30), none], [], ax_G 30 ++ [.inr (6, ax_df 6)], 0, 0) = some (204, [some (.ref 30), none], [], ax_G 55, 24, 3019) := ax_ok1_eq (by decide +kernel)
