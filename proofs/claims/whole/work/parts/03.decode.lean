/-- how long an instruction is -/
def ip_lno (i : Instr) (n : Nat) : Bool := match i with
  | .aload _ | .iload _ | .lload _ | .istore _ | .astore _ | .lstore _ | .bipush _ => Nat.beq n 2
  | .iinc _ _ | .sipush _ | .ldc_w _ | .ldc2_w _ | .goto _ | .ifCond _ _ | .if_icmp _ _ | .getfield _ | .putfield _ | .getstatic _ | .invokestatic _ | .invokevirtual _ => Nat.beq n 3
  | .tableswitch _ _ _ _ | .lookupswitch _ _ | .new _ | .invokespecial _ | .newarray _ | .anewarray _ => true
  | _ => Nat.beq n 1
def ip_dck (i : Nat) : Bool := (List.range (ip_bd i)).all (fun n => match ip_it i n with
  | none => true
  | some q => decide (decode (ip_cc i) n = .ok q) && ip_lno q.1 q.2)
set_option maxRecDepth 100000 in
theorem ip_da0 : (List.range 9).all (fun j => ip_dck (0 + j)) = true := by decide +kernel
set_option maxRecDepth 100000 in
theorem ip_da1 : (List.range 9).all (fun j => ip_dck (9 + j)) = true := by decide +kernel
set_option maxRecDepth 100000 in
theorem ip_da2 : (List.range 9).all (fun j => ip_dck (18 + j)) = true := by decide +kernel
set_option maxRecDepth 100000 in
theorem ip_da3 : (List.range 9).all (fun j => ip_dck (27 + j)) = true := by decide +kernel
set_option maxRecDepth 100000 in
theorem ip_da4 : (List.range 9).all (fun j => ip_dck (36 + j)) = true := by decide +kernel
set_option maxRecDepth 100000 in
theorem ip_da5 : (List.range 9).all (fun j => ip_dck (45 + j)) = true := by decide +kernel
set_option maxRecDepth 100000 in
theorem ip_da6 : (List.range 9).all (fun j => ip_dck (54 + j)) = true := by decide +kernel
set_option maxRecDepth 100000 in
theorem ip_da7 : (List.range 9).all (fun j => ip_dck (63 + j)) = true := by decide +kernel
set_option maxRecDepth 100000 in
theorem ip_da8 : (List.range 9).all (fun j => ip_dck (72 + j)) = true := by decide +kernel
set_option maxRecDepth 100000 in
theorem ip_da9 : (List.range 9).all (fun j => ip_dck (81 + j)) = true := by decide +kernel
set_option maxRecDepth 100000 in
theorem ip_da10 : (List.range 9).all (fun j => ip_dck (90 + j)) = true := by decide +kernel
set_option maxRecDepth 100000 in
theorem ip_da11 : (List.range 9).all (fun j => ip_dck (99 + j)) = true := by decide +kernel
set_option maxRecDepth 100000 in
theorem ip_da12 : (List.range 9).all (fun j => ip_dck (108 + j)) = true := by decide +kernel
set_option maxRecDepth 100000 in
theorem ip_da13 : (List.range 9).all (fun j => ip_dck (117 + j)) = true := by decide +kernel
set_option maxRecDepth 100000 in
theorem ip_da14 : (List.range 9).all (fun j => ip_dck (126 + j)) = true := by decide +kernel
set_option maxRecDepth 100000 in
theorem ip_da15 : (List.range 9).all (fun j => ip_dck (135 + j)) = true := by decide +kernel
set_option maxRecDepth 100000 in
theorem ip_da16 : (List.range 9).all (fun j => ip_dck (144 + j)) = true := by decide +kernel
set_option maxRecDepth 100000 in
theorem ip_da17 : (List.range 9).all (fun j => ip_dck (153 + j)) = true := by decide +kernel
set_option maxRecDepth 100000 in
theorem ip_da18 : (List.range 9).all (fun j => ip_dck (162 + j)) = true := by decide +kernel
set_option maxRecDepth 100000 in
theorem ip_da19 : (List.range 9).all (fun j => ip_dck (171 + j)) = true := by decide +kernel
set_option maxRecDepth 100000 in
theorem ip_da20 : (List.range 9).all (fun j => ip_dck (180 + j)) = true := by decide +kernel
set_option maxRecDepth 100000 in
theorem ip_dlaw : ip_dck 189 = true := by decide +kernel
set_option maxRecDepth 100000 in
theorem ip_dctor : ip_dck 190 = true := by decide +kernel
theorem ip_dall (i : Nat) (h : i < 191) : ip_dck i = true := by
  have key : ∀ {a : Nat}, (List.range 9).all (fun j => ip_dck (a + j)) = true → a ≤ i → i < a + 9 → ip_dck i = true := fun {a} hh h1 h2 => by
    have := List.all_eq_true.mp hh (i - a) (List.mem_range.mpr (by omega))
    rwa [show a + (i - a) = i by omega] at this
  by_cases h0 : i < 9
  · exact key ip_da0 (by omega) (by omega)
  by_cases h1 : i < 18
  · exact key ip_da1 (by omega) (by omega)
  by_cases h2 : i < 27
  · exact key ip_da2 (by omega) (by omega)
  by_cases h3 : i < 36
  · exact key ip_da3 (by omega) (by omega)
  by_cases h4 : i < 45
  · exact key ip_da4 (by omega) (by omega)
  by_cases h5 : i < 54
  · exact key ip_da5 (by omega) (by omega)
  by_cases h6 : i < 63
  · exact key ip_da6 (by omega) (by omega)
  by_cases h7 : i < 72
  · exact key ip_da7 (by omega) (by omega)
  by_cases h8 : i < 81
  · exact key ip_da8 (by omega) (by omega)
  by_cases h9 : i < 90
  · exact key ip_da9 (by omega) (by omega)
  by_cases h10 : i < 99
  · exact key ip_da10 (by omega) (by omega)
  by_cases h11 : i < 108
  · exact key ip_da11 (by omega) (by omega)
  by_cases h12 : i < 117
  · exact key ip_da12 (by omega) (by omega)
  by_cases h13 : i < 126
  · exact key ip_da13 (by omega) (by omega)
  by_cases h14 : i < 135
  · exact key ip_da14 (by omega) (by omega)
  by_cases h15 : i < 144
  · exact key ip_da15 (by omega) (by omega)
  by_cases h16 : i < 153
  · exact key ip_da16 (by omega) (by omega)
  by_cases h17 : i < 162
  · exact key ip_da17 (by omega) (by omega)
  by_cases h18 : i < 171
  · exact key ip_da18 (by omega) (by omega)
  by_cases h19 : i < 180
  · exact key ip_da19 (by omega) (by omega)
  by_cases h20 : i < 189
  · exact key ip_da20 (by omega) (by omega)
  by_cases hl : i = 189
  · subst hl; exact ip_dlaw
  obtain rfl : i = 190 := by omega
  exact ip_dctor
theorem ip_dec {i n : Nat} {q : Instr × Nat} (h : ip_ins i n = some q) : i < 191 ∧ decode (ip_cc i) n = .ok q ∧ ip_lno q.1 q.2 = true := by
  unfold ip_ins at h
  cases h1 : Nat.blt i 191 with
  | false => rw [h1] at h; cases h
  | true =>
    rw [h1] at h
    cases h2 : Nat.blt n (ip_bd i) with
    | false => rw [h2] at h; cases h
    | true =>
      rw [h2] at h
      have hi : i < 191 := Nat.le_of_ble_eq_true h1
      have hn : n < ip_bd i := Nat.le_of_ble_eq_true h2
      have h3 := List.all_eq_true.mp (ip_dall i hi) n (List.mem_range.mpr hn)
      have h4 : ip_it i n = some q := h
      rw [h4] at h3
      simp only [Bool.and_eq_true, decide_eq_true_eq] at h3
      exact ⟨hi, h3.1, h3.2⟩
