/-! ===== what the tables say of the small machine's numbers ===== -/
def ip_gw : List Jvm.Cond := lw_tbl.filter goodWord
theorem ip_gw_l {w : Jvm.Cond} (h : w ∈ lw_tbl) (hg : goodWord w = true) : w ∈ ip_gw := List.mem_filter.mpr ⟨h, hg⟩
theorem ip_gw_t {w : Jvm.Cond} (h : w ∈ tables_1) (hg : goodWord w = true) : w ∈ ip_gw := ip_gw_l (List.mem_append_right _ h) hg
theorem ip_gw_at {w : Jvm.Cond} {n : Nat} (h : tables_1[n]? = some w) (hg : goodWord w = true) : w ∈ ip_gw := ip_gw_t (List.mem_of_getElem? h) hg
def ip_nst (w : Jvm.Cond) : Bool := match w with
  | .fieldLinkNest _ _ _ _ _ _ => true
  | .methodLinkNest _ _ _ _ => true
  | _ => false
def ip_nw : List Jvm.Cond := tables_1.filter ip_nst
theorem ip_nw_at {w : Jvm.Cond} {n : Nat} (h : tables_1[n]? = some w) (hg : ip_nst w = true) : w ∈ ip_nw := List.mem_filter.mpr ⟨List.mem_of_getElem? h, hg⟩
theorem ip_nw_warm {s U : State} (hW : s.WarmedH U.vm) (h : ∀ w ∈ ip_nw, va_Nw w s) : ∀ w ∈ ip_nw, va_Nw w U := by
  intro w hw
  have h1 := h w hw
  have h2 : ip_nst w = true := (List.mem_filter.mp hw).2
  cases w <;> first | exact va_Nw.warmF hW h1 | exact va_Nw.warmM hW h1 | cases h2
theorem ip_nw_same {s U : State} (hv : s.vm = U.vm) (h : ∀ w ∈ ip_nw, va_Nw w s) : ∀ w ∈ ip_nw, va_Nw w U := by
  intro w hw
  have h1 := h w hw
  have h2 : ip_nst w = true := (List.mem_filter.mp hw).2
  cases w <;> first | exact va_Nw.same rfl hv h1 | cases h2
theorem ip_flk_ok {c p : Nat} {q : Nat × Nat × Bool × Nat} (h : ip_flk c p = some q) : tables_1[q.2.2.2]? = some (ip_flW c p q.1 q.2.1 q.2.2.1) ∧ ∃ r, ip_cl[q.1]? = some r ∧ q.2.1 < r.2.2 := by
  unfold ip_flk at h
  cases h1 : Nat.blt c 11 with
  | false => rw [h1] at h; cases h
  | true =>
    rw [h1] at h
    cases h2 : Nat.blt p 1000 with
    | false => rw [h2] at h; cases h
    | true =>
      rw [h2] at h
      have hc : c < 11 := Nat.le_of_ble_eq_true h1
      have hp : p < 1000 := Nat.le_of_ble_eq_true h2
      have h3 := List.all_eq_true.mp ip_fl_ck (c * 1000 + p) (List.mem_range.mpr (by omega))
      have h4 : ip_flT (c * 1000 + p) = some q := h
      rw [h4] at h3
      dsimp only at h3
      rw [show (c * 1000 + p) / 1000 = c by omega, show (c * 1000 + p) % 1000 = p by omega] at h3
      have h5 := of_decide_eq_true h3
      refine ⟨h5.1, ?_⟩
      obtain ⟨r, hr, hk⟩ := h5.2
      exact ⟨r, hr, hk⟩
theorem ip_clk_ok {c p : Nat} {q : Nat × Bool × Nat} (h : ip_clk c p = some q) : tables_1[q.2.2]? = some (ip_clW c p q.1 q.2.1) ∧ q.1 < 189 := by
  unfold ip_clk at h
  cases h1 : Nat.blt c 11 with
  | false => rw [h1] at h; cases h
  | true =>
    rw [h1] at h
    cases h2 : Nat.blt p 1000 with
    | false => rw [h2] at h; cases h
    | true =>
      rw [h2] at h
      have hc : c < 11 := Nat.le_of_ble_eq_true h1
      have hp : p < 1000 := Nat.le_of_ble_eq_true h2
      have h3 := List.all_eq_true.mp ip_cl_ck (c * 1000 + p) (List.mem_range.mpr (by omega))
      have h4 : ip_clT (c * 1000 + p) = some q := h
      rw [h4] at h3
      dsimp only at h3
      rw [show (c * 1000 + p) / 1000 = c by omega, show (c * 1000 + p) % 1000 = p by omega] at h3
      exact of_decide_eq_true h3
theorem ip_kIk_ok {c p : Nat} {q : Int32 × Nat} (h : ip_kIk c p = some q) : tables_1[q.2]? = some (.constant (ip_on c) p q.1) := by
  unfold ip_kIk at h
  cases h1 : Nat.blt c 11 with
  | false => rw [h1] at h; cases h
  | true =>
    rw [h1] at h
    cases h2 : Nat.blt p 1000 with
    | false => rw [h2] at h; cases h
    | true =>
      rw [h2] at h
      have hc : c < 11 := Nat.le_of_ble_eq_true h1
      have hp : p < 1000 := Nat.le_of_ble_eq_true h2
      have h3 := List.all_eq_true.mp ip_kI_ck (c * 1000 + p) (List.mem_range.mpr (by omega))
      have h4 : ip_kIT (c * 1000 + p) = some q := h
      rw [h4] at h3
      dsimp only at h3
      rw [show (c * 1000 + p) / 1000 = c by omega, show (c * 1000 + p) % 1000 = p by omega] at h3
      exact of_decide_eq_true h3
theorem ip_kLk_ok {c p : Nat} {q : Int64 × Nat} (h : ip_kLk c p = some q) : tables_1[q.2]? = some (.constantLong (ip_on c) p q.1) := by
  unfold ip_kLk at h
  cases h1 : Nat.blt c 11 with
  | false => rw [h1] at h; cases h
  | true =>
    rw [h1] at h
    cases h2 : Nat.blt p 1000 with
    | false => rw [h2] at h; cases h
    | true =>
      rw [h2] at h
      have hc : c < 11 := Nat.le_of_ble_eq_true h1
      have hp : p < 1000 := Nat.le_of_ble_eq_true h2
      have h3 := List.all_eq_true.mp ip_kL_ck (c * 1000 + p) (List.mem_range.mpr (by omega))
      have h4 : ip_kLT (c * 1000 + p) = some q := h
      rw [h4] at h3
      dsimp only at h3
      rw [show (c * 1000 + p) / 1000 = c by omega, show (c * 1000 + p) % 1000 = p by omega] at h3
      exact of_decide_eq_true h3
theorem ip_slk_ok {c p : Nat} {q : Nat × Bool × Nat} (h : ip_slk c p = some q) : tables_1[q.2.2]? = some (ip_slW c p q.1 q.2.1) ∧ 55 ≤ q.1 ∧ q.1 ≤ 57 := by
  unfold ip_slk at h
  cases h1 : Nat.blt c 11 with
  | false => rw [h1] at h; cases h
  | true =>
    rw [h1] at h
    cases h2 : Nat.blt p 1000 with
    | false => rw [h2] at h; cases h
    | true =>
      rw [h2] at h
      have hc : c < 11 := Nat.le_of_ble_eq_true h1
      have hp : p < 1000 := Nat.le_of_ble_eq_true h2
      have h3 := List.all_eq_true.mp ip_sl_ck (c * 1000 + p) (List.mem_range.mpr (by omega))
      have h4 : ip_slT (c * 1000 + p) = some q := h
      rw [h4] at h3
      dsimp only at h3
      rw [show (c * 1000 + p) / 1000 = c by omega, show (c * 1000 + p) % 1000 = p by omega] at h3
      exact of_decide_eq_true h3
theorem ip_m_ok {i : Nat} (h : i < 189) : tables_1[ip_pi i]? = some (.initialized (ip_y i).cls) ∧ ip_on (ip_ow i) = (ip_y i).cls ∧ (plainName (ip_y i).cls = true ∨ ip_ow i = 10) ∧ ((ip_y i).cls ≠ "java/lang/invoke/MethodHandle" ∧ (ip_y i).cls ≠ "java/lang/invoke/VarHandle") ∧ (parseMethodDescriptor (ip_y i).desc).map (fun d => d.parameters.length) = some (ip_np i) ∧
    (ip_sta i = true → tables_1[ip_ps i]? = some (.static (ip_y i))) ∧ (ip_sta i = false → tables_1[ip_ps i]? = some (.instanceMethod (ip_y i)) ∧ lw_tbl[ip_pS i]? = some (.selects (ip_y i).cls (ip_y i) (ip_y i))) := by
  have h3 := List.all_eq_true.mp ip_m_ck i (List.mem_range.mpr h)
  simp only [Bool.and_eq_true, Bool.or_eq_true] at h3
  obtain ⟨⟨⟨⟨⟨a1, a2⟩, a3⟩, a4⟩, a5⟩, a6⟩ := h3
  refine ⟨of_decide_eq_true a1, of_decide_eq_true a2, ?_, of_decide_eq_true a4, of_decide_eq_true a5, fun hs => ?_, fun hs => ?_⟩
  · rcases a3 with a3 | a3
    · exact Or.inl a3
    · exact Or.inr (Nat.eq_of_beq_eq_true a3)
  · rw [hs] at a6
    exact of_decide_eq_true a6
  · rw [hs] at a6
    have a7 : (decide (tables_1[ip_ps i]? = some (.instanceMethod (ip_y i))) && decide (lw_tbl[ip_pS i]? = some (.selects (ip_y i).cls (ip_y i) (ip_y i)))) = true := a6
    simp only [Bool.and_eq_true] at a7
    exact ⟨of_decide_eq_true a7.1, of_decide_eq_true a7.2⟩
-- the classes
def ip_uwc (q : vw_C) : Bool := (u_ws q.1 q.2.1 q.2.2).all (fun w => decide (w ∈ tables_1) && goodWord w)
set_option maxRecDepth 100000 in
theorem ip_uw_ck : ip_cl.all ip_uwc = true := by decide +kernel
theorem ip_uw {ci : Nat} {q : vw_C} (h : ip_cl[ci]? = some q) : ∀ w ∈ u_ws q.1 q.2.1 q.2.2, w ∈ ip_gw := by
  intro w hw
  have h1 := List.all_eq_true.mp ip_uw_ck q (List.mem_of_getElem? h)
  have h2 := List.all_eq_true.mp h1 w hw
  simp only [Bool.and_eq_true] at h2
  exact ip_gw_t (of_decide_eq_true h2.1) h2.2
def ip_tf (n : Nat) : FieldType := match n with
  | 0 => .int
  | 1 => .long
  | 2 => .boolean
  | _ => .int
def ip_cok (ci : Nat) (q : vw_C) (ty0 : Nat → FieldType) : Prop := (∀ k, k < q.2.2 → parseFieldDescriptor (q.2.1 k).2.2.1 = some (ty0 k)) ∧ (∀ a, a < q.2.2 → ∀ b, b < q.2.2 → a ≠ b → (q.2.1 a).2.1 ≠ (q.2.1 b).2.1) ∧ ∀ k, k < q.2.2 → ip_ty ci k = 3 ∨ ((q.2.1 k).2.2.2 = false ∧ ty0 k = ip_tf (ip_ty ci k) ∧ ip_ty ci k < 3)
theorem ip_cls {ci : Nat} {q : vw_C} (h : ip_cl[ci]? = some q) : q.1 = ip_on ci ∧ ∃ ty0, ip_cok ci q ty0 := by
  match ci, h with
  | 0, h => cases h; exact ⟨rfl, tyX0, tyX0_ok, nmX0, by decide +kernel⟩
  | 1, h => cases h; exact ⟨rfl, tyX1, tyX1_ok, nmX1, by decide +kernel⟩
  | 2, h => cases h; exact ⟨rfl, tyX2, tyX2_ok, nmX2, by decide +kernel⟩
  | 3, h => cases h; exact ⟨rfl, tyX3, tyX3_ok, nmX3, by decide +kernel⟩
  | 4, h => cases h; exact ⟨rfl, tyX4, tyX4_ok, nmX4, by decide +kernel⟩
  | 5, h => cases h; exact ⟨rfl, tyX5, tyX5_ok, nmX5, by decide +kernel⟩
  | 6, h => cases h; exact ⟨rfl, tyX6, tyX6_ok, nmX6, by decide +kernel⟩
  | n + 7, h => simp [ip_cl] at h
theorem ip_ob_ck : ∀ c, c < 64 → ∀ ci, ip_ob c = some ci → c < 55 ∧ ci < 7 := by decide +kernel
theorem ip_ob_lt {c ci : Nat} (h : ip_ob c = some ci) : c < 55 ∧ ci < 7 := by
  cases h1 : Nat.blt c 64 with
  | false =>
    unfold ip_ob at h
    rw [h1] at h
    cases h
  | true => exact ip_ob_ck c (Nat.le_of_ble_eq_true h1) ci h
theorem ip_ar_ck : (List.range 64).all (fun c => match ip_ar c with
  | none => true
  | some q => decide (ip_ob c = none ∧ (q.1 < 4 → c < 55) ∧ (q.1 = 4 → (c = 56 ∨ c = 57) ∧ q.2 = 5) ∧ (q.1 = 5 → c = 55 ∧ q.2 = 6) ∧ (q.1 = 6 → c = 58) ∧ q.2 < 1000 ∧ (q.1 = 3 → (c = 13 ∨ c = 20) ∧ q.2 = 3))) = true := by decide +kernel
theorem ip_ar_lt {c : Nat} {q : Nat × Nat} (h : ip_ar c = some q) : ip_ob c = none ∧ (q.1 < 4 → c < 55) ∧ (q.1 = 4 → (c = 56 ∨ c = 57) ∧ q.2 = 5) ∧ (q.1 = 5 → c = 55 ∧ q.2 = 6) ∧ (q.1 = 6 → c = 58) ∧ q.2 < 1000 ∧ (q.1 = 3 → (c = 13 ∨ c = 20) ∧ q.2 = 3) := by
  cases h1 : Nat.blt c 64 with
  | false =>
    unfold ip_ar at h
    rw [h1] at h
    cases h
  | true =>
    have h2 := List.all_eq_true.mp ip_ar_ck c (List.mem_range.mpr (Nat.le_of_ble_eq_true h1))
    rw [h] at h2
    exact of_decide_eq_true h2
def ip_cP (i : Nat) : Prop := tables_1[ip_pl i]? = some (.code (ip_y i) (ip_cc i) (ip_ml i) (ip_rt i))
theorem ip_cq9 : ∀ a, a < 9 → ip_cP a := lt_s (lt_s (lt_s (lt_s (lt_s (lt_s (lt_s (lt_s (lt_s (lt_0) (show ip_cP 0 from ip_c0)) (show ip_cP 1 from ip_c1)) (show ip_cP 2 from ip_c2)) (show ip_cP 3 from ip_c3)) (show ip_cP 4 from ip_c4)) (show ip_cP 5 from ip_c5)) (show ip_cP 6 from ip_c6)) (show ip_cP 7 from ip_c7)) (show ip_cP 8 from ip_c8)
theorem ip_cq18 : ∀ a, a < 18 → ip_cP a := lt_s (lt_s (lt_s (lt_s (lt_s (lt_s (lt_s (lt_s (lt_s (ip_cq9) (show ip_cP 9 from ip_c9)) (show ip_cP 10 from ip_c10)) (show ip_cP 11 from ip_c11)) (show ip_cP 12 from ip_c12)) (show ip_cP 13 from ip_c13)) (show ip_cP 14 from ip_c14)) (show ip_cP 15 from ip_c15)) (show ip_cP 16 from ip_c16)) (show ip_cP 17 from ip_c17)
theorem ip_cq27 : ∀ a, a < 27 → ip_cP a := lt_s (lt_s (lt_s (lt_s (lt_s (lt_s (lt_s (lt_s (lt_s (ip_cq18) (show ip_cP 18 from ip_c18)) (show ip_cP 19 from ip_c19)) (show ip_cP 20 from ip_c20)) (show ip_cP 21 from ip_c21)) (show ip_cP 22 from ip_c22)) (show ip_cP 23 from ip_c23)) (show ip_cP 24 from ip_c24)) (show ip_cP 25 from ip_c25)) (show ip_cP 26 from ip_c26)
theorem ip_cq36 : ∀ a, a < 36 → ip_cP a := lt_s (lt_s (lt_s (lt_s (lt_s (lt_s (lt_s (lt_s (lt_s (ip_cq27) (show ip_cP 27 from ip_c27)) (show ip_cP 28 from ip_c28)) (show ip_cP 29 from ip_c29)) (show ip_cP 30 from ip_c30)) (show ip_cP 31 from ip_c31)) (show ip_cP 32 from ip_c32)) (show ip_cP 33 from ip_c33)) (show ip_cP 34 from ip_c34)) (show ip_cP 35 from ip_c35)
theorem ip_cq45 : ∀ a, a < 45 → ip_cP a := lt_s (lt_s (lt_s (lt_s (lt_s (lt_s (lt_s (lt_s (lt_s (ip_cq36) (show ip_cP 36 from ip_c36)) (show ip_cP 37 from ip_c37)) (show ip_cP 38 from ip_c38)) (show ip_cP 39 from ip_c39)) (show ip_cP 40 from ip_c40)) (show ip_cP 41 from ip_c41)) (show ip_cP 42 from ip_c42)) (show ip_cP 43 from ip_c43)) (show ip_cP 44 from ip_c44)
theorem ip_cq54 : ∀ a, a < 54 → ip_cP a := lt_s (lt_s (lt_s (lt_s (lt_s (lt_s (lt_s (lt_s (lt_s (ip_cq45) (show ip_cP 45 from ip_c45)) (show ip_cP 46 from ip_c46)) (show ip_cP 47 from ip_c47)) (show ip_cP 48 from ip_c48)) (show ip_cP 49 from ip_c49)) (show ip_cP 50 from ip_c50)) (show ip_cP 51 from ip_c51)) (show ip_cP 52 from ip_c52)) (show ip_cP 53 from ip_c53)
theorem ip_cq63 : ∀ a, a < 63 → ip_cP a := lt_s (lt_s (lt_s (lt_s (lt_s (lt_s (lt_s (lt_s (lt_s (ip_cq54) (show ip_cP 54 from ip_c54)) (show ip_cP 55 from ip_c55)) (show ip_cP 56 from ip_c56)) (show ip_cP 57 from ip_c57)) (show ip_cP 58 from ip_c58)) (show ip_cP 59 from ip_c59)) (show ip_cP 60 from ip_c60)) (show ip_cP 61 from ip_c61)) (show ip_cP 62 from ip_c62)
theorem ip_cq72 : ∀ a, a < 72 → ip_cP a := lt_s (lt_s (lt_s (lt_s (lt_s (lt_s (lt_s (lt_s (lt_s (ip_cq63) (show ip_cP 63 from ip_c63)) (show ip_cP 64 from ip_c64)) (show ip_cP 65 from ip_c65)) (show ip_cP 66 from ip_c66)) (show ip_cP 67 from ip_c67)) (show ip_cP 68 from ip_c68)) (show ip_cP 69 from ip_c69)) (show ip_cP 70 from ip_c70)) (show ip_cP 71 from ip_c71)
theorem ip_cq81 : ∀ a, a < 81 → ip_cP a := lt_s (lt_s (lt_s (lt_s (lt_s (lt_s (lt_s (lt_s (lt_s (ip_cq72) (show ip_cP 72 from ip_c72)) (show ip_cP 73 from ip_c73)) (show ip_cP 74 from ip_c74)) (show ip_cP 75 from ip_c75)) (show ip_cP 76 from ip_c76)) (show ip_cP 77 from ip_c77)) (show ip_cP 78 from ip_c78)) (show ip_cP 79 from ip_c79)) (show ip_cP 80 from ip_c80)
theorem ip_cq90 : ∀ a, a < 90 → ip_cP a := lt_s (lt_s (lt_s (lt_s (lt_s (lt_s (lt_s (lt_s (lt_s (ip_cq81) (show ip_cP 81 from ip_c81)) (show ip_cP 82 from ip_c82)) (show ip_cP 83 from ip_c83)) (show ip_cP 84 from ip_c84)) (show ip_cP 85 from ip_c85)) (show ip_cP 86 from ip_c86)) (show ip_cP 87 from ip_c87)) (show ip_cP 88 from ip_c88)) (show ip_cP 89 from ip_c89)
theorem ip_cq99 : ∀ a, a < 99 → ip_cP a := lt_s (lt_s (lt_s (lt_s (lt_s (lt_s (lt_s (lt_s (lt_s (ip_cq90) (show ip_cP 90 from ip_c90)) (show ip_cP 91 from ip_c91)) (show ip_cP 92 from ip_c92)) (show ip_cP 93 from ip_c93)) (show ip_cP 94 from ip_c94)) (show ip_cP 95 from ip_c95)) (show ip_cP 96 from ip_c96)) (show ip_cP 97 from ip_c97)) (show ip_cP 98 from ip_c98)
theorem ip_cq108 : ∀ a, a < 108 → ip_cP a := lt_s (lt_s (lt_s (lt_s (lt_s (lt_s (lt_s (lt_s (lt_s (ip_cq99) (show ip_cP 99 from ip_c99)) (show ip_cP 100 from ip_c100)) (show ip_cP 101 from ip_c101)) (show ip_cP 102 from ip_c102)) (show ip_cP 103 from ip_c103)) (show ip_cP 104 from ip_c104)) (show ip_cP 105 from ip_c105)) (show ip_cP 106 from ip_c106)) (show ip_cP 107 from ip_c107)
theorem ip_cq117 : ∀ a, a < 117 → ip_cP a := lt_s (lt_s (lt_s (lt_s (lt_s (lt_s (lt_s (lt_s (lt_s (ip_cq108) (show ip_cP 108 from ip_c108)) (show ip_cP 109 from ip_c109)) (show ip_cP 110 from ip_c110)) (show ip_cP 111 from ip_c111)) (show ip_cP 112 from ip_c112)) (show ip_cP 113 from ip_c113)) (show ip_cP 114 from ip_c114)) (show ip_cP 115 from ip_c115)) (show ip_cP 116 from ip_c116)
theorem ip_cq126 : ∀ a, a < 126 → ip_cP a := lt_s (lt_s (lt_s (lt_s (lt_s (lt_s (lt_s (lt_s (lt_s (ip_cq117) (show ip_cP 117 from ip_c117)) (show ip_cP 118 from ip_c118)) (show ip_cP 119 from ip_c119)) (show ip_cP 120 from ip_c120)) (show ip_cP 121 from ip_c121)) (show ip_cP 122 from ip_c122)) (show ip_cP 123 from ip_c123)) (show ip_cP 124 from ip_c124)) (show ip_cP 125 from ip_c125)
theorem ip_cq135 : ∀ a, a < 135 → ip_cP a := lt_s (lt_s (lt_s (lt_s (lt_s (lt_s (lt_s (lt_s (lt_s (ip_cq126) (show ip_cP 126 from ip_c126)) (show ip_cP 127 from ip_c127)) (show ip_cP 128 from ip_c128)) (show ip_cP 129 from ip_c129)) (show ip_cP 130 from ip_c130)) (show ip_cP 131 from ip_c131)) (show ip_cP 132 from ip_c132)) (show ip_cP 133 from ip_c133)) (show ip_cP 134 from ip_c134)
theorem ip_cq144 : ∀ a, a < 144 → ip_cP a := lt_s (lt_s (lt_s (lt_s (lt_s (lt_s (lt_s (lt_s (lt_s (ip_cq135) (show ip_cP 135 from ip_c135)) (show ip_cP 136 from ip_c136)) (show ip_cP 137 from ip_c137)) (show ip_cP 138 from ip_c138)) (show ip_cP 139 from ip_c139)) (show ip_cP 140 from ip_c140)) (show ip_cP 141 from ip_c141)) (show ip_cP 142 from ip_c142)) (show ip_cP 143 from ip_c143)
theorem ip_cq153 : ∀ a, a < 153 → ip_cP a := lt_s (lt_s (lt_s (lt_s (lt_s (lt_s (lt_s (lt_s (lt_s (ip_cq144) (show ip_cP 144 from ip_c144)) (show ip_cP 145 from ip_c145)) (show ip_cP 146 from ip_c146)) (show ip_cP 147 from ip_c147)) (show ip_cP 148 from ip_c148)) (show ip_cP 149 from ip_c149)) (show ip_cP 150 from ip_c150)) (show ip_cP 151 from ip_c151)) (show ip_cP 152 from ip_c152)
theorem ip_cq162 : ∀ a, a < 162 → ip_cP a := lt_s (lt_s (lt_s (lt_s (lt_s (lt_s (lt_s (lt_s (lt_s (ip_cq153) (show ip_cP 153 from ip_c153)) (show ip_cP 154 from ip_c154)) (show ip_cP 155 from ip_c155)) (show ip_cP 156 from ip_c156)) (show ip_cP 157 from ip_c157)) (show ip_cP 158 from ip_c158)) (show ip_cP 159 from ip_c159)) (show ip_cP 160 from ip_c160)) (show ip_cP 161 from ip_c161)
theorem ip_cq171 : ∀ a, a < 171 → ip_cP a := lt_s (lt_s (lt_s (lt_s (lt_s (lt_s (lt_s (lt_s (lt_s (ip_cq162) (show ip_cP 162 from ip_c162)) (show ip_cP 163 from ip_c163)) (show ip_cP 164 from ip_c164)) (show ip_cP 165 from ip_c165)) (show ip_cP 166 from ip_c166)) (show ip_cP 167 from ip_c167)) (show ip_cP 168 from ip_c168)) (show ip_cP 169 from ip_c169)) (show ip_cP 170 from ip_c170)
theorem ip_cq180 : ∀ a, a < 180 → ip_cP a := lt_s (lt_s (lt_s (lt_s (lt_s (lt_s (lt_s (lt_s (lt_s (ip_cq171) (show ip_cP 171 from ip_c171)) (show ip_cP 172 from ip_c172)) (show ip_cP 173 from ip_c173)) (show ip_cP 174 from ip_c174)) (show ip_cP 175 from ip_c175)) (show ip_cP 176 from ip_c176)) (show ip_cP 177 from ip_c177)) (show ip_cP 178 from ip_c178)) (show ip_cP 179 from ip_c179)
theorem ip_cq189 : ∀ a, a < 189 → ip_cP a := lt_s (lt_s (lt_s (lt_s (lt_s (lt_s (lt_s (lt_s (lt_s (ip_cq180) (show ip_cP 180 from ip_c180)) (show ip_cP 181 from ip_c181)) (show ip_cP 182 from ip_c182)) (show ip_cP 183 from ip_c183)) (show ip_cP 184 from ip_c184)) (show ip_cP 185 from ip_c185)) (show ip_cP 186 from ip_c186)) (show ip_cP 187 from ip_c187)) (show ip_cP 188 from ip_c188)
theorem ip_cW {i : Nat} (h : i < 189) : tables_1[ip_pl i]? = some (.code (ip_y i) (ip_cc i) (ip_ml i) (ip_rt i)) := ip_cq189 i h
