/-! ===== the constructors: a machine that makes cells ===== -/
abbrev ax_E : Type := (Nat × Nat × List (Option Nat)) ⊕ (Nat × List Value)
def ax_tr (ad : Nat → Nat) (cy : Nat → ClassId) (x : ax_E) : va_E := match x with
  | .inr o => .inr (o.1, o.2.map (ip_mv ad))
  | .inl (0, n, _) => .inl (cy 0, n, .inl (fun _ => 0))
  | .inl (1, n, _) => .inl (cy 1, n, .inr (.inl (fun _ => 0)))
  | .inl (2, n, _) => .inl (cy 2, n, .inl (fun _ => 0))
  | .inl (_, n, g) => .inl (cy 3, n, .inr (.inr (.inr (.inr (fun k => (g.getD k none).map ad)))))
def ax_ws (ad : Nat → Nat) (cy : Nat → ClassId) (G : List ax_E) : va_W := G.mapIdx (fun c x => (ad c, ax_tr ad cy x))
theorem ax_ws_at (ad : Nat → Nat) (cy : Nat → ClassId) (G : List ax_E) (c : Nat) : (ax_ws ad cy G)[c]? = (G[c]?).map (fun x => (ad c, ax_tr ad cy x)) := by
  simp [ax_ws, List.getElem?_mapIdx]
theorem ax_ws_push (ad : Nat → Nat) (cy : Nat → ClassId) (G : List ax_E) (x : ax_E) : ax_ws ad cy (G ++ [x]) = ax_ws ad cy G ++ [(ad G.length, ax_tr ad cy x)] := by
  simp [ax_ws, List.mapIdx_append]
theorem ax_ws_len (ad : Nat → Nat) (cy : Nat → ClassId) (G : List ax_E) : (ax_ws ad cy G).length = G.length := by simp [ax_ws]
theorem ax_ws_set (ad : Nat → Nat) (cy : Nat → ClassId) (G : List ax_E) (c : Nat) (x : ax_E) : (ax_ws ad cy G).set c (ad c, ax_tr ad cy x) = ax_ws ad cy (G.set c x) := by
  apply List.ext_getElem?
  intro j
  rw [ax_ws_at, List.getElem?_set, List.getElem?_set, ax_ws_at, ax_ws_len]
  by_cases h : c = j
  · subst h
    rw [if_pos rfl, if_pos rfl]
    by_cases h2 : c < G.length
    · rw [if_pos h2, if_pos h2]; rfl
    · rw [if_neg h2, if_neg h2]; rfl
  · rw [if_neg h, if_neg h]
theorem ax_D {ad : Nat → Nat} {cy : Nat → ClassId} {G : List ax_E} (hinj : ip_inj ad) (hG : G.length ≤ 55) : va_D (ip_In ad) (ax_ws ad cy G) := by
  have hg : ∀ (k : Nat) (q : Nat × va_E), (ax_ws ad cy G)[k]? = some q → k < 55 ∧ q.1 = ad k := by
    intro k q h
    have h1 := (List.getElem?_eq_some_iff.mp h).1
    rw [ax_ws_len] at h1
    rw [ax_ws_at, List.getElem?_eq_getElem h1] at h
    cases h
    exact ⟨by omega, rfl⟩
  refine ⟨fun i j p q hi hj e => ?_, fun k q hk => ?_⟩
  · obtain ⟨h1, h2⟩ := hg i p hi
    obtain ⟨h3, h4⟩ := hg j q hj
    exact hinj i j h1 h3 (by rw [← h2, ← h4]; exact e)
  · obtain ⟨h1, h2⟩ := hg k q hk
    exact ⟨k, h1, h2⟩
/-- the constructors by their class's number; 7 is the law itself -/
def ax_cc (t : Nat) : ByteArray := match t with
  | 0 => prog_2_method_1_code
  | 1 => prog_3_method_1_code
  | 2 => prog_4_method_1_code
  | 3 => prog_5_method_1_code
  | 4 => prog_6_method_1_code
  | 5 => prog_1_method_1_code
  | 6 => prog_8_method_1_code
  | _ => code
def ax_ml (t : Nat) : Nat := match t with
  | 6 => 2
  | 7 => 4
  | _ => 1
def ax_y (t : Nat) : MethodName := ⟨ip_on t, "<init>", "()V"⟩
/-- a class that a method names: (own, index, class) -/
def ax_cn : List (Nat × Nat × Nat) := [(7, 10, 6), (7, 7, 5), (0, 18, 2), (0, 9, 1), (3, 9, 2), (5, 13, 3), (5, 20, 0), (5, 30, 4)]
def ax_nf (t q : Nat) : Option Nat := (ax_cn.find? (fun x => Nat.beq x.1 t && Nat.beq x.2.1 q)).map (fun x => x.2.2)
theorem ax_cn_ck : ax_cn.all (fun x => decide (Jvm.Cond.classLink (ip_on x.1) x.2.1 (ip_on x.2.2) ∈ tables_1) && decide (Jvm.Cond.instantiable (ip_on x.2.2) (ip_nf x.2.2) ∈ tables_1) && decide (Jvm.Cond.initialized (ip_on x.2.2) ∈ tables_1) && Nat.blt x.2.2 7) = true := by decide +kernel
theorem ax_nf_ok {t q ci : Nat} (h : ax_nf t q = some ci) : Jvm.Cond.classLink (ip_on t) q (ip_on ci) ∈ ip_gw ∧ Jvm.Cond.instantiable (ip_on ci) (ip_nf ci) ∈ ip_gw ∧ Jvm.Cond.initialized (ip_on ci) ∈ ip_gw ∧ ci < 7 := by
  unfold ax_nf at h
  cases hf : ax_cn.find? (fun x => Nat.beq x.1 t && Nat.beq x.2.1 q) with
  | none => rw [hf] at h; cases h
  | some x =>
    rw [hf] at h
    cases h
    have h1 := List.all_eq_true.mp ax_cn_ck x (List.mem_of_find?_eq_some hf)
    have h2 := List.find?_some hf
    simp only [Bool.and_eq_true, decide_eq_true_eq] at h1 h2
    obtain ⟨e1, e2⟩ := h2
    have e1 := Nat.eq_of_beq_eq_true e1
    have e2 := Nat.eq_of_beq_eq_true e2
    rw [e1, e2] at h1
    exact ⟨ip_gw_t h1.1.1.1 rfl, ip_gw_t h1.1.1.2 rfl, ip_gw_t h1.1.2 rfl, Nat.le_of_ble_eq_true h1.2⟩
def ax_dv (n : Nat) : Value := match n with
  | 0 => .int 0
  | 1 => .long 0
  | 2 => .int 0
  | _ => .null
def ax_df (ci : Nat) : List Value := (List.range (ip_nf ci)).map (fun k => ax_dv (ip_ty ci k))
theorem ax_df_mv (ad : Nat → Nat) (ci : Nat) : (ax_df ci).map (ip_mv ad) = ax_df ci := by
  unfold ax_df
  rw [List.map_map]
  congr 1
  funext k
  show ip_mv ad (ax_dv (ip_ty ci k)) = ax_dv (ip_ty ci k)
  unfold ax_dv
  split <;> rfl
def ax_isR (ty : FieldType) : Bool := match ty with
  | .object _ => true
  | .array _ => true
  | _ => false
def ax_cok (ci : Nat) (q : vw_C) (ty0 : Nat → FieldType) : Prop := (∀ k, k < q.2.2 → parseFieldDescriptor (q.2.1 k).2.2.1 = some (ty0 k)) ∧ (∀ a, a < q.2.2 → ∀ b, b < q.2.2 → a ≠ b → (q.2.1 a).2.1 ≠ (q.2.1 b).2.1) ∧ (∀ k, k < q.2.2 → defaultValue (ty0 k) = vp_V (ax_df ci) k) ∧ ∀ k, k < q.2.2 → (q.2.1 k).1 = ip_on ci ∧ (ip_ty ci k = 3 → ax_isR (ty0 k) = true) ∧ (ip_ty ci k = 0 → ty0 k = .int)
theorem ax_cls {ci : Nat} {q : vw_C} (h : ip_cl[ci]? = some q) : ∃ ty0, ax_cok ci q ty0 := by
  match ci, h with
  | 0, h => cases h; exact ⟨tyX0, tyX0_ok, nmX0, by decide +kernel, by decide +kernel⟩
  | 1, h => cases h; exact ⟨tyX1, tyX1_ok, nmX1, by decide +kernel, by decide +kernel⟩
  | 2, h => cases h; exact ⟨tyX2, tyX2_ok, nmX2, by decide +kernel, by decide +kernel⟩
  | 3, h => cases h; exact ⟨tyX3, tyX3_ok, nmX3, by decide +kernel, by decide +kernel⟩
  | 4, h => cases h; exact ⟨tyX4, tyX4_ok, nmX4, by decide +kernel, by decide +kernel⟩
  | 5, h => cases h; exact ⟨tyX5, tyX5_ok, nmX5, by decide +kernel, by decide +kernel⟩
  | 6, h => cases h; exact ⟨tyX6, tyX6_ok, nmX6, by decide +kernel, by decide +kernel⟩
  | n + 7, h => simp [ip_cl] at h
theorem ax_ref_ok {ty : FieldType} (h : ax_isR ty = true) (a : Nat) : narrow ty (.ref a) = .ref a ∧ fits ty (.ref a) = true := by
  cases ty <;> first | exact ⟨rfl, rfl⟩ | cases h
/-- the machine's rooms -/
def ax_rF (t : Nat) : Nat := match t with
  | 0 => 3
  | 1 => 2
  | 2 => 2
  | 3 => 3
  | 4 => 2
  | 5 => 4
  | 6 => 9
  | _ => 10
def ax_rL (t : Nat) : Nat := match t with
  | 0 => 52
  | 1 => 32
  | 2 => 32
  | 3 => 52
  | 4 => 32
  | 5 => 72
  | 6 => 350
  | _ => 378
def ax_rC (t : Nat) : Nat := match t with
  | 0 => 6
  | 1 => 0
  | 2 => 0
  | 3 => 9
  | 4 => 3
  | 5 => 29
  | 6 => 24
  | _ => 55
def ax_rS (t : Nat) : Nat := match t with
  | 0 => 34
  | 1 => 0
  | 2 => 0
  | 3 => 461
  | 4 => 1464
  | 5 => 2086
  | 6 => 3019
  | _ => 5158
/-- Object's constructor's link -/
def ax_oi (t : Nat) : Nat := match t with
  | 2 => 1
  | 5 => 1
  | 6 => 1
  | 7 => 1000
  | _ => 3
theorem ax_oi_ck : (List.range 7).all (fun t => decide (Jvm.Cond.methodLink (ip_on t) (ax_oi t) objectInit ∈ tables_1)) = true := by decide +kernel
theorem ax_oi_ok {t : Nat} (h : t < 7) : Jvm.Cond.methodLink (ip_on t) (ax_oi t) objectInit ∈ ip_gw := by
  have h1 := List.all_eq_true.mp ax_oi_ck t (List.mem_range.mpr h)
  exact ip_gw_t (of_decide_eq_true h1) rfl
theorem ax_ob1 : Jvm.Cond.instanceMethod objectInit ∈ ip_gw := ip_gw_t (by decide +kernel) rfl
theorem ax_ob2 : Jvm.Cond.code objectInit ⟨#[0xb1]⟩ 1 none ∈ ip_gw := ip_gw_t (by decide +kernel) rfl
theorem ax_ac0 : Jvm.Cond.arrayClass .int ∈ ip_gw := ip_gw_t (by decide +kernel) rfl
theorem ax_ac1 : Jvm.Cond.arrayClass .long ∈ ip_gw := ip_gw_t (by decide +kernel) rfl
theorem ax_ac2 : Jvm.Cond.arrayClass .boolean ∈ ip_gw := ip_gw_t (by decide +kernel) rfl
