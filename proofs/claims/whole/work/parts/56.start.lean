/-! ===== what is known at the law's entry ===== -/
theorem ax_lt {w : Jvm.Cond} (h : w ∈ tables_1) : w ∈ lw_tbl := List.mem_append_right _ h
theorem ax_gl {w : Jvm.Cond} (h : w ∈ ip_gw) : w ∈ lw_tbl := (List.mem_filter.mp h).1
theorem ax_nst {w : Jvm.Cond} (h : ip_nst w = true) : w.onTables = true := by
  cases w <;> first | rfl | cases h
theorem ax_start {s : State} {b L : Nat} {xs : Nat → Int32} (hL : L ≤ 320) (hts : ∀ w ∈ lw_tbl, w.before #[Value.ref b] s = true) (hX : va_X b L xs s s.heap) (hbl : b < s.heap.size) (hgv : (Jvm.Cond.and given_1 narrow_1).before #[Value.ref b] s = true) :
    ∃ (D : va_G) (ad : Nat → Nat) (cy : Nat → ClassId), ip_inj ad ∧ (∀ k, k < 55 → ad k = s.heap.size + k) ∧ ad 58 = b ∧ ax_K D ad cy L xs s := by
  have hs := flat_of_before _ hgv
  have hA : ∀ a : Nat, a < s.heap.size → ¬ (fun q : Nat => s.heap.size ≤ q) a := fun a h q => absurd h (Nat.not_lt.mpr q)
  have hg : ∀ w ∈ ip_gw, w.before #[Value.ref b] s = true := fun w hw => hts w (ax_gl hw)
  obtain ⟨c0, j0, k0⟩ := u_known (C := RX0) (T := TX0) (N := 7) (n := 7) hg (ip_uw (ci := 0) rfl) (hts (.instantiable RX0 7) (ax_lt (by decide +kernel)))
  obtain ⟨c1, j1, k1⟩ := u_known (C := RX1) (T := TX1) (N := 6) (n := 6) hg (ip_uw (ci := 1) rfl) (hts (.instantiable RX1 6) (ax_lt (by decide +kernel)))
  obtain ⟨c2, j2, k2⟩ := u_known (C := RX2) (T := TX2) (N := 5) (n := 5) hg (ip_uw (ci := 2) rfl) (hts (.instantiable RX2 5) (ax_lt (by decide +kernel)))
  obtain ⟨c3, j3, k3⟩ := u_known (C := RX3) (T := TX3) (N := 13) (n := 13) hg (ip_uw (ci := 3) rfl) (hts (.instantiable RX3 13) (ax_lt (by decide +kernel)))
  obtain ⟨c4, j4, k4⟩ := u_known (C := RX4) (T := TX4) (N := 10) (n := 10) hg (ip_uw (ci := 4) rfl) (hts (.instantiable RX4 10) (ax_lt (by decide +kernel)))
  obtain ⟨c5, j5, k5⟩ := u_known (C := RX5) (T := TX5) (N := 9) (n := 9) hg (ip_uw (ci := 5) rfl) (hts (.instantiable RX5 9) (ax_lt (by decide +kernel)))
  obtain ⟨c6, j6, k6⟩ := u_known (C := RX6) (T := TX6) (N := 44) (n := 44) hg (ip_uw (ci := 6) rfl) (hts (.instantiable RX6 44) (ax_lt (by decide +kernel)))
  have hKc : ∃ D : va_G, ∀ (k : Nat) (q : vw_C), ip_cl[k]? = some q → u_Kn s q.1 q.2.1 q.2.2 (D.1 k) (D.2 k) := by
    refine ⟨(fun k => match k with
      | 0 => c0
      | 1 => c1
      | 2 => c2
      | 3 => c3
      | 4 => c4
      | 5 => c5
      | _ => c6, fun k => match k with
      | 0 => j0
      | 1 => j1
      | 2 => j2
      | 3 => j3
      | 4 => j4
      | 5 => j5
      | _ => j6), ?_⟩
    intro k q hq
    match k, hq with
    | 0, hq => cases hq; exact k0
    | 1, hq => cases hq; exact k1
    | 2, hq => cases hq; exact k2
    | 3, hq => cases hq; exact k3
    | 4, hq => cases hq; exact k4
    | 5, hq => cases hq; exact k5
    | 6, hq => cases hq; exact k6
    | n + 7, hq => simp [ip_cl] at hq
  obtain ⟨D, hD⟩ := hKc
  obtain ⟨y0, z0, u0, v0, w0, x0⟩ := Cond.arrayClass_spec (hg _ ax_ac0)
  obtain ⟨y1, z1, u1, v1, w1, x1⟩ := Cond.arrayClass_spec (hg _ ax_ac1)
  obtain ⟨y2, z2, u2, v2, w2, x2⟩ := Cond.arrayClass_spec (hg _ ax_ac2)
  have hao : (Cond.arrayOver (.object "AccusedAsks$Judge")).before #[Value.ref b] s = true := hts _ (ax_lt (by decide +kernel))
  obtain ⟨u3, y3, z3, g3, -, w3, x3, v3⟩ := Cond.arrayOver_spec hao
  have hty : ∃ cy : Nat → ClassId, ∀ (k : Nat) (q : ClassId × FieldType), (ip_tys cy)[k]? = some q → ArrOfT s q.1 q.2 ∧ va_RA s q.1 q.2 := by
    refine ⟨fun k => match k with
      | 0 => y0
      | 1 => y1
      | 2 => y2
      | _ => y3, ?_⟩
    intro k q hq
    match k, hq with
    | 0, hq => cases hq; exact ⟨fun n z => ⟨fun k h => (by cases h), z0, w0, u0, x0⟩, v0⟩
    | 1, hq => cases hq; exact ⟨fun n z => ⟨fun k h => (by cases h), z1, w1, u1, x1⟩, v1⟩
    | 2, hq => cases hq; exact ⟨fun n z => ⟨fun k h => (by cases h), z2, w2, u2, x2⟩, v2⟩
    | 3, hq => cases hq; exact ⟨fun n z => ⟨fun k h => (by cases h), z3, w3, u3, x3⟩, z3, u3, w3, x3, g3, v3⟩
    | n + 4, hq => simp [ip_tys] at hq
  obtain ⟨cy, hcy⟩ := hty
  obtain ⟨t0, e0, hT0⟩ := va_Tof (tm := .static "AccusedAsks" "WHERE_SO" "[J") (ty := .long) (N := 6) (f := fun j => .long (ip_tL 55 j)) (by decide) (hs _ (by decide +kernel)) (va_eqt (hs _ (by decide +kernel))) (fun j hj => by
    match j, hj with
    | 0, _ => exact va_eqtl (hs _ (by decide +kernel))
    | 1, _ => exact va_eqtl (hs _ (by decide +kernel))
    | 2, _ => exact va_eqtl (hs _ (by decide +kernel))
    | 3, _ => exact va_eqtl (hs _ (by decide +kernel))
    | 4, _ => exact va_eqtl (hs _ (by decide +kernel))
    | 5, _ => exact va_eqtl (hs _ (by decide +kernel))
    ) hA
  obtain ⟨t1, e1, hT1⟩ := va_Tof (tm := .static "AccusedAsks" "FIXED" "[I") (ty := .int) (N := 5) (f := fun j => .int (ip_tI 56 j)) (by decide) (hs _ (by decide +kernel)) (va_eqt (hs _ (by decide +kernel))) (fun j hj => by
    match j, hj with
    | 0, _ => exact va_eqt (hs _ (by decide +kernel))
    | 1, _ => exact va_eqt (hs _ (by decide +kernel))
    | 2, _ => exact va_eqt (hs _ (by decide +kernel))
    | 3, _ => exact va_eqt (hs _ (by decide +kernel))
    | 4, _ => exact va_eqt (hs _ (by decide +kernel))
    ) hA
  obtain ⟨t2, e2, hT2⟩ := va_Tof (tm := .static "AccusedAsks" "FIXED_ANSWERS" "[I") (ty := .int) (N := 5) (f := fun j => .int (ip_tI 57 j)) (by decide) (hs _ (by decide +kernel)) (va_eqt (hs _ (by decide +kernel))) (fun j hj => by
    match j, hj with
    | 0, _ => exact va_eqt (hs _ (by decide +kernel))
    | 1, _ => exact va_eqt (hs _ (by decide +kernel))
    | 2, _ => exact va_eqt (hs _ (by decide +kernel))
    | 3, _ => exact va_eqt (hs _ (by decide +kernel))
    | 4, _ => exact va_eqt (hs _ (by decide +kernel))
    ) hA
  have hZ0 := va_Zref (hts (.laysStatic "AccusedAsks" "WHERE_SO" "[J") (ax_lt (by decide +kernel))) (hts (.initialized "AccusedAsks") (ax_lt (by decide +kernel))) e0 hA
  have hZ1 := va_Zref (hts (.laysStatic "AccusedAsks" "FIXED" "[I") (ax_lt (by decide +kernel))) (hts (.initialized "AccusedAsks") (ax_lt (by decide +kernel))) e1 hA
  have hZ2 := va_Zref (hts (.laysStatic "AccusedAsks" "FIXED_ANSWERS" "[I") (ax_lt (by decide +kernel))) (hts (.initialized "AccusedAsks") (ax_lt (by decide +kernel))) e2 hA
  obtain ⟨ad, a0, a55, a56, a57, a58⟩ : ∃ ad : Nat → Nat, (∀ k, k < 55 → ad k = s.heap.size + k) ∧ ad 55 = t0 ∧ ad 56 = t1 ∧ ad 57 = t2 ∧ ad 58 = b :=
    ⟨fun k => if k < 55 then s.heap.size + k else (match k with
      | 55 => t0
      | 56 => t1
      | 57 => t2
      | _ => b), fun k hk => if_pos hk, rfl, rfl, rfl, rfl⟩
  have hIn : ∀ q, ip_In ad q → s.heap.size ≤ q := by
    intro q ⟨c, hc, e⟩
    rw [e, a0 c hc]
    omega
  refine ⟨D, ad, cy, fun i j hi hj e => ?_, a0, a58, ⟨⟨hD, hcy⟩, ?_, ?_, ?_, ?_, ?_, ?_, ?_, ?_⟩, va_AO.of hao⟩
  · rw [a0 i hi, a0 j hj] at e
    omega
  · intro w hw
    obtain ⟨h1, h2⟩ := List.mem_filter.mp hw
    exact va_Nw.of (ax_nst h2) (hts w (ax_lt h1))
  · intro d h1 h2
    have hd : d = 55 ∨ d = 56 ∨ d = 57 := by omega
    rcases hd with rfl | rfl | rfl
    · rw [a55]; exact hZ0.narrow hIn
    · rw [a56]; exact hZ1.narrow hIn
    · rw [a57]; exact hZ2.narrow hIn
  · rw [a55]; exact hT0.narrow hIn
  · intro d hd
    rcases hd with rfl | rfl
    · rw [a56]; exact hT1.narrow hIn
    · rw [a57]; exact hT2.narrow hIn
  · rw [a58]; exact hX
  · rw [a58]; exact hbl
  · rw [a58]; exact fun h => absurd (hIn b h) (Nat.not_le.mpr hbl)
  · omega
