/-! ===== constructors called ===== -/
theorem ax_K.warm {D : va_G} {ad : Nat → Nat} {cy : Nat → ClassId} {L : Nat} {xs : Nat → Int32} {s U : State} {H : Heap} {locs : List Loc} (h : ax_K D ad cy L xs s) (hU : U.heap = H) (hW : s.WarmedH U.vm) (hS : va_S (ip_In ad) s.heap H locs) : ax_K D ad cy L xs U := ⟨h.1.warm hU hW hS, h.2.moved hW.alike⟩
theorem ax_K.calling {D : va_G} {ad : Nat → Nat} {cy : Nat → ClassId} {L : Nat} {xs : Nat → Int32} {U : State} (g : JFrame) (mk : MethodId) (a : Array Value) (h : ax_K D ad cy L xs U) : ax_K D ad cy L xs (U.calling g mk a) := ⟨h.1.calling g mk a, va_AO.moved (u := U) (Vm.Alike.refl U.vm) h.2⟩
def ax_Wd (D : va_G) (ad : Nat → Nat) (cy : Nat → ClassId) (L : Nat) (xs : Nat → Int32) (base : Nat) (G : List ax_E) (U : State) : Prop := va_P D ip_cl (ax_ws ad cy G) U.heap ∧ ax_K D ad cy L xs U ∧ U.heap.size = base + G.length ∧ G.length ≤ 55
def ax_Qx (D : va_G) (ad : Nat → Nat) (base mc : Nat) (ws' : va_W) (n' : Nat) : Array Value → State → Outcome → State → Prop := fun _ st oc t => oc = .returned none ∧ va_P D ip_cl ws' t.heap ∧ (t.heap.size = base + n' ∧ st.heap.size + mc = base + n' ∧ n' ≤ 55) ∧ va_F (ip_In ad) st t
abbrev ax_wd (t : Nat) : List Jvm.Cond := .code (ax_y t) (ax_cc t) (ax_ml t) none :: ip_gw
abbrev ax_rm (t : Nat) : Room := { frames := ax_rF t, cells := ax_rC t, slots := ax_rS t, locals := ax_rL t }
def ax_Mt (l : Launch) (D : va_G) (ad : Nat → Nat) (cy : Nat → ClassId) (L : Nat) (xs : Nat → Int32) (base t b : Nat) (G : List ax_E) (ws' : va_W) (n' : Nat) : Prop :=
  Met l (ax_y t) (ax_wd t) (ax_rm t) (va_Pc [.ref (ad b)] (ax_Wd D ad cy L xs base G)) (ax_Qx D ad base (ax_rC t) ws' n') (ax_rC t) (ax_rS t) (ip_In ad)
theorem ax_blind {D : va_G} {ad : Nat → Nat} {cy : Nat → ClassId} {L : Nat} {xs : Nat → Int32} {base : Nat} {as : List Value} {G : List ax_E} : FrameBlind (va_Pc as (ax_Wd D ad cy L xs base G)) := by
  intro a U g mk h
  obtain ⟨h1, h2, h3, h4⟩ := h
  exact ⟨h1, h2, ax_K.calling g mk a h3, h4⟩
def ax_ct : List (Nat × Nat × Nat × Bool) := [(5, 15, 3, true), (5, 22, 0, true), (5, 32, 4, true), (3, 11, 2, true), (0, 11, 1, true), (0, 20, 2, true), (7, 9, 5, false), (7, 12, 6, false)]
def ax_ctf (t q : Nat) : Option (Nat × Bool) := (ax_ct.find? (fun x => Nat.beq x.1 t && Nat.beq x.2.1 q)).map (fun x => x.2.2)
def ax_lk (t q t' : Nat) (b : Bool) : Jvm.Cond := match b with
  | true => .methodLinkNest (ip_on t) q (ax_y t') "AccusedAsks"
  | false => .methodLink (ip_on t) q (ax_y t')
theorem ax_ct_ck : ax_ct.all (fun x => decide (ax_lk x.1 x.2.1 x.2.2.1 x.2.2.2 ∈ tables_1) && (decide (Jvm.Cond.code (ax_y x.2.2.1) (ax_cc x.2.2.1) (ax_ml x.2.2.1) none ∈ tables_1) && (decide (Jvm.Cond.initialized (ip_on x.2.2.1) ∈ tables_1) && (decide (Jvm.Cond.instanceMethod (ax_y x.2.2.1) ∈ tables_1) && (decide (ip_on x.2.2.1 ≠ "java/lang/invoke/MethodHandle" ∧ ip_on x.2.2.1 ≠ "java/lang/invoke/VarHandle") && Nat.blt x.2.2.1 7))))) = true := by decide +kernel
theorem ax_ctf_ok {t q t' : Nat} {b : Bool} (h : ax_ctf t q = some (t', b)) : ax_lk t q t' b ∈ tables_1 ∧ Jvm.Cond.code (ax_y t') (ax_cc t') (ax_ml t') none ∈ ip_gw ∧ Jvm.Cond.initialized (ip_on t') ∈ ip_gw ∧ Jvm.Cond.instanceMethod (ax_y t') ∈ ip_gw ∧ (ip_on t' ≠ "java/lang/invoke/MethodHandle" ∧ ip_on t' ≠ "java/lang/invoke/VarHandle") ∧ t' < 7 := by
  unfold ax_ctf at h
  cases hf : ax_ct.find? (fun x => Nat.beq x.1 t && Nat.beq x.2.1 q) with
  | none => rw [hf] at h; cases h
  | some x =>
    rw [hf] at h
    obtain ⟨x1, x2, x3, x4⟩ := x
    cases h
    have h1 := List.all_eq_true.mp ax_ct_ck _ (List.mem_of_find?_eq_some hf)
    have h2 := List.find?_some hf
    simp only [Bool.and_eq_true, decide_eq_true_eq] at h1 h2
    obtain ⟨e1, e2⟩ := h2
    have e1 := Nat.eq_of_beq_eq_true e1
    have e2 := Nat.eq_of_beq_eq_true e2
    subst e1 e2
    exact ⟨h1.1, ip_gw_t h1.2.1 rfl, ip_gw_t h1.2.2.1 rfl, ip_gw_t h1.2.2.2.1 rfl, h1.2.2.2.2.1, Nat.le_of_ble_eq_true h1.2.2.2.2.2⟩
theorem ax_good {t q t' : Nat} {b : Bool} (h : ax_ctf t q = some (t', b)) : GoodIn ip_gw (ax_wd t') := by
  intro w hw
  have h1 : w ∈ ip_gw := by
    rcases List.mem_cons.mp hw with e | e
    · rw [e]
      exact (ax_ctf_ok h).2.1
    · exact e
  exact ⟨h1, good_of_word (List.mem_filter.mp h1).2⟩
section AXC
variable {p : Program} {l : Launch} {e : Env} {R : Room} {s : State} {m : MethodId} {args : Array Value} {below : List Frame} {meth : Method} {c : Code} {cells slots : Nat} {Q : State → Prop}
variable {D : va_G} {ad : Nat → Nat} {cy : Nat → ClassId} {L : Nat} {xs : Nat → Int32} {base t : Nat}
variable {pc : Nat} {ls : Array Slot} {rest st0 : List Value} {H : Heap} {locs : List Loc} {G : List ax_E} {a : Array Value}
theorem ax_go {ws' : va_W} {n' mc ms : Nat} (hr : va_Run p l e R s m args below meth c H locs cells slots mc ms (F0 m pc ls st0) rest (ax_Qx D ad base mc ws' n' a) (ip_In ad)) (hS : va_S (ip_In ad) s.heap H locs)
    (kk : ∀ (H1 : Heap) (locs1 : List Loc), va_P D ip_cl ws' H1 → va_S (ip_In ad) s.heap H1 locs1 → H1.size = base + n' ∧ H.size + mc = base + n' ∧ n' ≤ 55 → W p l e R s m args below meth c H1 locs1 (cells + mc) (slots + ms) Q (F0 m (pc + 3) ls rest)) : W p l e R s m args below meth c H locs cells slots Q (F0 m pc ls st0) := by
  intro T hT X
  obtain ⟨v, st₀, t, T', Lc, h0, X', hL, e1, e2, ⟨hv, hp, hsc, hz, hk⟩, st⟩ := hr T hT X
  cases hv
  rw [h0] at hz hk hsc
  obtain ⟨t2, a1, b1⟩ := kk T'.heap (locs ++ Lc) (by rw [e1]; exact hp)
    ⟨Nat.le_trans hS.1 (by rw [e1]; exact hz), fun q h1 h2 => by rw [e1, hk q (Nat.lt_of_lt_of_le h1 hS.1) h2]; exact hS.2.1 q h1 h2, fun q hq => by
      rcases List.mem_append.mp hq with h | h
      · exact hS.2.2 q h
      · exact hL q h⟩ (by rw [e1]; exact hsc) T' rfl X'
  exact ⟨t2, st t2 a1, b1⟩
theorem ax_call_ok (C0 : ax_Cx D ad cy L xs base t p R s m args meth c) (hl : ls.size = ax_ml t) (hI : ax_I ad cy D base s G H locs cells) {t' q b n' : Nat} {nst : Bool} {ws' : va_W} (hct : ax_ctf t q = some (t', nst)) (hM : ax_Mt l D ad cy L xs base t' b G ws' n') (hR : ax_rF t' + 1 ≤ ax_rF t ∧ 19 + ax_ml t' + ax_rL t' ≤ ax_rL t) (hf : cells + ax_rC t' ≤ ax_rC t ∧ slots + ax_rS t' ≤ ax_rS t) (hsum : (rest.map fun v => v.category).sum ≤ 8) (hd : decode (ax_cc t) pc = .ok (.invokespecial q, 3))
    (kk : ∀ (H1 : Heap) (locs1 : List Loc), va_P D ip_cl ws' H1 → va_S (ip_In ad) s.heap H1 locs1 → H1.size = base + n' ∧ H.size + ax_rC t' = base + n' ∧ n' ≤ 55 → W p l e R s m args below meth c H1 locs1 (cells + ax_rC t') (slots + ax_rS t') Q (F0 m (pc + 3) ls rest)) : W p l e R s m args below meth c H locs cells slots Q (F0 m pc ls (.ref (ad b) :: rest)) := by
  obtain ⟨hx, hb, hml, hown, hts, hK, hinj, had, -, hRf, hRl, hRc, hRs⟩ := id C0
  obtain ⟨w1, w2, w3, w4, w5, w6⟩ := ax_ctf_ok hct
  have hpre : ∀ U : State, U.heap = H → s.WarmedH U.vm → va_Pc [.ref (ad b)] (ax_Wd D ad cy L xs base G) [.ref (ad b)].toArray U := fun U hU hW => ⟨rfl, by rw [hU]; exact hI.1, hK.warm hU hW hI.2.1, by rw [hU]; exact hI.2.2.1, hI.2.2.2.2⟩
  have hroom : (ax_rm t').frames + 1 ≤ R.frames ∧ 8 + (ax_ml t' + 11) + (ax_rm t').locals ≤ R.locals := ⟨by show ax_rF t' + 1 ≤ _; omega, by show 8 + (ax_ml t' + 11) + ax_rL t' ≤ _; omega⟩
  cases nst with
  | false => exact ax_go (va_runI (As := []) (rest := rest) ⟨hx, hb, hml, hown, hts⟩ hM (cwI 0 hts (ax_good hct) rfl rfl rfl (hts _ w3) (hts _ (ip_gw_t w1 rfl)) (hts _ w4) rfl ⟨w5.1, w5.2, by show (parseMethodDescriptor "()V").map _ = _; decide +kernel⟩ hroom) ⟨ax_blind, hpre⟩ rfl rfl hl rfl (lv_room hsum) hd ⟨by omega, by omega⟩) hI.2.1 kk
  | true => exact ax_go (va_runIN (As := []) (rest := rest) ⟨hx, hb, hml, hown, hts⟩ hM ⟨va_cnB 0 hts (ax_good hct) rfl rfl rfl (hK.1.2.1 _ (List.mem_filter.mpr ⟨w1, rfl⟩)) (hts _ w3) ⟨w5.1, w5.2, by show (parseMethodDescriptor "()V").map _ = _; decide +kernel⟩ hroom, rfl, hts _ w4⟩ ⟨ax_blind, hpre⟩ rfl rfl hl rfl (lv_room hsum) hd ⟨by omega, by omega⟩) hI.2.1 kk
end AXC
