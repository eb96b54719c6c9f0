/-! ===== a run of the small machine is a run of the large one ===== -/
def ip_Wd (D : va_G) (ad : Nat → Nat) (cy : Nat → ClassId) (L : Nat) (xs : Nat → Int32) (S : ip_St) (U : State) : Prop := va_P D ip_cl (ip_ws ad cy S) U.heap ∧ ip_K D ad cy L xs U ∧ ip_Sc L xs S
def ip_Qx (D : va_G) (ad : Nat → Nat) (cy : Nat → ClassId) (L : Nat) (xs : Nat → Int32) (rv : Option Value) (S' : ip_St) : Array Value → State → Outcome → State → Prop := fun _ st oc t => oc = .returned (rv.map (ip_mv ad)) ∧ va_P D ip_cl (ip_ws ad cy S') t.heap ∧ ip_Sc L xs S' ∧ va_F (ip_In ad) st t
abbrev ip_wd (i : Nat) : List Jvm.Cond := .code (ip_y i) (ip_cc i) (ip_ml i) (ip_rt i) :: ip_gw
abbrev ip_rm (i : Nat) : Room := { frames := ip_rF i, cells := 0, slots := 0, locals := ip_rL i }
def ip_Mt (l : Launch) (D : va_G) (ad : Nat → Nat) (cy : Nat → ClassId) (L : Nat) (xs : Nat → Int32) (i : Nat) (as : List Value) (S : ip_St) (rv : Option Value) (S' : ip_St) : Prop :=
  Met l (ip_y i) (ip_wd i) (ip_rm i) (va_Pc (as.map (ip_mv ad)) (ip_Wd D ad cy L xs S)) (ip_Qx D ad cy L xs rv S') 0 0 (ip_In ad)
theorem ip_K.warm {D : va_G} {ad : Nat → Nat} {cy : Nat → ClassId} {L : Nat} {xs : Nat → Int32} {s U : State} {H : Heap} {locs : List Loc} (h : ip_K D ad cy L xs s) (hU : U.heap = H) (hW : s.WarmedH U.vm) (hS : va_S (ip_In ad) s.heap H locs) : ip_K D ad cy L xs U := by
  obtain ⟨hK, hNW, hZ, hT1, hT2, hX, hbl, hbA, hL⟩ := h
  subst hU
  refine ⟨va_K.moved hW.alike hK, ip_nw_warm hW hNW, fun d h1 h2 => ((hZ d h1 h2).moved hW.alike).kept hS.2.1, (hT1.moved hW.alike).kept hS.2.1, fun d hd => ((hT2 d hd).moved hW.alike).kept hS.2.1, (hX.moved hW.alike).kept (hS.2.1 _ hbl hbA), Nat.lt_of_lt_of_le hbl hS.1, hbA, hL⟩
theorem ip_K.calling {D : va_G} {ad : Nat → Nat} {cy : Nat → ClassId} {L : Nat} {xs : Nat → Int32} {U : State} (g : JFrame) (mk : MethodId) (a : Array Value) (h : ip_K D ad cy L xs U) : ip_K D ad cy L xs (U.calling g mk a) := by
  obtain ⟨hK, hNW, hZ, hT1, hT2, hX, hbl, hbA, hL⟩ := h
  have hA : U.vm.Alike (U.calling g mk a).vm := Vm.Alike.refl U.vm
  refine ⟨va_K.moved hA hK, ip_nw_same (s := U) (U := U.calling g mk a) rfl hNW, fun d h1 h2 => (hZ d h1 h2).moved hA, hT1.moved hA, fun d hd => (hT2 d hd).moved hA, hX.moved hA, hbl, hbA, hL⟩
theorem ip_blind {D : va_G} {ad : Nat → Nat} {cy : Nat → ClassId} {L : Nat} {xs : Nat → Int32} {as : List Value} {S : ip_St} : FrameBlind (va_Pc as (ip_Wd D ad cy L xs S)) := by
  intro a U g mk h
  obtain ⟨h1, h2, h3, h4⟩ := h
  exact ⟨h1, h2, ip_K.calling g mk a h3, h4⟩
theorem ip_pop_eq : ∀ {n : Nat} {a st b r : List Value}, ip_pop n a st = some (b, r) → ∃ q : List Value, q.length = n ∧ st = q ++ r ∧ b = q.reverse ++ a
  | 0, a, st, b, r, h => by
    simp only [ip_pop, Option.some.injEq, Prod.mk.injEq] at h
    exact ⟨[], rfl, by rw [h.2]; rfl, by rw [h.1]; rfl⟩
  | n + 1, a, [], b, r, h => by simp [ip_pop] at h
  | n + 1, a, v :: st, b, r, h => by
    simp only [ip_pop] at h
    obtain ⟨q, h1, h2, h3⟩ := ip_pop_eq h
    exact ⟨v :: q, by simp [h1], by rw [h2]; rfl, by rw [h3]; simp⟩
theorem ip_good {i : Nat} (h : i < 189) : GoodIn ip_gw (ip_wd i) := by
  intro w hw
  have h1 : w ∈ ip_gw := by
    rcases List.mem_cons.mp hw with e | e
    · rw [e]
      exact ip_gw_at (ip_cW h) rfl
    · exact e
  exact ⟨h1, good_of_word (List.mem_filter.mp h1).2⟩
section IPR
variable {p : Program} {l : Launch} {e : Env} {R : Room} {s : State} {m : MethodId} {args : Array Value} {below : List Frame} {meth : Method} {c : Code} {cells slots : Nat} {Q : State → Prop}
variable {D : va_G} {ad : Nat → Nat} {cy : Nat → ClassId} {L : Nat} {xs : Nat → Int32}
variable {mi pc : Nat} {ls : Array Slot} {rest st0 : List Value} {H : Heap} {locs : List Loc} {S S1 : ip_St} {rv : Option Value} {a : Array Value}
theorem ip_go (hr : va_Run p l e R s m args below meth c H locs cells slots 0 0 (F0 m pc ls st0) rest (ip_Qx D ad cy L xs rv S1 a) (ip_In ad)) (hS : va_S (ip_In ad) s.heap H locs)
    (kk : ∀ (H1 : Heap) (locs1 : List Loc), va_P D ip_cl (ip_ws ad cy S1) H1 → va_S (ip_In ad) s.heap H1 locs1 → ip_Sc L xs S1 → W p l e R s m args below meth c H1 locs1 cells slots Q (F0 m (pc + 3) ls ((rv.map (ip_mv ad)).toList ++ rest))) : W p l e R s m args below meth c H locs cells slots Q (F0 m pc ls st0) := by
  intro T hT X
  obtain ⟨v, st₀, t, T', Lc, h0, X', hL, e1, e2, ⟨hv, hp, hsc, hz, hk⟩, st⟩ := hr T hT X
  cases hv
  rw [h0] at hz hk
  obtain ⟨t2, a1, b1⟩ := kk T'.heap (locs ++ Lc) (by rw [e1]; exact hp)
    ⟨Nat.le_trans hS.1 (by rw [e1]; exact hz), fun q h1 h2 => by rw [e1, hk q (Nat.lt_of_lt_of_le h1 hS.1) h2]; exact hS.2.1 q h1 h2, fun q hq => by
      rcases List.mem_append.mp hq with h | h
      · exact hS.2.2 q h
      · exact hL q h⟩ hsc T' rfl X'
  exact ⟨t2, st t2 a1, b1⟩
theorem ip_cat_sum (r : List Value) : ((r.map (ip_mv ad)).map fun v => v.category).sum = (r.map fun v => v.category).sum := by
  rw [List.map_map, show ((fun v : Value => v.category) ∘ ip_mv ad) = (fun v => v.category) from funext (ip_mv_cat ad)]
theorem ip_fit_ok {i : Nat} {r : List Value} (h : ip_fit mi i r = true) : ip_rF i < ip_rF mi ∧ 19 + ip_ml i + ip_rL i ≤ ip_rL mi ∧ (r.map fun v => v.category).sum ≤ 8 ∧ ip_ow i < 10 := by
  unfold ip_fit at h
  simp only [Bool.and_eq_true] at h
  exact ⟨Nat.le_of_ble_eq_true h.1, Nat.le_of_ble_eq_true h.2.1, Nat.le_of_ble_eq_true h.2.2.1, Nat.le_of_ble_eq_true h.2.2.2⟩
set_option maxHeartbeats 4000000 in
theorem ip_call_ok (C0 : ip_Cx D ad cy L xs mi p R s m args c cells slots) {lv : ip_LV} {st as r : List Value} {i : Nat} (hl : ip_has ad ls (ip_ml mi) lv) (hP : va_P D ip_cl (ip_ws ad cy S) H) (hS : va_S (ip_In ad) s.heap H locs) (hSc : ip_Sc L xs S)
    (h : ip_cal mi pc st = some (i, as, r)) (hM : ip_Mt l D ad cy L xs i as S rv S1)
    (kk : ∀ (H1 : Heap) (locs1 : List Loc), va_P D ip_cl (ip_ws ad cy S1) H1 → va_S (ip_In ad) s.heap H1 locs1 → ip_Sc L xs S1 → W p l e R s m args below meth c H1 locs1 cells slots Q (F0 m (pc + 3) ls ((rv.toList ++ r).map (ip_mv ad)))) :
    W p l e R s m args below meth c H locs cells slots Q (F0 m pc ls (st.map (ip_mv ad))) := by
  obtain ⟨hx, hb, hml, hown, hts, hKK, hinj, hRf, hRl, hcl, hsl⟩ := id C0
  have hK := hKK.1
  have hNW := hKK.2.1
  have kk2 : ∀ (H1 : Heap) (locs1 : List Loc), va_P D ip_cl (ip_ws ad cy S1) H1 → va_S (ip_In ad) s.heap H1 locs1 → ip_Sc L xs S1 → W p l e R s m args below meth c H1 locs1 cells slots Q (F0 m (pc + 3) ls ((rv.map (ip_mv ad)).toList ++ r.map (ip_mv ad))) := by
    intro H1 locs1 h1 h2 h3
    have h4 := kk H1 locs1 h1 h2 h3
    have e1 : (rv.toList ++ r).map (ip_mv ad) = (rv.map (ip_mv ad)).toList ++ r.map (ip_mv ad) := by
      rw [List.map_append]
      cases rv <;> rfl
    rw [e1] at h4
    exact h4
  have hpre : ∀ U : State, U.heap = H → s.WarmedH U.vm → va_Pc (as.map (ip_mv ad)) (ip_Wd D ad cy L xs S) (as.map (ip_mv ad)).toArray U := fun U hU hW => ⟨rfl, by rw [hU]; exact hP, hKK.warm hU hW hS, hSc⟩
  unfold ip_cal at h
  cases hi : ip_ins mi pc with
  | none =>
    rw [hi] at h
    cases h
  | some q0 =>
    obtain ⟨ins, len⟩ := q0
    rw [hi] at h
    obtain ⟨-, hd, hn⟩ := ip_dec hi
    cases ins with
    | invokestatic q =>
      obtain rfl : len = 3 := Nat.eq_of_beq_eq_true hn
      dsimp only at h
      split at h
      · rename_i i' nst pl hq
        obtain ⟨hw, hi189⟩ := ip_clk_ok hq
        dsimp only at hw hi189
        unfold ip_clW at hw
        cases hst : ip_sta i' with
        | false =>
          rw [hst] at h
          cases h
        | true =>
          rw [hst] at h
          dsimp only [cond] at h
          split at h
          · rename_i a' r' hpop
            cases hfit : ip_fit mi i' r' with
            | false =>
              rw [hfit] at h
              cases h
            | true =>
              rw [hfit] at h
              cases h
              obtain ⟨f1, f2, f3, f4⟩ := ip_fit_ok hfit
              obtain ⟨m1, m2, m3, m4, m5, m6, -⟩ := ip_m_ok hi189
              obtain ⟨qq, p1, p2, p3⟩ := ip_pop_eq hpop
              rw [List.append_nil] at p3
              have hlen : (as.map (ip_mv ad)).length = ip_np i := by rw [List.length_map, p3, List.length_reverse, p1]
              have hstk : st.map (ip_mv ad) = (as.map (ip_mv ad)).reverse ++ r.map (ip_mv ad) := by
                rw [p2, p3, List.map_append, List.map_reverse, List.reverse_reverse]
              have hsum : ((r.map (ip_mv ad)).map fun v => v.category).sum ≤ 8 := by rw [ip_cat_sum]; exact f3
              cases nst with
              | false => exact ip_go (va_runS ⟨hx, hb, hml, hown, hts⟩ hM ⟨callB_of (ip_np i) hts (ip_good hi189) rfl rfl rfl (hts _ (ip_gw_at m1 rfl)) (hts _ (ip_gw_at hw rfl)) ⟨m4.1, m4.2, m5⟩ ⟨by show ip_rF i + 1 ≤ R.frames; omega, by show 8 + (ip_ml i + 11) + ip_rL i ≤ R.locals; omega⟩, hts _ (ip_gw_at (m6 hst) rfl)⟩ ⟨ip_blind, hpre⟩ rfl hlen hl.1 hstk (lv_room hsum) hd ⟨hcl, hsl⟩) hS kk2
              | true => exact ip_go (va_runSN ⟨hx, hb, hml, hown, hts⟩ hM ⟨va_cnB (ip_np i) hts (ip_good hi189) rfl rfl rfl (hNW _ (ip_nw_at hw rfl)) (hts _ (ip_gw_at m1 rfl)) ⟨m4.1, m4.2, m5⟩ ⟨by show ip_rF i + 1 ≤ R.frames; omega, by show 8 + (ip_ml i + 11) + ip_rL i ≤ R.locals; omega⟩, hts _ (ip_gw_at (m6 hst) rfl), trivial⟩ ⟨ip_blind, hpre⟩ rfl hlen hl.1 hstk (lv_room hsum) hd ⟨hcl, hsl⟩) hS kk2
          · cases h
      · cases h
    | invokevirtual q =>
      obtain rfl : len = 3 := Nat.eq_of_beq_eq_true hn
      dsimp only at h
      split at h
      · rename_i i' nst pl hq
        obtain ⟨hw, hi189⟩ := ip_clk_ok hq
        dsimp only at hw hi189
        unfold ip_clW at hw
        cases hst : ip_sta i' with
        | true =>
          rw [hst] at h
          cases h
        | false =>
          rw [hst] at h
          dsimp only [cond] at h
          split at h
          · rename_i a' b r' hpop
            split at h
            · rename_i cj hob
              cases hcj : Nat.beq cj (ip_ow i') with
              | false =>
                rw [hcj] at h
                cases h
              | true =>
                rw [hcj] at h
                have hcj := Nat.eq_of_beq_eq_true hcj
                dsimp only [cond] at h
                cases hfit : ip_fit mi i' r' with
                | false =>
                  rw [hfit] at h
                  cases h
                | true =>
                  rw [hfit] at h
                  cases h
                  obtain ⟨f1, f2, f3, f4⟩ := ip_fit_ok hfit
                  obtain ⟨m1, m2, m3, m4, m5, -, m6⟩ := ip_m_ok hi189
                  obtain ⟨qq, p1, p2, p3⟩ := ip_pop_eq hpop
                  rw [List.append_nil] at p3
                  have hlen : (a'.map (ip_mv ad)).length = ip_np i := by rw [List.length_map, p3, List.length_reverse, p1]
                  have hstk : st.map (ip_mv ad) = (a'.map (ip_mv ad)).reverse ++ .ref (ad b) :: r.map (ip_mv ad) := by
                    rw [p2, p3, List.map_append, List.map_reverse, List.reverse_reverse]
                    rfl
                  have hsum : ((r.map (ip_mv ad)).map fun v => v.category).sum ≤ 8 := by rw [ip_cat_sum]; exact f3
                  obtain ⟨hb55, hc7⟩ := ip_ob_lt hob
                  obtain ⟨cq, hcq⟩ : ∃ cq, ip_cl[cj]? = some cq := ⟨_, List.getElem?_eq_getElem (show cj < ip_cl.length from hc7)⟩
                  have hrec := va_recv hK hP hcq (q0 := b) (a := ad b) (by rw [ip_ws_at ad cy S hb55, ip_ce_ob hob])
                  rw [(ip_cls hcq).1, hcj, m2] at hrec
                  cases nst with
                  | false => exact ip_go (va_runV ⟨hx, hb, hml, hown, hts⟩ hM ⟨callB_of (ip_np i) hts (ip_good hi189) rfl rfl rfl (hts _ (ip_gw_at m1 rfl)) (hts _ (ip_gw_at hw rfl)) ⟨m4.1, m4.2, m5⟩ ⟨by show ip_rF i + 1 ≤ R.frames; omega, by show 8 + (ip_ml i + 11) + ip_rL i ≤ R.locals; omega⟩, hts _ (ip_gw_at (m6 hst).1 rfl), hts _ (ip_gw_l (List.mem_of_getElem? (m6 hst).2) rfl)⟩ ⟨ip_blind, hrec, hpre⟩ rfl hlen hl.1 hstk (lv_room hsum) hd ⟨hcl, hsl⟩) hS kk2
                  | true => exact ip_go (va_runVN ⟨hx, hb, hml, hown, hts⟩ hM ⟨va_cnB (ip_np i) hts (ip_good hi189) rfl rfl rfl (hNW _ (ip_nw_at hw rfl)) (hts _ (ip_gw_at m1 rfl)) ⟨m4.1, m4.2, m5⟩ ⟨by show ip_rF i + 1 ≤ R.frames; omega, by show 8 + (ip_ml i + 11) + ip_rL i ≤ R.locals; omega⟩, hts _ (ip_gw_at (m6 hst).1 rfl), hts _ (ip_gw_l (List.mem_of_getElem? (m6 hst).2) rfl)⟩ ⟨ip_blind, hrec, hpre⟩ rfl hlen hl.1 hstk (lv_room hsum) hd ⟨hcl, hsl⟩) hS kk2
            · cases h
          · cases h
      · cases h
    | _ => cases h
end IPR
theorem ip_cal_lt {mi pc i : Nat} {st a r : List Value} (h : ip_cal mi pc st = some (i, a, r)) : i < 189 ∧ ip_ow i < 10 := by
  unfold ip_cal at h
  split at h
  · split at h
    · rename_i i' nst pl hq
      have hi := (ip_clk_ok hq).2
      cases hst : ip_sta i' with
      | false =>
        rw [hst] at h
        cases h
      | true =>
        rw [hst] at h
        dsimp only [cond] at h
        split at h
        · rename_i a' r' hpop
          cases hfit : ip_fit mi i' r' with
          | false =>
            rw [hfit] at h
            cases h
          | true =>
            rw [hfit] at h
            cases h
            exact ⟨hi, (ip_fit_ok hfit).2.2.2⟩
        · cases h
    · cases h
  · split at h
    · rename_i i' nst pl hq
      have hi := (ip_clk_ok hq).2
      cases hst : ip_sta i' with
      | true =>
        rw [hst] at h
        cases h
      | false =>
        rw [hst] at h
        dsimp only [cond] at h
        split at h
        · rename_i a' b r' hpop
          split at h
          · rename_i cj hob
            cases hcj : Nat.beq cj (ip_ow i') with
            | false =>
              rw [hcj] at h
              cases h
            | true =>
              rw [hcj] at h
              dsimp only [cond] at h
              cases hfit : ip_fit mi i' r' with
              | false =>
                rw [hfit] at h
                cases h
              | true =>
                rw [hfit] at h
                cases h
                exact ⟨hi, (ip_fit_ok hfit).2.2.2⟩
          · cases h
        · cases h
    · cases h
  · cases h
/-- from here the method comes to a return with that answer -/
def ip_Rk (l : Launch) (D : va_G) (ad : Nat → Nat) (cy : Nat → ClassId) (L : Nat) (xs : Nat → Int32) (mi pc : Nat) (lv : ip_LV) (st : List Value) (S : ip_St) (rv : Option Value) (S' : ip_St) : Prop :=
  ∀ (p : Program) (e : Env) (R : Room) (s : State) (m : MethodId) (args : Array Value) (below : List Frame) (meth : Method) (c : Code) (cells slots : Nat) (Q : State → Prop) (ls : Array Slot) (H : Heap) (locs : List Loc),
    ip_Cx D ad cy L xs mi p R s m args c cells slots → ip_has ad ls (ip_ml mi) lv → va_P D ip_cl (ip_ws ad cy S) H → va_S (ip_In ad) s.heap H locs → ip_Sc L xs S →
    (∀ (pc' : Nat) (ls' : Array Slot) (H' : Heap) (locs' : List Loc) (st' : List Value), ip_ret mi pc' st' = some rv → va_P D ip_cl (ip_ws ad cy S') H' → va_S (ip_In ad) s.heap H' locs' → ip_Sc L xs S' → W p l e R s m args below meth c H' locs' cells slots Q (F0 m pc' ls' (st'.map (ip_mv ad)))) →
    W p l e R s m args below meth c H locs cells slots Q (F0 m pc ls (st.map (ip_mv ad)))
set_option maxHeartbeats 4000000 in
theorem ip_mt_of {l : Launch} {D : va_G} {ad : Nat → Nat} {cy : Nat → ClassId} {L : Nat} {xs : Nat → Int32} {i : Nat} {as : List Value} {l1 : ip_LV} {S S' : ip_St} {rv : Option Value} (hi : i < 189) (ho : ip_ow i < 10) (hinj : ip_inj ad) (hen : ip_en (ip_ml i) as = some l1) (h : ip_Rk l D ad cy L xs i 0 l1 [] S rv S') : ip_Mt l D ad cy L xs i as S rv S' := by
  obtain ⟨m1, m2, m3, m4, m5, m6⟩ := ip_m_ok hi
  have hpn : plainName (ip_y i).cls = true := by
    rcases m3 with m3 | m3
    · exact m3
    · omega
  refine Met.ofW (cc := ip_cc i) (maxL := ip_ml i) (ret := ip_rt i) hpn rfl ?_
  intro p e s m args below meth c s₁ B hml hv
  obtain ⟨rfl, hP, hK, hSc⟩ := hv
  have hts := atoms_spec (ws := ip_wd i) B.pre
  have hown : s.vm.findClass (ip_y i).cls = some m.cls := findClass_of_methodNamed B.named
  have hr := B.returns
  have hlocks := B.notSynchronized
  rw [lg_entry_eq]
  refine h p e _ s m _ below meth c 0 0 _ _ s.heap [] ⟨B.exec, B.bytes, hml, by rw [m2]; exact hown, fun w hw => hts w (List.mem_cons_of_mem _ hw), hK, hinj, Nat.le_refl _, Nat.le_refl _, Nat.le_refl _, Nat.le_refl _⟩ (ip_en_has ad hen) hP va_S.rf hSc ?_
  intro pc' ls' H' locs' st' hret hP' hS' hSc'
  have hq : ∀ t : State, t.heap = H' → s.WarmedH t.vm → ip_Qx D ad cy L xs rv S' (as.map (ip_mv ad)).toArray s (.returned (rv.map (ip_mv ad))) t := fun t ht _ => ⟨rfl, by rw [ht]; exact hP', hSc', hS'.F ht⟩
  unfold ip_ret at hret
  split at hret
  · rename_i len hi2
    obtain ⟨-, hd, hn⟩ := ip_dec hi2
    obtain rfl : len = 1 := Nat.eq_of_beq_eq_true hn
    split at hret
    · rename_i x
      split at hret
      · rename_i hrt
        cases hret
        rw [hrt] at hr
        exact W.iret B.exec B.bytes hr hq hS'.2.2 hd
      · rename_i hrt
        rw [hrt] at hr
        cases hB : ip_isB x with
        | false =>
          rw [hB] at hret
          cases hret
        | true =>
          rw [hB] at hret
          cases hret
          exact W.zret B.exec B.bytes hr (by rcases ip_isB_or hB with rfl | rfl <;> rfl) hq hS'.2.2 hd
      · cases hret
    · cases hret
  · rename_i len hi2
    obtain ⟨-, hd, hn⟩ := ip_dec hi2
    obtain rfl : len = 1 := Nat.eq_of_beq_eq_true hn
    split at hret
    · split at hret
      · rename_i hrt
        cases hret
        rw [hrt] at hr
        exact W.lret B.exec B.bytes hr hq hS'.2.2 hd
      · cases hret
    · cases hret
  · rename_i len hi2
    obtain ⟨-, hd, hn⟩ := ip_dec hi2
    obtain rfl : len = 1 := Nat.eq_of_beq_eq_true hn
    split at hret
    · split at hret
      · rename_i nm hrt
        cases hret
        rw [hrt] at hr
        exact W.aret B.exec B.bytes hr (Or.inl ⟨_, rfl⟩) (Or.inr ⟨_, rfl⟩) hq hS'.2.2 hd
      · cases hret
    · cases hret
  · rename_i len hi2
    obtain ⟨-, hd, hn⟩ := ip_dec hi2
    obtain rfl : len = 1 := Nat.eq_of_beq_eq_true hn
    split at hret
    · split at hret
      · rename_i hrt
        cases hret
        rw [hrt] at hr
        exact W.vret B.exec B.bytes hr hq hS'.2.2 hd
      · cases hret
    · cases hret
  · cases hret
set_option maxHeartbeats 4000000 in
theorem ip_run_ok (l : Launch) (D : va_G) (ad : Nat → Nat) (cy : Nat → ClassId) (L : Nat) (xs : Nat → Int32) : ∀ (n mi pc : Nat) (lv : ip_LV) (st : List Value) (S : ip_St) (rv : Option Value) (S' : ip_St), ip_run n mi pc lv st S = some (rv, S') → ip_Rk l D ad cy L xs mi pc lv st S rv S' := by
  intro n
  induction n with
  | zero =>
    intro mi pc lv st S rv S' h
    simp [ip_run] at h
  | succ n ih =>
    intro mi pc lv st S rv S' h p e R s m args below meth c cells slots Q ls H locs C0 hl hP hS hSc fin
    rw [ip_run] at h
    cases hret : ip_ret mi pc st with
    | some rv0 =>
      rw [hret] at h
      cases h
      exact fin pc ls H locs st hret hP hS hSc
    | none =>
      rw [hret] at h
      dsimp only at h
      cases hcal : ip_cal mi pc st with
      | some q =>
        obtain ⟨i, a, r⟩ := q
        rw [hcal] at h
        dsimp only at h
        cases hen : ip_en (ip_ml i) a with
        | none =>
          rw [hen] at h
          cases h
        | some l1 =>
          rw [hen] at h
          dsimp only at h
          cases hrn : ip_run n i 0 l1 [] S with
          | none =>
            rw [hrn] at h
            cases h
          | some q1 =>
            obtain ⟨rv1, S1⟩ := q1
            rw [hrn] at h
            dsimp only at h
            have hi := ip_cal_lt hcal
            have hM := ip_mt_of (l := l) (L := L) (xs := xs) (D := D) (cy := cy) hi.1 hi.2 C0.2.2.2.2.2.2.1 hen (ih i 0 l1 [] S rv1 S1 hrn)
            exact ip_call_ok C0 hl hP hS hSc hcal hM (fun H1 locs1 h1 h2 h3 => ih mi (pc + 3) lv _ S1 rv S' h p e R s m args below meth c cells slots Q ls H1 locs1 C0 hl h1 h2 h3 fin)
      | none =>
        rw [hcal] at h
        dsimp only at h
        cases hst : ip_stp mi pc lv st S with
        | none =>
          rw [hst] at h
          cases h
        | some q =>
          obtain ⟨pc', lv', st', S1⟩ := q
          rw [hst] at h
          dsimp only at h
          exact ip_stp_ok C0 hl hP hS hSc hst (fun ls' H' locs' h1 h2 h3 h4 => ih mi pc' lv' st' S1 rv S' h p e R s m args below meth c cells slots Q ls' H' locs' C0 h1 h2 h3 h4 fin)
