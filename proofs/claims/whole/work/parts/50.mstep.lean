/-! ===== one step of the machine that makes cells ===== -/
abbrev ax_Cf : Type := Nat × ip_LV × List Value × List ax_E × Nat × Nat
def ax_ak (a : ArrayType) : Option Nat := match a with
  | .int => some 0
  | .long => some 1
  | .boolean => some 2
  | _ => none
def ax_sN (t q pc : Nat) (lv : ip_LV) (st : List Value) (G : List ax_E) (ce sl : Nat) : Option ax_Cf := match ax_nf t q with
  | some ci => cond (Nat.blt G.length 55 && (Nat.ble (ce + 1) (ax_rC t) && Nat.ble (sl + ip_nf ci) (ax_rS t))) (some (pc + 3, lv, .ref G.length :: st, G ++ [.inr (ci, ax_df ci)], ce + 1, sl + ip_nf ci)) none
  | none => none
def ax_sA (t pc : Nat) (a : ArrayType) (lv : ip_LV) (st : List Value) (G : List ax_E) (ce sl : Nat) : Option ax_Cf := match st with
  | .int n :: r => match ax_ak a with
    | some kd => cond (Nat.blt G.length 55 && (Nat.ble (ce + 1) (ax_rC t) && (Nat.ble (sl + n.toNatClampNeg) (ax_rS t) && (!(decide (n < 0)) && Nat.ble n.toNatClampNeg 1000)))) (some (pc + 2, lv, .ref G.length :: r, G ++ [.inl (kd, n.toNatClampNeg, [])], ce + 1, sl + n.toNatClampNeg)) none
    | none => none
  | _ => none
def ax_sQ (t q pc : Nat) (lv : ip_LV) (st : List Value) (G : List ax_E) (ce sl : Nat) : Option ax_Cf := match st with
  | .int n :: r => match ax_nf t q with
    | some 1 => cond (Nat.blt G.length 55 && (Nat.ble (ce + 1) (ax_rC t) && (Nat.ble (sl + n.toNatClampNeg) (ax_rS t) && (!(decide (n < 0)) && Nat.ble n.toNatClampNeg 1000)))) (some (pc + 3, lv, .ref G.length :: r, G ++ [.inl (3, n.toNatClampNeg, List.replicate n.toNatClampNeg none)], ce + 1, sl + n.toNatClampNeg)) none
    | _ => none
  | _ => none
def ax_sS (pc : Nat) (lv : ip_LV) (st : List Value) (G : List ax_E) (ce sl : Nat) : Option ax_Cf := match st with
  | .ref v :: .int i :: .ref a :: r => match G[a]? with
    | some (.inl (3, n, g)) => match G[v]? with
      | some (.inr (1, _)) => cond (Nat.blt i.toNatClampNeg n && (!(decide (i < 0)) && Nat.beq g.length n)) (some (pc + 1, lv, r, G.set a (.inl (3, n, g.set i.toNatClampNeg (some v))), ce, sl)) none
      | _ => none
    | _ => none
  | _ => none
def ax_okv (t ci k : Nat) (v : Value) : Bool := match v with
  | .ref _ => Nat.beq (ip_ty ci k) 3
  | .int _ => Nat.beq (ip_ty ci k) 0
  | _ => false
def ax_sP (t q pc : Nat) (lv : ip_LV) (st : List Value) (G : List ax_E) (ce sl : Nat) : Option ax_Cf := match ip_flk t q with
  | some (ci, k, false, _) => match st with
    | v :: .ref a :: r => match G[a]? with
      | some (.inr (cj, fs)) => cond (Nat.beq cj ci && (Nat.beq ci t && (Nat.blt k fs.length && ax_okv t ci k v))) (some (pc + 3, lv, r, G.set a (.inr (ci, fs.set k v)), ce, sl)) none
      | _ => none
    | _ => none
  | _ => none
def ax_sO (t q pc : Nat) (lv : ip_LV) (st : List Value) (G : List ax_E) (ce sl : Nat) : Option ax_Cf := cond (Nat.beq q (ax_oi t) && Nat.blt t 7) (match st with
  | [.ref _] => some (pc + 3, lv, [], G, ce, sl)
  | _ => none) none
def ax_stp (t pc : Nat) (lv : ip_LV) (st : List Value) (G : List ax_E) (ce sl : Nat) : Option ax_Cf := match decode (ax_cc t) pc with
  | .ok (.aload_n j, 1) => match ip_at lv j.val with
    | some (.ref x) => some (pc + 1, lv, .ref x :: st, G, ce, sl)
    | _ => none
  | .ok (.astore_n j, 1) => match st with
    | .ref x :: r => match ip_s1 lv j.val (.ref x) with
      | some lv' => some (pc + 1, lv', r, G, ce, sl)
      | none => none
    | _ => none
  | .ok (.dup, 1) => match st with
    | .ref x :: r => some (pc + 1, lv, .ref x :: .ref x :: r, G, ce, sl)
    | _ => none
  | .ok (.iconst n, 1) => some (pc + 1, lv, .int (Int32.ofInt n) :: st, G, ce, sl)
  | .ok (.bipush n, 2) => some (pc + 2, lv, .int (Int8.ofInt n).toInt32 :: st, G, ce, sl)
  | .ok (.sipush n, 3) => some (pc + 3, lv, .int (Int16.ofInt n).toInt32 :: st, G, ce, sl)
  | .ok (.new q, 3) => ax_sN t q pc lv st G ce sl
  | .ok (.newarray a, 2) => ax_sA t pc a lv st G ce sl
  | .ok (.anewarray q, 3) => ax_sQ t q pc lv st G ce sl
  | .ok (.aastore, 1) => ax_sS pc lv st G ce sl
  | .ok (.putfield q, 3) => ax_sP t q pc lv st G ce sl
  | .ok (.invokespecial q, 3) => ax_sO t q pc lv st G ce sl
  | _ => none
def ax_K (D : va_G) (ad : Nat → Nat) (cy : Nat → ClassId) (L : Nat) (xs : Nat → Int32) (U : State) : Prop := ip_K D ad cy L xs U ∧ va_AO "AccusedAsks$Judge" U
def ax_Cx (D : va_G) (ad : Nat → Nat) (cy : Nat → ClassId) (L : Nat) (xs : Nat → Int32) (base t : Nat) (p : Program) (R : Room) (s : State) (m : MethodId) (args : Array Value) (meth : Method) (c : Code) : Prop :=
  p.tables.exec = Jvm.exec ∧ c.code = ax_cc t ∧ c.maxLocals = ax_ml t ∧ s.vm.findClass (ip_on t) = some m.cls ∧ (∀ w ∈ ip_gw, w.before args s = true) ∧ ax_K D ad cy L xs s ∧ ip_inj ad ∧ (∀ k, k < 55 → ad k = base + k) ∧ (t < 7 → meth.name = "<init>") ∧ ax_rF t ≤ R.frames ∧ ax_rL t ≤ R.locals ∧ ax_rC t ≤ R.cells ∧ ax_rS t ≤ R.slots
def ax_I (ad : Nat → Nat) (cy : Nat → ClassId) (D : va_G) (base : Nat) (s : State) (G : List ax_E) (H : Heap) (locs : List Loc) (ce : Nat) : Prop := va_P D ip_cl (ax_ws ad cy G) H ∧ va_S (ip_In ad) s.heap H locs ∧ H.size = base + G.length ∧ s.heap.size + ce = base + G.length ∧ G.length ≤ 55
section AXS
variable {p : Program} {l : Launch} {e : Env} {R : Room} {s : State} {m : MethodId} {args : Array Value} {below : List Frame} {meth : Method} {c : Code} {cells slots : Nat} {Q : State → Prop}
variable {D : va_G} {ad : Nat → Nat} {cy : Nat → ClassId} {L : Nat} {xs : Nat → Int32} {base t : Nat}
variable {pc : Nat} {ls : Array Slot} {rest : List Value} {H : Heap} {locs : List Loc} {G : List ax_E}
theorem ax_sz {g : JFrame} (h : H.size ≤ s.heap.size + cells → W p l e R s m args below meth c H locs cells slots Q g) : W p l e R s m args below meth c H locs cells slots Q g := fun T hT X => h (by have := X.heapSize; rw [hT] at this; exact this) T hT X
/-- the world with one cell more -/
theorem ax_grow {H1 : Heap} {x : ax_E} (hI : ax_I ad cy D base s G H locs cells) (had : ∀ k, k < 55 → ad k = base + k) (hG : G.length < 55) (hat : va_at D ip_cl (H.size, ax_tr ad cy x) H1) (z1 : H1.size = H.size + 1) (o1 : ∀ q, q < H.size → H1[q]? = H[q]?) : ax_I ad cy D base s (G ++ [x]) H1 locs (cells + 1) := by
  obtain ⟨hP, hS, h1, h2, h3⟩ := hI
  have hlen : (G ++ [x]).length = G.length + 1 := by simp
  refine ⟨?_, ⟨by have := hS.1; omega, fun q a b => (o1 q (by have := hS.1; omega)).trans (hS.2.1 q a b), hS.2.2⟩, by omega, by omega, by omega⟩
  rw [ax_ws_push]
  refine (hP.kept (fun k q hk => o1 q.1 ((hP k q hk).lt))).app (fun k q hk => ?_)
  have hz : k < 1 := (List.getElem?_eq_some_iff.mp hk).1
  rw [show k = 0 by omega] at hk
  cases hk
  rw [had _ hG, ← h1]
  exact hat
theorem ax_new_ok (C0 : ax_Cx D ad cy L xs base t p R s m args meth c) (hI : ax_I ad cy D base s G H locs cells) {q ci : Nat} (hq : ax_nf t q = some ci) (hG : G.length < 55) (hc : cells + 1 ≤ ax_rC t) (hs : slots + ip_nf ci ≤ ax_rS t) (hd : decode (ax_cc t) pc = .ok (.new q, 3))
    (kk : ∀ H1 : Heap, ax_I ad cy D base s (G ++ [.inr (ci, ax_df ci)]) H1 locs (cells + 1) → W p l e R s m args below meth c H1 locs (cells + 1) (slots + ip_nf ci) Q (F0 m (pc + 3) ls (.ref (ad G.length) :: rest))) : W p l e R s m args below meth c H locs cells slots Q (F0 m pc ls rest) := by
  obtain ⟨hx, hb, hml, hown, hts, ⟨⟨hK, -⟩, -⟩, hinj, had, -, hRf, hRl, hRc, hRs⟩ := C0
  obtain ⟨w1, w2, w3, hci⟩ := ax_nf_ok hq
  obtain ⟨r, hr⟩ : ∃ r, ip_cl[ci]? = some r := ⟨_, List.getElem?_eq_getElem (show ci < ip_cl.length from hci)⟩
  obtain ⟨ty0, hty, -, hdf, -⟩ := ax_cls hr
  have hn := (ip_cls hr).1
  have hKn := hK.1 ci _ hr
  have hfc := hKn.2.1
  rw [hn] at hfc
  refine W.newcK hx hb hown (hts _ w1) (hts _ w2) (hts _ w3) rfl hd (by omega) (by omega) hfc rfl fun H1 kC hkC e1 z1 o1 => ?_
  have hh : H.size = ad G.length := by rw [had _ hG]; exact hI.2.2.1
  have hk := kk H1 (ax_grow hI had hG ?_ z1 o1)
  · rw [← hh] at hk
    exact hk
  · show ∃ r : vw_C, ip_cl[ci]? = some r ∧ t_OB H.size (D.1 ci) r.2.2 (D.2 ci) H1 (vp_V ((ax_df ci).map (ip_mv ad)))
    rw [ax_df_mv]
    exact ⟨r, hr, (u_born ty0 hts (ip_uw hr) hKn hkC e1 hty).to hdf⟩
theorem ax_newa_ok (C0 : ax_Cx D ad cy L xs base t p R s m args meth c) (hI : ax_I ad cy D base s G H locs cells) {a : ArrayType} {kd : Nat} {n : Int32} (ha : ax_ak a = some kd) (hG : G.length < 55) (hc : cells + 1 ≤ ax_rC t) (hs : slots + n.toNatClampNeg ≤ ax_rS t) (hn : ¬ n < 0) (hn2 : n.toNatClampNeg ≤ 1000) (hd : decode (ax_cc t) pc = .ok (.newarray a, 2))
    (kk : ∀ H1 : Heap, ax_I ad cy D base s (G ++ [.inl (kd, n.toNatClampNeg, [])]) H1 locs (cells + 1) → W p l e R s m args below meth c H1 locs (cells + 1) (slots + n.toNatClampNeg) Q (F0 m (pc + 2) ls (.ref (ad G.length) :: rest))) : W p l e R s m args below meth c H locs cells slots Q (F0 m pc ls (.int n :: rest)) := by
  obtain ⟨hx, hb, hml, hown, hts, ⟨⟨hK, -⟩, -⟩, hinj, had, -, hRf, hRl, hRc, hRs⟩ := C0
  have hh : H.size = ad G.length := by rw [had _ hG]; exact hI.2.2.1
  have hw : Jvm.Cond.arrayClass (newarray.typeOf a) ∈ ip_gw := by
    cases a <;> first | exact ax_ac0 | exact ax_ac1 | exact ax_ac2 | cases ha
  have hby : n.toNatClampNeg * componentBytes (newarray.typeOf a) ≤ 536870912 := by
    have h8 : componentBytes (newarray.typeOf a) ≤ 8 := by cases a <;> decide
    exact Nat.le_trans (Nat.mul_le_mul hn2 h8) (by decide)
  refine va_newaK hx hb (hts _ hw) rfl hd rfl hn rfl hby (by omega) (by omega) rfl fun H1 cA e1 z1 o1 hAr hNm => ?_
  have hk := kk H1 (ax_grow hI had hG ?_ z1 o1)
  · rw [← hh] at hk
    exact hk
  · show va_at D ip_cl (H.size, ax_tr ad cy (.inl (kd, n.toNatClampNeg, []))) H1
    cases a with
    | int =>
      cases ha
      have hu := (hK.2 0 (cy 0, .int) rfl).2
      cases (show s.vm.findClass ("[" ++ FieldType.int.toString) = some (cy 0) from hu).symm.trans hNm
      exact e1
    | long =>
      cases ha
      have hu := (hK.2 1 (cy 1, .long) rfl).2
      cases (show s.vm.findClass ("[" ++ FieldType.long.toString) = some (cy 1) from hu).symm.trans hNm
      exact e1
    | boolean =>
      cases ha
      have hu := (hK.2 2 (cy 2, .boolean) rfl).2
      cases (show s.vm.findClass ("[" ++ FieldType.boolean.toString) = some (cy 2) from hu).symm.trans hNm
      exact e1
    | _ => cases ha
theorem ax_newq_ok (C0 : ax_Cx D ad cy L xs base t p R s m args meth c) (hI : ax_I ad cy D base s G H locs cells) {q : Nat} {n : Int32} (hq : ax_nf t q = some 1) (hG : G.length < 55) (hc : cells + 1 ≤ ax_rC t) (hs : slots + n.toNatClampNeg ≤ ax_rS t) (hn : ¬ n < 0) (hn2 : n.toNatClampNeg ≤ 1000) (hd : decode (ax_cc t) pc = .ok (.anewarray q, 3))
    (kk : ∀ H1 : Heap, ax_I ad cy D base s (G ++ [.inl (3, n.toNatClampNeg, List.replicate n.toNatClampNeg none)]) H1 locs (cells + 1) → W p l e R s m args below meth c H1 locs (cells + 1) (slots + n.toNatClampNeg) Q (F0 m (pc + 3) ls (.ref (ad G.length) :: rest))) : W p l e R s m args below meth c H locs cells slots Q (F0 m pc ls (.int n :: rest)) := by
  obtain ⟨hx, hb, hml, hown, hts, ⟨⟨hK, -⟩, hAO⟩, hinj, had, -, hRf, hRl, hRc, hRs⟩ := C0
  obtain ⟨w1, -⟩ := ax_nf_ok hq
  have hh : H.size = ad G.length := by rw [had _ hG]; exact hI.2.2.1
  refine W.anew hx hb hown (hts _ w1) (va_AO.use hAO) rfl hd rfl hn (by omega) (by omega) (by omega) fun cA kA comp f1 f2 f3 f4 => ?_
  have hk := kk _ (ax_grow (H1 := H.push { cls := cA, slots := Array.replicate n.toNatClampNeg .null, vm := .none }) hI had hG ?_ (by simp) (fun q hq => by rw [Array.getElem?_push, if_neg (Nat.ne_of_lt hq)]))
  · rw [← hh] at hk
    exact hk
  · obtain ⟨kA', comp', -, -, -, g4⟩ := (show va_RA s (cy 3) (.object "AccusedAsks$Judge") from (hK.2 3 (cy 3, .object "AccusedAsks$Judge") rfl).2)
    cases g4.symm.trans f1
    show (H.push _)[H.size]? = some (vp_cell _ (_, .inr (.inr (.inr (.inr _)))))
    rw [Array.getElem?_push_size, arrV_new]
    show _ = some (arrV (cy 3) n.toNatClampNeg (fun j => va_rf (((List.replicate n.toNatClampNeg (none : Option Nat)).getD j none).map ad)))
    congr 2
    funext j
    rw [show ((List.replicate n.toNatClampNeg (none : Option Nat)).getD j none) = none by rw [List.getD_eq_getElem?_getD, List.getElem?_replicate]; split <;> rfl]
    rfl
/-- the world with one cell changed -/
theorem ax_chg {H1 : Heap} {locs1 : List Loc} {x : ax_E} {a : Nat} (hI : ax_I ad cy D base s G H locs cells) (hP1 : va_P D ip_cl (ax_ws ad cy (G.set a x)) H1) (hS1 : va_S (ip_In ad) H H1 locs1) (hz : H1.size ≤ s.heap.size + cells) : ax_I ad cy D base s (G.set a x) H1 locs1 cells := by
  obtain ⟨hP, hS, h1, h2, h3⟩ := hI
  have hlen : (G.set a x).length = G.length := by simp
  have h4 := hS1.1
  have h5 := hS.1
  exact ⟨hP1, ⟨by omega, fun q b d => (hS1.2.1 q (by omega) d).trans (hS.2.1 q b d), hS1.2.2⟩, by omega, by omega, by omega⟩
theorem ax_put_ok (C0 : ax_Cx D ad cy L xs base t p R s m args meth c) (hI : ax_I ad cy D base s G H locs cells) {q ci k pl a : Nat} {fs : List Value} {v : Value} (hf : ip_flk t q = some (ci, k, false, pl)) (hci : ci = t) (hg : G[a]? = some (.inr (ci, fs))) (hkl : k < fs.length) (hv : ax_okv t ci k v = true) (hd : decode (ax_cc t) pc = .ok (.putfield q, 3))
    (kk : ∀ (H1 : Heap) (locs1 : List Loc), ax_I ad cy D base s (G.set a (.inr (ci, fs.set k v))) H1 locs1 cells → W p l e R s m args below meth c H1 locs1 cells slots Q (F0 m (pc + 3) ls rest)) : W p l e R s m args below meth c H locs cells slots Q (F0 m pc ls (ip_mv ad v :: .ref (ad a) :: rest)) := by
  obtain ⟨hx, hb, hml, hown, hts, ⟨⟨hK, -⟩, -⟩, hinj, had, hin, hRf, hRl, hRc, hRs⟩ := C0
  obtain ⟨hw, r, hr, hk⟩ := ip_flk_ok hf
  dsimp only at hw hr hk
  unfold ip_flW at hw
  rw [hr] at hw
  have hP := hI.1
  have hD := ax_D (cy := cy) hinj hI.2.2.2.2
  have hS : va_S (ip_In ad) H H locs := ⟨Nat.le_refl _, fun _ _ _ => rfl, hI.2.1.2.2⟩
  have he : (ax_ws ad cy G)[a]? = some (ad a, .inr (ci, fs.map (ip_mv ad))) := by
    rw [ax_ws_at, hg]; rfl
  obtain ⟨ty0, hty, hnm, -, hc3⟩ := ax_cls hr
  have hci7 : ci < 7 := (List.getElem?_eq_some_iff.mp hr).1
  obtain ⟨q1, q2, q3⟩ := hc3 k hk
  have hnf : narrow (ty0 k) (ip_mv ad v) = ip_mv ad v ∧ fits (ty0 k) (ip_mv ad v) = true := by
    unfold ax_okv at hv
    split at hv
    · rename_i x
      exact ax_ref_ok (q2 (Nat.eq_of_beq_eq_true hv)) (ad x)
    · rename_i x
      rw [q3 (Nat.eq_of_beq_eq_true hv)]
      exact ⟨rfl, rfl⟩
    · cases hv
  have hset : ∀ H1 : Heap, va_P D ip_cl ((ax_ws ad cy G).set a (ad a, .inr (ci, (fs.map (ip_mv ad)).set k (ip_mv ad v)))) H1 → va_P D ip_cl (ax_ws ad cy (G.set a (.inr (ci, fs.set k v)))) H1 := by
    intro H1 h
    rw [← ax_ws_set]
    have e1 : ax_tr ad cy (.inr (ci, fs.set k v)) = .inr (ci, (fs.map (ip_mv ad)).set k (ip_mv ad v)) := by
      show Sum.inr (ci, (fs.set k v).map (ip_mv ad)) = _
      rw [List.map_set]
    rw [e1]
    exact h
  have hkl2 : k < (fs.map (ip_mv ad)).length := by rw [List.length_map]; exact hkl
  cases hfin : (r.2.1 k).2.2.2 with
  | false => exact va_put (C := r.1) (T := r.2.1) (N := r.2.2) hx hb hts (ip_uw hr) ty0 hty hnm hown hK hP hD hS a he hr k hk (hts _ (ip_gw_at hw rfl)) (fun _ h => h) hfin (hty k hk) hnf.1 hnf.2 hkl2 hd (fun H1 locs1 h1 _ h2 => ax_sz fun hz => kk H1 locs1 (ax_chg hI (hset H1 h1) h2 hz))
  | true => exact va_putF (C := r.1) (T := r.2.1) (N := r.2.2) hx hb hts (ip_uw hr) ty0 hty hnm hown hK hP hD hS a he hr k hk (hts _ (ip_gw_at hw rfl)) (fun _ h => h) hfin (hin (hci ▸ hci7)) (q1.trans (by rw [hci])) (hty k hk) hnf.1 hnf.2 hkl2 hd (fun H1 locs1 h1 _ h2 => ax_sz fun hz => kk H1 locs1 (ax_chg hI (hset H1 h1) h2 hz))
theorem ax_ast_ok (C0 : ax_Cx D ad cy L xs base t p R s m args meth c) (hI : ax_I ad cy D base s G H locs cells) {a v n : Nat} {i : Int32} {g : List (Option Nat)} {vs : List Value} (ha : G[a]? = some (.inl (3, n, g))) (hv : G[v]? = some (.inr (1, vs))) (hi : i.toNatClampNeg < n) (hi0 : ¬ i < 0) (hgl : g.length = n) (hd : decode (ax_cc t) pc = .ok (.aastore, 1))
    (kk : ∀ (H1 : Heap) (locs1 : List Loc), ax_I ad cy D base s (G.set a (.inl (3, n, g.set i.toNatClampNeg (some v)))) H1 locs1 cells → W p l e R s m args below meth c H1 locs1 cells slots Q (F0 m (pc + 1) ls rest)) : W p l e R s m args below meth c H locs cells slots Q (F0 m pc ls (.ref (ad v) :: .int i :: .ref (ad a) :: rest)) := by
  obtain ⟨hx, hb, hml, hown, hts, ⟨⟨hK, -⟩, hAO⟩, hinj, had, hin, hRf, hRl, hRc, hRs⟩ := C0
  have hP := hI.1
  have hD := ax_D (cy := cy) hinj hI.2.2.2.2
  have hS : va_S (ip_In ad) H H locs := ⟨Nat.le_refl _, fun _ _ _ => rfl, hI.2.1.2.2⟩
  have h1 : (ax_ws ad cy G)[a]? = some (ad a, .inl (cy 3, n, .inr (.inr (.inr (.inr (fun k => (g.getD k none).map ad)))))) := by
    rw [ax_ws_at, ha]; rfl
  have h2 : (ax_ws ad cy G)[v]? = some (ad v, .inr (1, vs.map (ip_mv ad))) := by
    rw [ax_ws_at, hv]; rfl
  obtain ⟨r, hr⟩ : ∃ r, ip_cl[1]? = some r := ⟨_, rfl⟩
  have hn := (ip_cls hr).1
  refine va_astq hx hb hK hP hD hS a 3 v 1 h1 (by rw [hn]; rfl) h2 hr (fun h => by rcases h with h | h; exact hi0 h; omega) hd (fun H1 locs1 g1 _ g2 => ax_sz fun hz => kk H1 locs1 (ax_chg hI ?_ g2 hz))
  rw [← ax_ws_set]
  have e1 : ax_tr ad cy (.inl (3, n, g.set i.toNatClampNeg (some v))) = .inl (cy 3, n, .inr (.inr (.inr (.inr (va_up (fun k => (g.getD k none).map ad) i.toNatClampNeg (some (ad v))))))) := by
    show Sum.inl (cy 3, n, Sum.inr (Sum.inr (Sum.inr (Sum.inr (fun k => ((g.set i.toNatClampNeg (some v)).getD k none).map ad))))) = _
    have e2 : (fun k => ((g.set i.toNatClampNeg (some v)).getD k none).map ad) = va_up (fun k => (g.getD k none).map ad) i.toNatClampNeg (some (ad v)) := by
      funext k
      unfold va_up
      rw [List.getD_eq_getElem?_getD, List.getElem?_set]
      by_cases hk : i.toNatClampNeg = k
      · rw [if_pos hk, if_pos (by omega), if_pos hk.symm]; rfl
      · rw [if_neg hk, if_neg (fun q => hk q.symm)]
        show _ = Option.map ad (g.getD k none)
        rw [List.getD_eq_getElem?_getD]
    rw [e2]
  rw [e1]
  exact g1
theorem ax_rm_ck : ∀ t, t < 7 → 32 ≤ ax_rL t ∧ 1 ≤ ax_rF t := by decide
theorem ax_obj_ok (C0 : ax_Cx D ad cy L xs base t p R s m args meth c) (hl : ls.size = ax_ml t) {a q : Nat} (ht : t < 7) (hq : q = ax_oi t) (hd : decode (ax_cc t) pc = .ok (.invokespecial q, 3))
    (kk : W p l e R s m args below meth c H locs cells slots Q (F0 m (pc + 3) ls [])) : W p l e R s m args below meth c H locs cells slots Q (F0 m pc ls [.ref a]) := by
  obtain ⟨hx, hb, hml, hown, hts, -, hinj, had, hin, hRf, hRl, hRc, hRs⟩ := C0
  subst hq
  obtain ⟨h1, h2⟩ := ax_rm_ck t ht
  have h3 := lv_room (m := m) (pc := pc) (ls := ls) (rest := [.ref a]) (st := []) (Nat.zero_le _)
  exact W.objInit hx hb hown (hts _ (ax_oi_ok ht)) (hts _ ax_ob1) (hts _ ax_ob2) rfl (by rw [hml]; exact hl) rfl hd (by omega) (by omega) kk
set_option maxHeartbeats 4000000 in
theorem ax_stp_ok (C0 : ax_Cx D ad cy L xs base t p R s m args meth c) {lv : ip_LV} {st : List Value} (hl : ip_has ad ls (ax_ml t) lv) (hI : ax_I ad cy D base s G H locs cells)
    {pc' ce' sl' : Nat} {lv' : ip_LV} {st' : List Value} {G' : List ax_E} (h : ax_stp t pc lv st G cells slots = some (pc', lv', st', G', ce', sl'))
    (k : ∀ (ls' : Array Slot) (H' : Heap) (locs' : List Loc), ip_has ad ls' (ax_ml t) lv' → ax_I ad cy D base s G' H' locs' ce' → W p l e R s m args below meth c H' locs' ce' sl' Q (F0 m pc' ls' (st'.map (ip_mv ad)))) :
    W p l e R s m args below meth c H locs cells slots Q (F0 m pc ls (st.map (ip_mv ad))) := by
  obtain ⟨hx, hb, hml, hown, hts, -⟩ := id C0
  unfold ax_stp at h
  split at h
  · rename_i j hd
    split at h
    · rename_i x hat
      cases h
      exact lv_aload_n hx hb hd rfl (hl.2.2.2 _ _ hat) (k ls H locs hl hI)
    · cases h
  · rename_i j hd
    split at h
    · split at h
      · rename_i lv1 h1
        cases h
        exact lv_astore_n hx hb hd rfl (ip_has_lv hl) (by rw [← hl.2.2.1]; exact ip_s1_lt h1) rfl (fun ls' hl' => k ls' H locs (ip_s1_has hl.2.2.1 h1 hl') hI)
      · cases h
    · cases h
  · rename_i hd
    split at h
    · cases h
      exact lv_dup hx hb hd rfl (k ls H locs hl hI)
    · cases h
  · rename_i n hd
    cases h
    exact lv_iconst hx hb hd rfl (k ls H locs hl hI)
  · rename_i n hd
    cases h
    exact lv_bipush hx hb hd rfl (k ls H locs hl hI)
  · rename_i n hd
    cases h
    exact lv_sipush hx hb hd rfl (k ls H locs hl hI)
  · rename_i q hd
    unfold ax_sN at h
    split at h
    · rename_i ci hq
      cases hc : (Nat.blt G.length 55 && (Nat.ble (cells + 1) (ax_rC t) && Nat.ble (slots + ip_nf ci) (ax_rS t))) with
      | false => rw [hc] at h; cases h
      | true =>
        rw [hc] at h
        cases h
        simp only [Bool.and_eq_true] at hc
        exact ax_new_ok C0 hI hq (Nat.le_of_ble_eq_true hc.1) (Nat.le_of_ble_eq_true hc.2.1) (Nat.le_of_ble_eq_true hc.2.2) hd (fun H1 h1 => k ls H1 locs hl h1)
    · cases h
  · rename_i a hd
    unfold ax_sA at h
    split at h
    · rename_i n r
      split at h
      · rename_i kd hq
        cases hc : (Nat.blt G.length 55 && (Nat.ble (cells + 1) (ax_rC t) && (Nat.ble (slots + n.toNatClampNeg) (ax_rS t) && (!(decide (n < 0)) && Nat.ble n.toNatClampNeg 1000)))) with
        | false => rw [hc] at h; cases h
        | true =>
          rw [hc] at h
          cases h
          simp only [Bool.and_eq_true, Bool.not_eq_true', decide_eq_false_iff_not] at hc
          exact ax_newa_ok C0 hI hq (Nat.le_of_ble_eq_true hc.1) (Nat.le_of_ble_eq_true hc.2.1) (Nat.le_of_ble_eq_true hc.2.2.1) hc.2.2.2.1 (Nat.le_of_ble_eq_true hc.2.2.2.2) hd (fun H1 h1 => k ls H1 locs hl h1)
      · cases h
    · cases h
  · rename_i q hd
    unfold ax_sQ at h
    split at h
    · rename_i n r
      split at h
      · rename_i hq
        cases hc : (Nat.blt G.length 55 && (Nat.ble (cells + 1) (ax_rC t) && (Nat.ble (slots + n.toNatClampNeg) (ax_rS t) && (!(decide (n < 0)) && Nat.ble n.toNatClampNeg 1000)))) with
        | false => rw [hc] at h; cases h
        | true =>
          rw [hc] at h
          cases h
          simp only [Bool.and_eq_true, Bool.not_eq_true', decide_eq_false_iff_not] at hc
          exact ax_newq_ok C0 hI hq (Nat.le_of_ble_eq_true hc.1) (Nat.le_of_ble_eq_true hc.2.1) (Nat.le_of_ble_eq_true hc.2.2.1) hc.2.2.2.1 (Nat.le_of_ble_eq_true hc.2.2.2.2) hd (fun H1 h1 => k ls H1 locs hl h1)
      · cases h
    · cases h
  · rename_i hd
    unfold ax_sS at h
    split at h
    · rename_i v i a r
      split at h
      · rename_i n g ha
        split at h
        · rename_i vs hv
          cases hc : (Nat.blt i.toNatClampNeg n && (!(decide (i < 0)) && Nat.beq g.length n)) with
          | false => rw [hc] at h; cases h
          | true =>
            rw [hc] at h
            cases h
            simp only [Bool.and_eq_true, Bool.not_eq_true', decide_eq_false_iff_not] at hc
            exact ax_ast_ok C0 hI ha hv (Nat.le_of_ble_eq_true hc.1) hc.2.1 (Nat.eq_of_beq_eq_true hc.2.2) hd (fun H1 locs1 h1 => k ls H1 locs1 hl h1)
        · cases h
      · cases h
    · cases h
  · rename_i q hd
    unfold ax_sP at h
    split at h
    · rename_i ci kf pl hf
      split at h
      · rename_i v a r
        split at h
        · rename_i cj fs hg
          cases hc : (Nat.beq cj ci && (Nat.beq ci t && (Nat.blt kf fs.length && ax_okv t ci kf v))) with
          | false => rw [hc] at h; cases h
          | true =>
            rw [hc] at h
            cases h
            simp only [Bool.and_eq_true] at hc
            have hcj := Nat.eq_of_beq_eq_true hc.1
            subst hcj
            exact ax_put_ok C0 hI hf (Nat.eq_of_beq_eq_true hc.2.1) hg (Nat.le_of_ble_eq_true hc.2.2.1) hc.2.2.2 hd (fun H1 locs1 h1 => k ls H1 locs1 hl h1)
        · cases h
      · cases h
    · cases h
  · rename_i q hd
    unfold ax_sO at h
    cases hc : (Nat.beq q (ax_oi t) && Nat.blt t 7) with
    | false => rw [hc] at h; cases h
    | true =>
      rw [hc] at h
      simp only [Bool.and_eq_true] at hc
      dsimp only [cond] at h
      split at h
      · cases h
        exact ax_obj_ok C0 hl.1 (Nat.le_of_ble_eq_true hc.2) (Nat.eq_of_beq_eq_true hc.1) hd (k ls H locs hl hI)
      · cases h
  · cases h
/-- several steps -/
def ax_its : Nat → Nat → ax_Cf → Option ax_Cf
  | 0, _, q => some q
  | n + 1, t, q => match ax_stp t q.1 q.2.1 q.2.2.1 q.2.2.2.1 q.2.2.2.2.1 q.2.2.2.2.2 with
    | some q' => ax_its n t q'
    | none => none
end AXS
theorem ax_its_ok {p : Program} {l : Launch} {e : Env} {R : Room} {s : State} {m : MethodId} {args : Array Value} {below : List Frame} {meth : Method} {c : Code} {Q : State → Prop} {D : va_G} {ad : Nat → Nat} {cy : Nat → ClassId} {L : Nat} {xs : Nat → Int32} {base t : Nat} (C0 : ax_Cx D ad cy L xs base t p R s m args meth c) : ∀ (n : Nat) (q q' : ax_Cf), ax_its n t q = some q' → ∀ (ls : Array Slot) (H : Heap) (locs : List Loc), ip_has ad ls (ax_ml t) q.2.1 → ax_I ad cy D base s q.2.2.2.1 H locs q.2.2.2.2.1 →
    (∀ (ls' : Array Slot) (H' : Heap) (locs' : List Loc), ip_has ad ls' (ax_ml t) q'.2.1 → ax_I ad cy D base s q'.2.2.2.1 H' locs' q'.2.2.2.2.1 → W p l e R s m args below meth c H' locs' q'.2.2.2.2.1 q'.2.2.2.2.2 Q (F0 m q'.1 ls' (q'.2.2.1.map (ip_mv ad)))) →
    W p l e R s m args below meth c H locs q.2.2.2.2.1 q.2.2.2.2.2 Q (F0 m q.1 ls (q.2.2.1.map (ip_mv ad)))
  | 0, q, q', h, ls, H, locs, hl, hI, k => by
    cases h
    exact k ls H locs hl hI
  | n + 1, q, q', h, ls, H, locs, hl, hI, k => by
    unfold ax_its at h
    split at h
    · rename_i q1 h1
      exact ax_stp_ok C0 hl hI (by rw [h1]) (fun ls' H' locs' hl' hI' => ax_its_ok C0 n q1 q' h ls' H' locs' hl' hI' k)
    · cases h
