theorem ip_ar_kd : (List.range 64).all (fun c => match ip_ar c with
  | none => true
  | some q => Nat.blt q.1 7) = true := by decide +kernel
theorem ip_ar_kind {c : Nat} {q : Nat × Nat} (h : ip_ar c = some q) : q.1 < 7 := by
  cases h1 : Nat.blt c 64 with
  | false =>
    unfold ip_ar at h
    rw [h1] at h
    cases h
  | true =>
    have h2 := List.all_eq_true.mp ip_ar_kd c (List.mem_range.mpr (Nat.le_of_ble_eq_true h1))
    rw [h] at h2
    exact Nat.le_of_ble_eq_true h2
/-! ===== one step of the small machine is a step of the large one ===== -/
def ip_K (D : va_G) (ad : Nat → Nat) (cy : Nat → ClassId) (L : Nat) (xs : Nat → Int32) (U : State) : Prop :=
  va_K D ip_cl (ip_tys cy) U ∧ (∀ w ∈ ip_nw, va_Nw w U) ∧ (∀ d, 55 ≤ d → d ≤ 57 → va_Z "AccusedAsks" (ip_slN d).1 (ip_slN d).2 (.ref (ad d)) (ip_In ad) U U.heap) ∧
  va_T .long (ad 55) 6 (fun j => .long (ip_tL 55 j)) (ip_In ad) U U.heap ∧ (∀ d, d = 56 ∨ d = 57 → va_T .int (ad d) 5 (fun j => .int (ip_tI d j)) (ip_In ad) U U.heap) ∧
  va_X (ad 58) L xs U U.heap ∧ ad 58 < U.heap.size ∧ ¬ ip_In ad (ad 58) ∧ L < 2 ^ 31
def ip_Sc (L : Nat) (xs : Nat → Int32) (S : ip_St) : Prop := S.1 59 0 = Int32.ofNat L ∧ ∀ j, j < L → S.1 58 j = xs j
theorem ip_Sc_I {L : Nat} {xs : Nat → Int32} {S : ip_St} {c k : Nat} {v : Int32} (h : ip_Sc L xs S) (hc : c < 55) : ip_Sc L xs (ip_upI S c k v) := by
  refine ⟨?_, fun j hj => ?_⟩
  · rw [ip_upI_ne S k v (show 59 ≠ c by omega)]; exact h.1
  · rw [ip_upI_ne S k v (show 58 ≠ c by omega)]; exact h.2 j hj
theorem ip_Sc_L {L : Nat} {xs : Nat → Int32} {S : ip_St} {c k : Nat} {v : Int64} (h : ip_Sc L xs S) : ip_Sc L xs (ip_upL S c k v) := h
def ip_Cx (D : va_G) (ad : Nat → Nat) (cy : Nat → ClassId) (L : Nat) (xs : Nat → Int32) (mi : Nat) (p : Program) (R : Room) (s : State) (m : MethodId) (args : Array Value) (c : Code) (cells slots : Nat) : Prop :=
  p.tables.exec = Jvm.exec ∧ c.code = ip_cc mi ∧ c.maxLocals = ip_ml mi ∧ s.vm.findClass (ip_on (ip_ow mi)) = some m.cls ∧ (∀ w ∈ ip_gw, w.before args s = true) ∧ ip_K D ad cy L xs s ∧ ip_inj ad ∧ ip_rF mi ≤ R.frames ∧ ip_rL mi ≤ R.locals ∧ cells ≤ R.cells ∧ slots ≤ R.slots
theorem ip_tg_eq {pc t : Nat} {off : Int} (h : ip_tg pc off = some t) : (pc : Int) + off = (t : Int) := by
  unfold ip_tg at h
  split at h
  · rename_i t' ht
    cases h
    exact ht
  · cases h
theorem ip_isB_or {x : Int32} (h : ip_isB x = true) : x = 0 ∨ x = 1 := by
  unfold ip_isB at h
  simpa using h
theorem ip_ce_ob {ad : Nat → Nat} {cy : Nat → ClassId} {S : ip_St} {c ci : Nat} (h : ip_ob c = some ci) : ip_ce ad cy S c = .inr (ci, (List.range (ip_nf ci)).map (fun k => ip_fv ad S c ci k)) := by
  unfold ip_ce
  rw [h]
theorem ip_nf_eq {ci : Nat} {r : vw_C} (h : ip_cl[ci]? = some r) : ip_nf ci = r.2.2 := by
  unfold ip_nf
  rw [h]
theorem ip_fs_at {ad : Nat → Nat} {S : ip_St} {c ci k : Nat} {r : vw_C} (h : ip_cl[ci]? = some r) (hk : k < r.2.2) : ((List.range (ip_nf ci)).map (fun k => ip_fv ad S c ci k))[k]? = some (ip_fv ad S c ci k) := by
  rw [List.getElem?_map, List.getElem?_range (by rw [ip_nf_eq h]; exact hk)]
  rfl
theorem ip_ce_I {ad : Nat → Nat} {cy : Nat → ClassId} {S : ip_St} {c n : Nat} (h : ip_ar c = some (0, n)) : ip_ce ad cy S c = .inl (cy 0, n, .inl (S.1 c)) := by
  unfold ip_ce
  rw [(ip_ar_lt h).1, h]
  rfl
theorem ip_ce_L {ad : Nat → Nat} {cy : Nat → ClassId} {S : ip_St} {c n : Nat} (h : ip_ar c = some (1, n)) : ip_ce ad cy S c = .inl (cy 1, n, .inr (.inl (S.2 c))) := by
  unfold ip_ce
  rw [(ip_ar_lt h).1, h]
  rfl
theorem ip_ce_Z {ad : Nat → Nat} {cy : Nat → ClassId} {S : ip_St} {c n : Nat} (h : ip_ar c = some (2, n)) : ip_ce ad cy S c = .inl (cy 2, n, .inl (S.1 c)) := by
  unfold ip_ce
  rw [(ip_ar_lt h).1, h]
  rfl
theorem ip_ce_A {ad : Nat → Nat} {cy : Nat → ClassId} {S : ip_St} {c n : Nat} (h : ip_ar c = some (3, n)) : ip_ce ad cy S c = .inl (cy 3, n, .inr (.inr (.inr (.inr (fun k => (ip_rf c k).map ad))))) := by
  unfold ip_ce
  rw [(ip_ar_lt h).1, h]
  rfl
section IPS
variable {p : Program} {l : Launch} {e : Env} {R : Room} {s : State} {m : MethodId} {args : Array Value} {below : List Frame} {meth : Method} {c : Code} {cells slots : Nat} {Q : State → Prop}
variable {D : va_G} {ad : Nat → Nat} {cy : Nat → ClassId} {L : Nat} {xs : Nat → Int32}
variable {mi pc : Nat} {ls : Array Slot} {rest : List Value} {H : Heap} {locs : List Loc} {S : ip_St}
/-- a field read -/
theorem ip_gf_ok (C0 : ip_Cx D ad cy L xs mi p R s m args c cells slots) (hP : va_P D ip_cl (ip_ws ad cy S) H) {q ci k pl a : Nat} {nst : Bool} (hf : ip_flk (ip_ow mi) q = some (ci, k, nst, pl)) (ho : ip_ob a = some ci) (hd : decode (ip_cc mi) pc = .ok (.getfield q, 3))
    (kk : W p l e R s m args below meth c H locs cells slots Q (F0 m (pc + 3) ls (ip_fv ad S a ci k :: rest))) : W p l e R s m args below meth c H locs cells slots Q (F0 m pc ls (.ref (ad a) :: rest)) := by
  obtain ⟨hx, hb, hml, hown, hts, ⟨hK, hNW, -⟩, -⟩ := C0
  obtain ⟨hw, r, hr, hk⟩ := ip_flk_ok hf
  dsimp only at hw hr hk
  unfold ip_flW at hw
  rw [hr] at hw
  have he : (ip_ws ad cy S)[a]? = some (ad a, .inr (ci, (List.range (ip_nf ci)).map (fun k => ip_fv ad S a ci k))) := by
    rw [ip_ws_at ad cy S (ip_ob_lt ho).1, ip_ce_ob ho]
  cases nst with
  | false => exact va_get (C := r.1) (T := r.2.1) (N := r.2.2) hx hb hts (ip_uw hr) hown hK hP a he hr k hk (hts _ (ip_gw_at hw rfl)) (fun _ h => h) (ip_fs_at hr hk) hd kk
  | true => exact va_getN (C := r.1) (T := r.2.1) (N := r.2.2) hx hb hts (ip_uw hr) hown hK hP a he hr k hk (va_Nw.use rfl (hNW _ (ip_nw_at hw rfl))) (fun _ h => h) (ip_fs_at hr hk) hd kk
/-- a field written -/
theorem ip_pf_ok (C0 : ip_Cx D ad cy L xs mi p R s m args c cells slots) (hP : va_P D ip_cl (ip_ws ad cy S) H) (hS : va_S (ip_In ad) s.heap H locs) {q ci k pl a : Nat} {nst : Bool} {v : Value} (hf : ip_flk (ip_ow mi) q = some (ci, k, nst, pl)) (ho : ip_ob a = some ci) (ht : ip_ty ci k < 3) (hn : narrow (ip_tf (ip_ty ci k)) v = v) (hfit : fits (ip_tf (ip_ty ci k)) v = true) (hd : decode (ip_cc mi) pc = .ok (.putfield q, 3))
    (kk : ∀ (H1 : Heap) (locs1 : List Loc), va_P D ip_cl ((ip_ws ad cy S).set a (ad a, .inr (ci, ((List.range (ip_nf ci)).map (fun k => ip_fv ad S a ci k)).set k v))) H1 → va_S (ip_In ad) s.heap H1 locs1 → W p l e R s m args below meth c H1 locs1 cells slots Q (F0 m (pc + 3) ls rest)) : W p l e R s m args below meth c H locs cells slots Q (F0 m pc ls (v :: .ref (ad a) :: rest)) := by
  obtain ⟨hx, hb, hml, hown, hts, ⟨hK, hNW, -⟩, hinj, -⟩ := C0
  obtain ⟨hw, r, hr, hk⟩ := ip_flk_ok hf
  dsimp only at hw hr hk
  unfold ip_flW at hw
  rw [hr] at hw
  have he : (ip_ws ad cy S)[a]? = some (ad a, .inr (ci, (List.range (ip_nf ci)).map (fun k => ip_fv ad S a ci k))) := by
    rw [ip_ws_at ad cy S (ip_ob_lt ho).1, ip_ce_ob ho]
  obtain ⟨-, ty0, hty, hnm, hc3⟩ := ip_cls hr
  have hD := ip_D ad cy S hinj
  have hfl : k < ((List.range (ip_nf ci)).map (fun k => ip_fv ad S a ci k)).length := by
    rw [List.length_map, List.length_range, ip_nf_eq hr]; exact hk
  rcases hc3 k hk with h3 | ⟨h3, h4, -⟩
  · omega
  · have hd2 := hty k hk
    rw [h4] at hd2
    cases nst with
    | false => exact va_put (C := r.1) (T := r.2.1) (N := r.2.2) hx hb hts (ip_uw hr) ty0 hty hnm hown hK hP hD hS a he hr k hk (hts _ (ip_gw_at hw rfl)) (fun _ h => h) h3 hd2 hn hfit hfl hd (fun H1 locs1 h1 _ h2 => kk H1 locs1 h1 h2)
    | true => exact va_putN (C := r.1) (T := r.2.1) (N := r.2.2) hx hb hts (ip_uw hr) ty0 hty hnm hown hK hP hD hS a he hr k hk (va_Nw.use rfl (hNW _ (ip_nw_at hw rfl))) (fun _ h => h) h3 hd2 hn hfit hfl hd (fun H1 locs1 h1 _ h2 => kk H1 locs1 h1 h2)
theorem ip_gs_ok (C0 : ip_Cx D ad cy L xs mi p R s m args c cells slots) (hS : va_S (ip_In ad) s.heap H locs) {q d pl : Nat} {nst : Bool} (hf : ip_slk (ip_ow mi) q = some (d, nst, pl)) (hd : decode (ip_cc mi) pc = .ok (.getstatic q, 3))
    (kk : W p l e R s m args below meth c H locs cells slots Q (F0 m (pc + 3) ls (.ref (ad d) :: rest))) : W p l e R s m args below meth c H locs cells slots Q (F0 m pc ls rest) := by
  obtain ⟨hx, hb, hml, hown, hts, ⟨hK, hNW, hZ, -⟩, -⟩ := C0
  obtain ⟨hw, h1, h2⟩ := ip_slk_ok hf
  dsimp only at hw h1 h2
  unfold ip_slW at hw
  cases nst with
  | false => exact va_gets hx hb (hZ d h1 h2) hS hown (hts _ (ip_gw_at hw rfl)) (fun _ h => h) hd kk
  | true => exact va_getsN hx hb (hZ d h1 h2) hS hown (va_Nw.use rfl (hNW _ (ip_nw_at hw rfl))) (fun _ h => h) hd kk
set_option maxHeartbeats 4000000 in
set_option maxRecDepth 100000 in
theorem ip_stp_ok (C0 : ip_Cx D ad cy L xs mi p R s m args c cells slots) {lv : ip_LV} {st : List Value} (hl : ip_has ad ls (ip_ml mi) lv) (hP : va_P D ip_cl (ip_ws ad cy S) H) (hS : va_S (ip_In ad) s.heap H locs) (hSc : ip_Sc L xs S)
    {pc' : Nat} {lv' : ip_LV} {st' : List Value} {S' : ip_St} (h : ip_stp mi pc lv st S = some (pc', lv', st', S'))
    (k : ∀ (ls' : Array Slot) (H' : Heap) (locs' : List Loc), ip_has ad ls' (ip_ml mi) lv' → va_P D ip_cl (ip_ws ad cy S') H' → va_S (ip_In ad) s.heap H' locs' → ip_Sc L xs S' → W p l e R s m args below meth c H' locs' cells slots Q (F0 m pc' ls' (st'.map (ip_mv ad)))) :
    W p l e R s m args below meth c H locs cells slots Q (F0 m pc ls (st.map (ip_mv ad))) := by
  obtain ⟨hx, hb, hml, hown, hts, ⟨hK, hNW, hZ, hT1, hT2, hX, hbl, hbA, hL⟩, hinj, hRf, hRl, hcl, hsl⟩ := id C0
  unfold ip_stp at h
  cases hi : ip_ins mi pc with
  | none =>
    rw [hi] at h
    cases h
  | some q =>
    obtain ⟨i, len⟩ := q
    rw [hi] at h
    obtain ⟨-, hd, hn⟩ := ip_dec hi
    dsimp only at h hn
    cases i with
    | aload_n j =>
      obtain rfl : len = 1 := Nat.eq_of_beq_eq_true hn
      change ip_ldA (pc + 1) lv j.val st S = some _ at h
      unfold ip_ldA at h
      split at h
      · rename_i x hat
        cases h
        exact lv_aload_n hx hb hd rfl (hl.2.2.2 _ _ hat) (k ls H locs hl hP hS hSc)
      · cases h
    | aload j =>
      obtain rfl : len = 2 := Nat.eq_of_beq_eq_true hn
      change ip_ldA (pc + 2) lv j st S = some _ at h
      unfold ip_ldA at h
      split at h
      · rename_i x hat
        cases h
        exact lv_aload hx hb hd (hl.2.2.2 _ _ hat) (k ls H locs hl hP hS hSc)
      · cases h
    | iload_n j =>
      obtain rfl : len = 1 := Nat.eq_of_beq_eq_true hn
      change ip_ldI (pc + 1) lv j.val st S = some _ at h
      unfold ip_ldI at h
      split at h
      · rename_i x hat
        cases h
        exact lv_iload_n hx hb hd rfl (hl.2.2.2 _ _ hat) (k ls H locs hl hP hS hSc)
      · cases h
    | iload j =>
      obtain rfl : len = 2 := Nat.eq_of_beq_eq_true hn
      change ip_ldI (pc + 2) lv j st S = some _ at h
      unfold ip_ldI at h
      split at h
      · rename_i x hat
        cases h
        exact lv_iload hx hb hd (hl.2.2.2 _ _ hat) (k ls H locs hl hP hS hSc)
      · cases h
    | lload_n j =>
      obtain rfl : len = 1 := Nat.eq_of_beq_eq_true hn
      change ip_ldL (pc + 1) lv j.val st S = some _ at h
      unfold ip_ldL at h
      split at h
      · rename_i x hat
        cases h
        exact lv_lload_n hx hb hd rfl (hl.2.2.2 _ _ hat) (k ls H locs hl hP hS hSc)
      · cases h
    | lload j =>
      obtain rfl : len = 2 := Nat.eq_of_beq_eq_true hn
      change ip_ldL (pc + 2) lv j st S = some _ at h
      unfold ip_ldL at h
      split at h
      · rename_i x hat
        cases h
        exact lv_lload hx hb hd (hl.2.2.2 _ _ hat) (k ls H locs hl hP hS hSc)
      · cases h
    | istore_n j =>
      obtain rfl : len = 1 := Nat.eq_of_beq_eq_true hn
      change ip_stI (pc + 1) lv j.val st S = some _ at h
      unfold ip_stI at h
      split at h
      · split at h
        · rename_i lv1 h1
          cases h
          exact lv_istore_n hx hb hd rfl (ip_has_lv hl) (by rw [← hl.2.2.1]; exact ip_s1_lt h1) rfl (fun ls' hl' => k ls' H locs (ip_s1_has hl.2.2.1 h1 hl') hP hS hSc)
        · cases h
      · cases h
    | istore j =>
      obtain rfl : len = 2 := Nat.eq_of_beq_eq_true hn
      change ip_stI (pc + 2) lv j st S = some _ at h
      unfold ip_stI at h
      split at h
      · split at h
        · rename_i lv1 h1
          cases h
          exact lv_istore hx hb hd (ip_has_lv hl) (by rw [← hl.2.2.1]; exact ip_s1_lt h1) rfl (fun ls' hl' => k ls' H locs (ip_s1_has hl.2.2.1 h1 hl') hP hS hSc)
        · cases h
      · cases h
    | astore_n j =>
      obtain rfl : len = 1 := Nat.eq_of_beq_eq_true hn
      change ip_stA (pc + 1) lv j.val st S = some _ at h
      unfold ip_stA at h
      split at h
      · split at h
        · rename_i lv1 h1
          cases h
          exact lv_astore_n hx hb hd rfl (ip_has_lv hl) (by rw [← hl.2.2.1]; exact ip_s1_lt h1) rfl (fun ls' hl' => k ls' H locs (ip_s1_has hl.2.2.1 h1 hl') hP hS hSc)
        · cases h
      · cases h
    | astore j =>
      obtain rfl : len = 2 := Nat.eq_of_beq_eq_true hn
      change ip_stA (pc + 2) lv j st S = some _ at h
      unfold ip_stA at h
      split at h
      · split at h
        · rename_i lv1 h1
          cases h
          exact lv_astore hx hb hd (ip_has_lv hl) (by rw [← hl.2.2.1]; exact ip_s1_lt h1) rfl (fun ls' hl' => k ls' H locs (ip_s1_has hl.2.2.1 h1 hl') hP hS hSc)
        · cases h
      · cases h
    | lstore_n j =>
      obtain rfl : len = 1 := Nat.eq_of_beq_eq_true hn
      change ip_stL (pc + 1) lv j.val st S = some _ at h
      unfold ip_stL at h
      split at h
      · split at h
        · rename_i lv1 h1
          cases h
          exact lv_lstore_n hx hb hd rfl (ip_has_lv hl) (by rw [← hl.2.2.1]; exact ip_s2_lt h1) rfl (fun ls' hl' => k ls' H locs (ip_s2_has hl.2.2.1 h1 hl') hP hS hSc)
        · cases h
      · cases h
    | lstore j =>
      obtain rfl : len = 2 := Nat.eq_of_beq_eq_true hn
      change ip_stL (pc + 2) lv j st S = some _ at h
      unfold ip_stL at h
      split at h
      · split at h
        · rename_i lv1 h1
          cases h
          exact lv_lstore hx hb hd (ip_has_lv hl) (by rw [← hl.2.2.1]; exact ip_s2_lt h1) rfl (fun ls' hl' => k ls' H locs (ip_s2_has hl.2.2.1 h1 hl') hP hS hSc)
        · cases h
      · cases h
    | iinc j n =>
      obtain rfl : len = 3 := Nat.eq_of_beq_eq_true hn
      change ip_inc (pc + 3) lv j n st S = some _ at h
      unfold ip_inc at h
      split at h
      · rename_i x hat
        split at h
        · rename_i lv1 h1
          cases h
          obtain ⟨kk, hkk⟩ := List.getElem?_of_mem ((ip_pv_mem (ad := ad)).mpr ⟨ip_at_lt hat, _, hat, rfl⟩ : ((j, Value.int x) : Nat × Value) ∈ ip_pv ad lv)
          exact lv_iinc hx hb hd (ip_has_lv hl) hkk rfl (by rw [← hl.2.2.1]; exact ip_s1_lt h1) rfl (fun ls' hl' => k ls' H locs (ip_s1_has hl.2.2.1 h1 hl') hP hS hSc)
        · cases h
      · cases h
    | iconst n =>
      obtain rfl : len = 1 := Nat.eq_of_beq_eq_true hn
      cases h
      exact lv_iconst hx hb hd rfl (k ls H locs hl hP hS hSc)
    | bipush n =>
      obtain rfl : len = 2 := Nat.eq_of_beq_eq_true hn
      cases h
      exact lv_bipush hx hb hd rfl (k ls H locs hl hP hS hSc)
    | sipush n =>
      obtain rfl : len = 3 := Nat.eq_of_beq_eq_true hn
      cases h
      exact lv_sipush hx hb hd rfl (k ls H locs hl hP hS hSc)
    | lconst n =>
      obtain rfl : len = 1 := Nat.eq_of_beq_eq_true hn
      cases h
      exact lv_lconst hx hb hd rfl (k ls H locs hl hP hS hSc)
    | ldc_w q =>
      obtain rfl : len = 3 := Nat.eq_of_beq_eq_true hn
      change ip_kcI mi (pc + 3) q lv st S = some _ at h
      unfold ip_kcI at h
      split at h
      · rename_i v pl hq
        cases h
        exact lv_ldcw hx hb hown (hts _ (ip_gw_at (ip_kIk_ok hq) rfl)) hd (k ls H locs hl hP hS hSc)
      · cases h
    | ldc2_w q =>
      obtain rfl : len = 3 := Nat.eq_of_beq_eq_true hn
      change ip_kcL mi (pc + 3) q lv st S = some _ at h
      unfold ip_kcL at h
      split at h
      · rename_i v pl hq
        cases h
        exact lv_ldc2 hx hb hown (hts _ (ip_gw_at (ip_kLk_ok hq) rfl)) hd (k ls H locs hl hP hS hSc)
      · cases h
    | iadd =>
      obtain rfl : len = 1 := Nat.eq_of_beq_eq_true hn
      change ip_bI _ (pc + 1) lv st S = some _ at h
      unfold ip_bI at h
      split at h
      · cases h
        exact lv_iadd hx hb hd (k ls H locs hl hP hS hSc)
      · cases h
    | isub =>
      obtain rfl : len = 1 := Nat.eq_of_beq_eq_true hn
      change ip_bI _ (pc + 1) lv st S = some _ at h
      unfold ip_bI at h
      split at h
      · cases h
        exact lv_isub hx hb hd (k ls H locs hl hP hS hSc)
      · cases h
    | imul =>
      obtain rfl : len = 1 := Nat.eq_of_beq_eq_true hn
      change ip_bI _ (pc + 1) lv st S = some _ at h
      unfold ip_bI at h
      split at h
      · cases h
        exact lv_imul hx hb hd (k ls H locs hl hP hS hSc)
      · cases h
    | iand =>
      obtain rfl : len = 1 := Nat.eq_of_beq_eq_true hn
      change ip_bI _ (pc + 1) lv st S = some _ at h
      unfold ip_bI at h
      split at h
      · cases h
        exact lv_iand hx hb hd (k ls H locs hl hP hS hSc)
      · cases h
    | ior =>
      obtain rfl : len = 1 := Nat.eq_of_beq_eq_true hn
      change ip_bI _ (pc + 1) lv st S = some _ at h
      unfold ip_bI at h
      split at h
      · cases h
        exact lv_ior hx hb hd (k ls H locs hl hP hS hSc)
      · cases h
    | ixor =>
      obtain rfl : len = 1 := Nat.eq_of_beq_eq_true hn
      change ip_bI _ (pc + 1) lv st S = some _ at h
      unfold ip_bI at h
      split at h
      · cases h
        exact lv_ixor hx hb hd (k ls H locs hl hP hS hSc)
      · cases h
    | ishl =>
      obtain rfl : len = 1 := Nat.eq_of_beq_eq_true hn
      change ip_bI _ (pc + 1) lv st S = some _ at h
      unfold ip_bI at h
      split at h
      · cases h
        exact lv_ishl hx hb hd (k ls H locs hl hP hS hSc)
      · cases h
    | ishr =>
      obtain rfl : len = 1 := Nat.eq_of_beq_eq_true hn
      change ip_bI _ (pc + 1) lv st S = some _ at h
      unfold ip_bI at h
      split at h
      · cases h
        exact lv_ishr hx hb hd (k ls H locs hl hP hS hSc)
      · cases h
    | iushr =>
      obtain rfl : len = 1 := Nat.eq_of_beq_eq_true hn
      change ip_bI _ (pc + 1) lv st S = some _ at h
      unfold ip_bI at h
      split at h
      · cases h
        exact lv_iushr hx hb hd rfl (k ls H locs hl hP hS hSc)
      · cases h
    | ladd =>
      obtain rfl : len = 1 := Nat.eq_of_beq_eq_true hn
      change ip_bL _ (pc + 1) lv st S = some _ at h
      unfold ip_bL at h
      split at h
      · cases h
        exact lv_ladd hx hb hd (k ls H locs hl hP hS hSc)
      · cases h
    | lsub =>
      obtain rfl : len = 1 := Nat.eq_of_beq_eq_true hn
      change ip_bL _ (pc + 1) lv st S = some _ at h
      unfold ip_bL at h
      split at h
      · cases h
        exact lv_lsub hx hb hd (k ls H locs hl hP hS hSc)
      · cases h
    | lmul =>
      obtain rfl : len = 1 := Nat.eq_of_beq_eq_true hn
      change ip_bL _ (pc + 1) lv st S = some _ at h
      unfold ip_bL at h
      split at h
      · cases h
        exact lv_lmul hx hb hd (k ls H locs hl hP hS hSc)
      · cases h
    | land =>
      obtain rfl : len = 1 := Nat.eq_of_beq_eq_true hn
      change ip_bL _ (pc + 1) lv st S = some _ at h
      unfold ip_bL at h
      split at h
      · cases h
        exact lv_land hx hb hd (k ls H locs hl hP hS hSc)
      · cases h
    | lor =>
      obtain rfl : len = 1 := Nat.eq_of_beq_eq_true hn
      change ip_bL _ (pc + 1) lv st S = some _ at h
      unfold ip_bL at h
      split at h
      · cases h
        exact lv_lor hx hb hd (k ls H locs hl hP hS hSc)
      · cases h
    | lxor =>
      obtain rfl : len = 1 := Nat.eq_of_beq_eq_true hn
      change ip_bL _ (pc + 1) lv st S = some _ at h
      unfold ip_bL at h
      split at h
      · cases h
        exact lv_lxor hx hb hd (k ls H locs hl hP hS hSc)
      · cases h
    | lshl =>
      obtain rfl : len = 1 := Nat.eq_of_beq_eq_true hn
      change ip_sL _ (pc + 1) lv st S = some _ at h
      unfold ip_sL at h
      split at h
      · cases h
        exact lv_lshl hx hb hd rfl (k ls H locs hl hP hS hSc)
      · cases h
    | lshr =>
      obtain rfl : len = 1 := Nat.eq_of_beq_eq_true hn
      change ip_sL _ (pc + 1) lv st S = some _ at h
      unfold ip_sL at h
      split at h
      · cases h
        exact lv_lshr hx hb hd rfl (k ls H locs hl hP hS hSc)
      · cases h
    | lushr =>
      obtain rfl : len = 1 := Nat.eq_of_beq_eq_true hn
      change ip_sL _ (pc + 1) lv st S = some _ at h
      unfold ip_sL at h
      split at h
      · cases h
        exact lv_lushr hx hb hd rfl (k ls H locs hl hP hS hSc)
      · cases h
    | idiv =>
      obtain rfl : len = 1 := Nat.eq_of_beq_eq_true hn
      change ip_bD _ (pc + 1) lv st S = some _ at h
      unfold ip_bD at h
      split at h
      · rename_i y x r
        by_cases hy : y = 0
        · rw [show decide (y = 0) = true from decide_eq_true hy] at h
          cases h
        · rw [show decide (y = 0) = false from decide_eq_false hy] at h
          cases h
          exact lv_idiv hx hb hd hy (k ls H locs hl hP hS hSc)
      · cases h
    | irem =>
      obtain rfl : len = 1 := Nat.eq_of_beq_eq_true hn
      change ip_bD _ (pc + 1) lv st S = some _ at h
      unfold ip_bD at h
      split at h
      · rename_i y x r
        by_cases hy : y = 0
        · rw [show decide (y = 0) = true from decide_eq_true hy] at h
          cases h
        · rw [show decide (y = 0) = false from decide_eq_false hy] at h
          cases h
          exact lv_irem hx hb hd hy (k ls H locs hl hP hS hSc)
      · cases h
    | lcmp =>
      obtain rfl : len = 1 := Nat.eq_of_beq_eq_true hn
      change ip_bC (pc + 1) lv st S = some _ at h
      unfold ip_bC at h
      split at h
      · cases h
        exact W.lcmp hx hb hd (k ls H locs hl hP hS hSc)
      · cases h
    | i2l =>
      obtain rfl : len = 1 := Nat.eq_of_beq_eq_true hn
      unfold ip_ex at h
      dsimp only at h
      split at h
      · cases h
        exact lv_i2l hx hb hd rfl (k ls H locs hl hP hS hSc)
      · cases h
    | l2i =>
      obtain rfl : len = 1 := Nat.eq_of_beq_eq_true hn
      unfold ip_ex at h
      dsimp only at h
      split at h
      · cases h
        exact lv_l2i hx hb hd rfl (k ls H locs hl hP hS hSc)
      · cases h
    | dup =>
      obtain rfl : len = 1 := Nat.eq_of_beq_eq_true hn
      change ip_du1 (pc + 1) lv st S = some _ at h
      unfold ip_du1 at h
      split at h
      · cases h
        exact lv_dup hx hb hd rfl (k ls H locs hl hP hS hSc)
      · cases h
        exact lv_dup hx hb hd rfl (k ls H locs hl hP hS hSc)
      · cases h
    | dup2 =>
      obtain rfl : len = 1 := Nat.eq_of_beq_eq_true hn
      change ip_du2 (pc + 1) lv st S = some _ at h
      unfold ip_du2 at h
      split at h
      · cases h
        exact lv_dup2_11 hx hb hd rfl rfl (k ls H locs hl hP hS hSc)
      · cases h
    | goto off =>
      obtain rfl : len = 3 := Nat.eq_of_beq_eq_true hn
      change ip_jp pc off lv st S = some _ at h
      unfold ip_jp at h
      split at h
      · rename_i t ht
        cases h
        exact lv_goto hx hb hd (ip_tg_eq ht) (k ls H locs hl hP hS hSc)
      · cases h
    | ifCond cd off =>
      obtain rfl : len = 3 := Nat.eq_of_beq_eq_true hn
      change ip_if1 cd pc off lv st S = some _ at h
      unfold ip_if1 at h
      split at h
      · rename_i x r
        unfold ip_br at h
        split at h
        · rename_i t ht
          cases h
          have kk := k ls H locs hl hP hS hSc
          cases cd with
          | eq =>
            refine lv_if_eq (tgt := t) hx hb hd (ip_tg_eq ht) (fun hc => ?_) (fun hc => ?_)
            · rw [show ip_cnd .eq x 0 = true from by simp [ip_cnd, hc]] at kk
              exact kk
            · rw [show ip_cnd .eq x 0 = false from by simp [ip_cnd, hc]] at kk
              exact kk
          | ne =>
            refine lv_if_ne (tgt := t) hx hb hd (ip_tg_eq ht) (fun hc => ?_) (fun hc => ?_)
            · rw [show ip_cnd .ne x 0 = true from by simp [ip_cnd, hc]] at kk
              exact kk
            · rw [show ip_cnd .ne x 0 = false from by simp [ip_cnd, hc]] at kk
              exact kk
          | lt =>
            refine lv_if_lt (tgt := t) hx hb hd (ip_tg_eq ht) (fun hc => ?_) (fun hc => ?_)
            · rw [show ip_cnd .lt x 0 = true from by simp [ip_cnd, hc]] at kk
              exact kk
            · rw [show ip_cnd .lt x 0 = false from by simp [ip_cnd, hc]] at kk
              exact kk
          | ge =>
            refine lv_if_ge (tgt := t) hx hb hd (ip_tg_eq ht) (fun hc => ?_) (fun hc => ?_)
            · rw [show ip_cnd .ge x 0 = true from by simp [ip_cnd, hc]] at kk
              exact kk
            · rw [show ip_cnd .ge x 0 = false from by simp [ip_cnd, hc]] at kk
              exact kk
          | gt =>
            refine lv_if_gt (tgt := t) hx hb hd (ip_tg_eq ht) (fun hc => ?_) (fun hc => ?_)
            · rw [show ip_cnd .gt x 0 = true from by simp [ip_cnd, hc]] at kk
              exact kk
            · rw [show ip_cnd .gt x 0 = false from by simp [ip_cnd, hc]] at kk
              exact kk
          | le =>
            refine lv_if_le (tgt := t) hx hb hd (ip_tg_eq ht) (fun hc => ?_) (fun hc => ?_)
            · rw [show ip_cnd .le x 0 = true from by simp [ip_cnd, hc]] at kk
              exact kk
            · rw [show ip_cnd .le x 0 = false from by simp [ip_cnd, hc]] at kk
              exact kk
        · cases h
      · cases h
    | if_icmp cd off =>
      obtain rfl : len = 3 := Nat.eq_of_beq_eq_true hn
      change ip_if2 cd pc off lv st S = some _ at h
      unfold ip_if2 at h
      split at h
      · rename_i y x r
        unfold ip_br at h
        split at h
        · rename_i t ht
          cases h
          have kk := k ls H locs hl hP hS hSc
          cases cd with
          | eq =>
            refine lv_icmp_eq (tgt := t) hx hb hd (ip_tg_eq ht) (fun hc => ?_) (fun hc => ?_)
            · rw [show ip_cnd .eq x y = true from by simp [ip_cnd, hc]] at kk
              exact kk
            · rw [show ip_cnd .eq x y = false from by simp [ip_cnd, hc]] at kk
              exact kk
          | ne =>
            refine lv_icmp_ne (tgt := t) hx hb hd (ip_tg_eq ht) (fun hc => ?_) (fun hc => ?_)
            · rw [show ip_cnd .ne x y = true from by simp [ip_cnd, hc]] at kk
              exact kk
            · rw [show ip_cnd .ne x y = false from by simp [ip_cnd, hc]] at kk
              exact kk
          | lt =>
            refine lv_icmp_lt (tgt := t) hx hb hd (ip_tg_eq ht) (fun hc => ?_) (fun hc => ?_)
            · rw [show ip_cnd .lt x y = true from by simp [ip_cnd, hc]] at kk
              exact kk
            · rw [show ip_cnd .lt x y = false from by simp [ip_cnd, hc]] at kk
              exact kk
          | ge =>
            refine lv_icmp_ge (tgt := t) hx hb hd (ip_tg_eq ht) (fun hc => ?_) (fun hc => ?_)
            · rw [show ip_cnd .ge x y = true from by simp [ip_cnd, hc]] at kk
              exact kk
            · rw [show ip_cnd .ge x y = false from by simp [ip_cnd, hc]] at kk
              exact kk
          | gt =>
            refine lv_icmp_gt (tgt := t) hx hb hd (ip_tg_eq ht) (fun hc => ?_) (fun hc => ?_)
            · rw [show ip_cnd .gt x y = true from by simp [ip_cnd, hc]] at kk
              exact kk
            · rw [show ip_cnd .gt x y = false from by simp [ip_cnd, hc]] at kk
              exact kk
          | le =>
            refine lv_icmp_le (tgt := t) hx hb hd (ip_tg_eq ht) (fun hc => ?_) (fun hc => ?_)
            · rw [show ip_cnd .le x y = true from by simp [ip_cnd, hc]] at kk
              exact kk
            · rw [show ip_cnd .le x y = false from by simp [ip_cnd, hc]] at kk
              exact kk
        · cases h
      · cases h
    | tableswitch df lo hgh offs =>
      change ip_ts df lo hgh offs pc lv st S = some _ at h
      unfold ip_ts at h
      split at h
      · rename_i x r
        split at h
        · rename_i off ho
          unfold ip_jp at h
          split at h
          · rename_i t ht
            cases h
            unfold ip_tsO at ho
            cases hc : (decide (x.toInt < lo) || decide (hgh < x.toInt)) with
            | true =>
              rw [hc] at ho
              cases ho
              simp only [Bool.or_eq_true, decide_eq_true_eq] at hc
              exact lv_tableOut hx hb hd hc (ip_tg_eq ht) (k ls H locs hl hP hS hSc)
            | false =>
              rw [hc] at ho
              simp only [Bool.or_eq_false_iff, decide_eq_false_iff_not] at hc
              exact lv_tableIn hx hb hd hc.1 hc.2 ho (ip_tg_eq ht) (k ls H locs hl hP hS hSc)
          · cases h
        · cases h
      · cases h
    | lookupswitch df ps =>
      change ip_ls df ps pc lv st S = some _ at h
      unfold ip_ls at h
      split at h
      · rename_i x r
        cases hc : ((ps.toList.zip (ps.toList.drop 1)).all (fun (a, next) => a.1 < next.1)) with
        | false =>
          rw [hc] at h
          cases h
        | true =>
          rw [hc] at h
          change ip_jp pc (Op.lookupswitch.offset ps.toList df x.toInt) lv r S = some _ at h
          unfold ip_jp at h
          split at h
          · rename_i t ht
            cases h
            exact lv_lookup hx hb hd hc rfl (ip_tg_eq ht) (k ls H locs hl hP hS hSc)
          · cases h
      · cases h
    | getfield q =>
      obtain rfl : len = 3 := Nat.eq_of_beq_eq_true hn
      change ip_gf mi pc q lv st S = some _ at h
      unfold ip_gf at h
      split at h
      · rename_i ci j nst pl hf
        split at h
        · rename_i a r
          split at h
          · rename_i cj ho
            cases hcj : Nat.beq ci cj with
            | false =>
              rw [hcj] at h
              cases h
            | true =>
              rw [hcj] at h
              obtain rfl := Nat.eq_of_beq_eq_true hcj
              dsimp only [cond] at h
              refine ip_gf_ok C0 hP hf ho hd ?_
              unfold ip_fv
              split at h
              · rename_i ht
                cases h
                rw [ht]
                exact k ls H locs hl hP hS hSc
              · rename_i ht
                cases h
                rw [ht]
                exact k ls H locs hl hP hS hSc
              · rename_i ht
                cases h
                rw [ht]
                exact k ls H locs hl hP hS hSc
              · rename_i h0 h1 h2
                split at h
                · rename_i d hrf
                  cases h
                  rw [hrf]
                  have kk := k ls H locs hl hP hS hSc
                  split
                  · rename_i q9; exact absurd q9 h0
                  · rename_i q9; exact absurd q9 h1
                  · rename_i q9; exact absurd q9 h2
                  · exact kk
                · cases h
          · cases h
        · cases h
      · cases h
    | putfield q =>
      obtain rfl : len = 3 := Nat.eq_of_beq_eq_true hn
      change ip_pf mi pc q lv st S = some _ at h
      unfold ip_pf at h
      split at h
      · rename_i ci j nst pl hf
        split at h
        · rename_i x a r
          split at h
          · rename_i cj ho
            cases hcj : Nat.beq ci cj with
            | false =>
              rw [hcj] at h
              cases h
            | true =>
              rw [hcj] at h
              obtain rfl := Nat.eq_of_beq_eq_true hcj
              dsimp only [cond] at h
              split at h
              · rename_i ht
                cases h
                exact ip_pf_ok C0 hP hS hf ho (by rw [ht]; decide) (by rw [ht]; rfl) (by rw [ht]; rfl) hd (fun H1 locs1 h1 h2 => k ls H1 locs1 hl (by rw [← ip_putI (ip_ob_lt ho).1 ho (Or.inl ht)]; exact h1) h2 (ip_Sc_I hSc (ip_ob_lt ho).1))
              · rename_i ht
                cases hB : ip_isB x with
                | false =>
                  rw [hB] at h
                  cases h
                | true =>
                  rw [hB] at h
                  cases h
                  have hx01 := ip_isB_or hB
                  exact ip_pf_ok C0 hP hS hf ho (by rw [ht]; decide) (by rw [ht]; rcases hx01 with rfl | rfl <;> rfl) (by rw [ht]; rcases hx01 with rfl | rfl <;> rfl) hd (fun H1 locs1 h1 h2 => k ls H1 locs1 hl (by rw [← ip_putI (ip_ob_lt ho).1 ho (Or.inr ht)]; exact h1) h2 (ip_Sc_I hSc (ip_ob_lt ho).1))
              · cases h
          · cases h
        · rename_i x a r
          split at h
          · rename_i cj ho
            cases hcj : Nat.beq ci cj with
            | false =>
              rw [hcj] at h
              cases h
            | true =>
              rw [hcj] at h
              obtain rfl := Nat.eq_of_beq_eq_true hcj
              dsimp only [cond] at h
              split at h
              · rename_i ht
                cases h
                exact ip_pf_ok C0 hP hS hf ho (by rw [ht]; decide) (by rw [ht]; rfl) (by rw [ht]; rfl) hd (fun H1 locs1 h1 h2 => k ls H1 locs1 hl (by rw [← ip_putL (ip_ob_lt ho).1 ho ht]; exact h1) h2 (ip_Sc_L hSc))
              · cases h
          · cases h
        · cases h
      · cases h
    | getstatic q =>
      obtain rfl : len = 3 := Nat.eq_of_beq_eq_true hn
      change ip_gs mi pc q lv st S = some _ at h
      unfold ip_gs at h
      split at h
      · rename_i d nst pl hf
        cases h
        exact ip_gs_ok C0 hS hf hd (k ls H locs hl hP hS hSc)
      · cases h
    | iaload =>
      obtain rfl : len = 1 := Nat.eq_of_beq_eq_true hn
      change ip_al _ pc lv st S = some _ at h
      unfold ip_al at h
      split at h
      · rename_i i a r
        dsimp only at h
        cases hv : ip_aI S a i with
        | none =>
          rw [hv] at h
          cases h
        | some v =>
          rw [hv] at h
          change some (pc + 1, lv, Value.int v :: r, S) = some (pc', lv', st', S') at h
          cases h
          unfold ip_aI at hv
          split at hv
          · rename_i n hq
            cases hin : ip_in i n with
            | false =>
              rw [hin] at hv
              cases hv
            | true =>
              rw [hin] at hv
              cases hv
              exact va_iald hx hb hK hP a 0 (by rw [ip_ws_at ad cy S ((ip_ar_lt hq).2.1 (by dsimp only; decide)), ip_ce_I hq]) rfl (ip_in_vp hin) hd (k ls H locs hl hP hS hSc)
          · rename_i n hq
            cases hin : ip_in i n with
            | false =>
              rw [hin] at hv
              cases hv
            | true =>
              rw [hin] at hv
              cases hv
              obtain ⟨h56, hn5⟩ := (ip_ar_lt hq).2.2.1 rfl
              dsimp only at hn5
              subst hn5
              exact va_ti hx hb (hT2 a h56) hS (ip_in_vp hin) rfl hd (k ls H locs hl hP hS hSc)
          · rename_i n hq
            cases hin : ip_in i (S.1 59 0).toNatClampNeg with
            | false =>
              rw [hin] at hv
              cases hv
            | true =>
              rw [hin] at hv
              cases hv
              have h58 := (ip_ar_lt hq).2.2.2.2.1 rfl
              subst h58
              have hLc : (S.1 59 0).toNatClampNeg = L := by rw [hSc.1]; exact Int32.toNatClampNeg_ofNat_of_lt hL
              rw [hLc] at hin
              have hvp := ip_in_vp hin
              have hlt : i.toNatClampNeg < L := Nat.not_le.mp (fun q => hvp (Or.inr q))
              have kk := k ls H locs hl hP hS hSc
              refine va_sld hx hb hX hbl hbA hS hvp hd ?_
              rw [← hSc.2 _ hlt]
              exact kk
          · cases hv
      · cases h
    | laload =>
      obtain rfl : len = 1 := Nat.eq_of_beq_eq_true hn
      change ip_al _ pc lv st S = some _ at h
      unfold ip_al at h
      split at h
      · rename_i i a r
        dsimp only at h
        cases hv : ip_aL S a i with
        | none =>
          rw [hv] at h
          cases h
        | some v =>
          rw [hv] at h
          change some (pc + 1, lv, Value.long v :: r, S) = some (pc', lv', st', S') at h
          cases h
          unfold ip_aL at hv
          split at hv
          · rename_i n hq
            cases hin : ip_in i n with
            | false =>
              rw [hin] at hv
              cases hv
            | true =>
              rw [hin] at hv
              cases hv
              exact va_lald hx hb hK hP a 1 (by rw [ip_ws_at ad cy S ((ip_ar_lt hq).2.1 (by dsimp only; decide)), ip_ce_L hq]) rfl (ip_in_vp hin) hd (k ls H locs hl hP hS hSc)
          · rename_i n hq
            cases hin : ip_in i n with
            | false =>
              rw [hin] at hv
              cases hv
            | true =>
              rw [hin] at hv
              cases hv
              obtain ⟨h55, hn6⟩ := (ip_ar_lt hq).2.2.2.1 rfl
              dsimp only at hn6
              subst hn6
              subst h55
              exact va_tl hx hb hT1 hS (ip_in_vp hin) rfl hd (k ls H locs hl hP hS hSc)
          · cases hv
      · cases h
    | baload =>
      obtain rfl : len = 1 := Nat.eq_of_beq_eq_true hn
      change ip_al _ pc lv st S = some _ at h
      unfold ip_al at h
      split at h
      · rename_i i a r
        dsimp only at h
        cases hv : ip_aZ S a i with
        | none =>
          rw [hv] at h
          cases h
        | some v =>
          rw [hv] at h
          change some (pc + 1, lv, Value.int v :: r, S) = some (pc', lv', st', S') at h
          cases h
          unfold ip_aZ at hv
          split at hv
          · rename_i n hq
            cases hin : ip_in i n with
            | false =>
              rw [hin] at hv
              cases hv
            | true =>
              rw [hin] at hv
              cases hv
              exact va_zald hx hb hK hP a 2 (by rw [ip_ws_at ad cy S ((ip_ar_lt hq).2.1 (by dsimp only; decide)), ip_ce_Z hq]) rfl (ip_in_vp hin) hd (k ls H locs hl hP hS hSc)
          · cases hv
      · cases h
    | aaload =>
      obtain rfl : len = 1 := Nat.eq_of_beq_eq_true hn
      change ip_al _ pc lv st S = some _ at h
      unfold ip_al at h
      split at h
      · rename_i i a r
        dsimp only at h
        cases hv : ip_aA a i with
        | none =>
          rw [hv] at h
          cases h
        | some v =>
          rw [hv] at h
          change some (pc + 1, lv, Value.ref v :: r, S) = some (pc', lv', st', S') at h
          cases h
          unfold ip_aA at hv
          split at hv
          · rename_i n hq
            cases hin : ip_in i n with
            | false =>
              rw [hin] at hv
              cases hv
            | true =>
              rw [hin] at hv
              have hrf : ip_rf a i.toNatClampNeg = some v := hv
              have kk := k ls H locs hl hP hS hSc
              refine va_aldq hx hb hK hP a 3 (by rw [ip_ws_at ad cy S ((ip_ar_lt hq).2.1 (by dsimp only; decide)), ip_ce_A hq]) rfl (ip_in_vp hin) hd ?_
              rw [hrf]
              exact kk
          · cases hv
      · cases h
    | iastore =>
      obtain rfl : len = 1 := Nat.eq_of_beq_eq_true hn
      change ip_asI (ip_wI S) pc lv st = some _ at h
      unfold ip_asI at h
      split at h
      · rename_i v i a r
        cases hv : ip_wI S a i v with
        | none =>
          rw [hv] at h
          cases h
        | some S1 =>
          rw [hv] at h
          change some (pc + 1, lv, r, S1) = some (pc', lv', st', S') at h
          cases h
          unfold ip_wI at hv
          split at hv
          · rename_i n hq
            cases hin : ip_in i n with
            | false =>
              rw [hin] at hv
              cases hv
            | true =>
              rw [hin] at hv
              cases hv
              exact va_iast hx hb hK hP (ip_D ad cy S hinj) hS a 0 (by rw [ip_ws_at ad cy S ((ip_ar_lt hq).2.1 (by dsimp only; decide)), ip_ce_I hq]) rfl (ip_in_vp hin) hd (fun H1 locs1 h1 _ h2 => k ls H1 locs1 hl (by rw [← ip_arrI ((ip_ar_lt hq).2.1 (by dsimp only; decide)) (ip_ar_lt hq).1 hq]; exact h1) h2 (ip_Sc_I hSc ((ip_ar_lt hq).2.1 (by dsimp only; decide))))
          · cases hv
      · cases h
    | bastore =>
      obtain rfl : len = 1 := Nat.eq_of_beq_eq_true hn
      change ip_asI (ip_wZ S) pc lv st = some _ at h
      unfold ip_asI at h
      split at h
      · rename_i v i a r
        cases hv : ip_wZ S a i v with
        | none =>
          rw [hv] at h
          cases h
        | some S1 =>
          rw [hv] at h
          change some (pc + 1, lv, r, S1) = some (pc', lv', st', S') at h
          cases h
          unfold ip_wZ at hv
          split at hv
          · rename_i n hq
            cases hin : ip_in i n with
            | false =>
              rw [hin] at hv
              cases hv
            | true =>
              rw [hin] at hv
              cases hv
              exact va_zast hx hb hK hP (ip_D ad cy S hinj) hS a 2 (by rw [ip_ws_at ad cy S ((ip_ar_lt hq).2.1 (by dsimp only; decide)), ip_ce_Z hq]) rfl (ip_in_vp hin) hd (fun H1 locs1 h1 _ h2 => k ls H1 locs1 hl (by rw [← ip_arrZ ((ip_ar_lt hq).2.1 (by dsimp only; decide)) (ip_ar_lt hq).1 hq]; exact h1) h2 (ip_Sc_I hSc ((ip_ar_lt hq).2.1 (by dsimp only; decide))))
          · cases hv
      · cases h
    | lastore =>
      obtain rfl : len = 1 := Nat.eq_of_beq_eq_true hn
      change ip_asL (ip_wL S) pc lv st = some _ at h
      unfold ip_asL at h
      split at h
      · rename_i v i a r
        cases hv : ip_wL S a i v with
        | none =>
          rw [hv] at h
          cases h
        | some S1 =>
          rw [hv] at h
          change some (pc + 1, lv, r, S1) = some (pc', lv', st', S') at h
          cases h
          unfold ip_wL at hv
          split at hv
          · rename_i n hq
            cases hin : ip_in i n with
            | false =>
              rw [hin] at hv
              cases hv
            | true =>
              rw [hin] at hv
              cases hv
              exact va_last hx hb hK hP (ip_D ad cy S hinj) hS a 1 (by rw [ip_ws_at ad cy S ((ip_ar_lt hq).2.1 (by dsimp only; decide)), ip_ce_L hq]) rfl (ip_in_vp hin) hd (fun H1 locs1 h1 _ h2 => k ls H1 locs1 hl (by rw [← ip_arrL ((ip_ar_lt hq).2.1 (by dsimp only; decide)) (ip_ar_lt hq).1 hq]; exact h1) h2 (ip_Sc_L hSc))
          · cases hv
      · cases h
    | arraylength =>
      obtain rfl : len = 1 := Nat.eq_of_beq_eq_true hn
      change ip_len pc lv st S = some _ at h
      unfold ip_len at h
      split at h
      · rename_i a r
        split at h
        · rename_i v hv
          cases h
          unfold ip_ln at hv
          split at hv
          · rename_i n hq
            cases hv
            have h58 := (ip_ar_lt hq).2.2.2.2.1 rfl
            subst h58
            have kk := k ls H locs hl hP hS hSc
            refine va_slen hx hb hX hbl hbA hS hd ?_
            have e : Int32.ofNat L = S.1 59 0 := hSc.1.symm
            first | (rw [e]; exact kk) | (show W p l e R s m args below meth c H locs cells slots Q (F0 m (pc + 1) ls (.int (Int32.ofNat L) :: _)); rw [e]; exact kk)
          · cases hv
          · cases hv
          · rename_i t n h6 h5 h4 hq
            cases hv
            have h3 : t < 4 := by
              by_cases q : t < 4
              · exact q
              · exfalso
                have := ip_ar_kind hq
                dsimp only at this
                rcases Nat.lt_or_ge t 5 with z | z
                · exact h4 (by omega) 
                · rcases Nat.lt_or_ge t 6 with z2 | z2
                  · exact h5 (by omega)
                  · exact h6 (by omega)
            have hc55 := (ip_ar_lt hq).2.1 h3
            have hce : ∃ x : vp_A, x.1 = n ∧ (ip_ws ad cy S)[a]? = some (ad a, .inl (cy t, x)) := by
              rw [ip_ws_at ad cy S hc55]
              match t, h3, hq with
              | 0, _, hq => exact ⟨_, rfl, by rw [ip_ce_I hq]⟩
              | 1, _, hq => exact ⟨_, rfl, by rw [ip_ce_L hq]⟩
              | 2, _, hq => exact ⟨_, rfl, by rw [ip_ce_Z hq]⟩
              | 3, _, hq => exact ⟨_, rfl, by rw [ip_ce_A hq]⟩
            obtain ⟨x, hx1, hce⟩ := hce
            have hty : ∃ ty, (ip_tys cy)[t]? = some (cy t, ty) := by
              match t, h3 with
              | 0, _ => exact ⟨_, rfl⟩
              | 1, _ => exact ⟨_, rfl⟩
              | 2, _ => exact ⟨_, rfl⟩
              | 3, _ => exact ⟨_, rfl⟩
            obtain ⟨ty, hty⟩ := hty
            exact va_alen hx hb hK hP a t hce hty (by rw [hx1]) hd (k ls H locs hl hP hS hSc)
          · cases hv
        · cases h
      · cases h
    | invokestatic q =>
      obtain rfl : len = 3 := Nat.eq_of_beq_eq_true hn
      change ip_mm mi pc q lv st S = some _ at h
      unfold ip_mm at h
      split at h
      · rename_i i pl hq
        split at h
        · rename_i y x r
          cases hck : (Nat.blt 0 (ip_rF mi) && (Nat.blt 20 (ip_rL mi) && Nat.ble ((r.map fun v => v.category).sum) 8)) with
          | false =>
            rw [hck] at h
            cases h
          | true =>
            rw [hck] at h
            simp only [Bool.and_eq_true] at hck
            have q1 : 0 < ip_rF mi := Nat.le_of_ble_eq_true hck.1
            have q2 : 20 < ip_rL mi := Nat.le_of_ble_eq_true hck.2.1
            have q3 : (r.map fun v => v.category).sum ≤ 8 := Nat.le_of_ble_eq_true hck.2.2
            have q4 : ((r.map (ip_mv ad)).map fun v => v.category).sum ≤ 8 := by
              rw [List.map_map, show ((fun v : Value => v.category) ∘ ip_mv ad) = (fun v => v.category) from funext (ip_mv_cat ad)]
              exact q3
            obtain ⟨hw, hi189⟩ := ip_clk_ok hq
            dsimp only at hw hi189
            have hmm := ip_m_ok hi189
            have hcw := ip_cW hi189
            have hsz : c.maxLocals = ls.size := by rw [hml, hl.1]
            cases hMX : Nat.beq i 6 with
            | true =>
              rw [hMX] at h
              obtain rfl := Nat.eq_of_beq_eq_true hMX
              cases h
              exact va_mmax hx hb hsz hown (hts _ (ip_gw_at hw rfl)) (hts _ (ip_gw_at (hmm.2.2.2.2.2.1 rfl) rfl)) (hts _ (ip_gw_at hmm.1 rfl)) (hts _ (ip_gw_at hcw rfl)) (by omega) (by omega) hcl hsl hd (k ls H locs hl hP hS hSc)
            | false =>
              rw [hMX] at h
              cases hMN : Nat.beq i 53 with
              | true =>
                rw [hMN] at h
                obtain rfl := Nat.eq_of_beq_eq_true hMN
                cases h
                exact va_mmin hx hb hsz hown (hts _ (ip_gw_at hw rfl)) (hts _ (ip_gw_at (hmm.2.2.2.2.2.1 rfl) rfl)) (hts _ (ip_gw_at hmm.1 rfl)) (hts _ (ip_gw_at hcw rfl)) (by omega) (by omega) hcl hsl hd (k ls H locs hl hP hS hSc)
              | false =>
                rw [hMN] at h
                cases h
        · cases h
      · cases h
    | _ => cases h
end IPS
