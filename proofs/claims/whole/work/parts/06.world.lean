/-! ===== what the small machine's state is in the heap ===== -/
def ip_mv (ad : Nat → Nat) (v : Value) : Value := match v with
  | .ref k => .ref (ad k)
  | w => w
theorem ip_mv_cat (ad : Nat → Nat) (v : Value) : (ip_mv ad v).category = v.category := by cases v <;> rfl
def ip_nf (ci : Nat) : Nat := match ip_cl[ci]? with
  | some q => q.2.2
  | none => 0
def ip_fv (ad : Nat → Nat) (S : ip_St) (c ci k : Nat) : Value := match ip_ty ci k with
  | 0 => .int (S.1 c k)
  | 1 => .long (S.2 c k)
  | 2 => .int (S.1 c k)
  | _ => va_rf ((ip_rf c k).map ad)
def ip_ce (ad : Nat → Nat) (cy : Nat → ClassId) (S : ip_St) (c : Nat) : va_E := match ip_ob c with
  | some ci => .inr (ci, (List.range (ip_nf ci)).map (fun k => ip_fv ad S c ci k))
  | none => match ip_ar c with
    | some (0, n) => .inl (cy 0, n, .inl (S.1 c))
    | some (1, n) => .inl (cy 1, n, .inr (.inl (S.2 c)))
    | some (2, n) => .inl (cy 2, n, .inl (S.1 c))
    | some (_, n) => .inl (cy 3, n, .inr (.inr (.inr (.inr (fun k => (ip_rf c k).map ad)))))
    | none => .inl (cy 0, 0, .inl (fun _ => 0))
def ip_ws (ad : Nat → Nat) (cy : Nat → ClassId) (S : ip_St) : va_W := (List.range 55).map (fun c => (ad c, ip_ce ad cy S c))
theorem ip_ws_at (ad : Nat → Nat) (cy : Nat → ClassId) (S : ip_St) {c : Nat} (h : c < 55) : (ip_ws ad cy S)[c]? = some (ad c, ip_ce ad cy S c) := by
  simp [ip_ws, List.getElem?_map, List.getElem?_range h]
theorem ip_ws_in {ad : Nat → Nat} {cy : Nat → ClassId} {S : ip_St} {k : Nat} {q : Nat × va_E} (h : (ip_ws ad cy S)[k]? = some q) : k < 55 ∧ q = (ad k, ip_ce ad cy S k) := by
  have hk : k < 55 := by
    have := (List.getElem?_eq_some_iff.mp h).1
    simpa [ip_ws] using this
  rw [ip_ws_at ad cy S hk] at h
  exact ⟨hk, (Option.some.inj h).symm⟩
def ip_tys (cy : Nat → ClassId) : List (ClassId × FieldType) := [(cy 0, .int), (cy 1, .long), (cy 2, .boolean), (cy 3, .object "AccusedAsks$Judge")]
def ip_In (ad : Nat → Nat) (q : Nat) : Prop := ∃ c, c < 55 ∧ q = ad c
def ip_inj (ad : Nat → Nat) : Prop := ∀ i j, i < 55 → j < 55 → ad i = ad j → i = j
theorem ip_D (ad : Nat → Nat) (cy : Nat → ClassId) (S : ip_St) (h : ip_inj ad) : va_D (ip_In ad) (ip_ws ad cy S) := by
  refine ⟨fun i j p q hi hj e => ?_, fun k q hk => ?_⟩
  · obtain ⟨h1, rfl⟩ := ip_ws_in hi
    obtain ⟨h2, rfl⟩ := ip_ws_in hj
    exact h i j h1 h2 e
  · obtain ⟨h1, rfl⟩ := ip_ws_in hk
    exact ⟨k, h1, rfl⟩
theorem ip_setw {ad : Nat → Nat} {cy : Nat → ClassId} {S S' : ip_St} {c : Nat} {x : va_E} (hc : c < 55) (he : ip_ce ad cy S' c = x) (ho : ∀ j, j ≠ c → ip_ce ad cy S' j = ip_ce ad cy S j) : (ip_ws ad cy S).set c (ad c, x) = ip_ws ad cy S' := by
  apply List.ext_getElem?
  intro j
  by_cases hj : j < 55
  · rw [ip_ws_at ad cy S' hj, List.getElem?_set]
    by_cases h : c = j
    · subst h
      have hl : c < (ip_ws ad cy S).length := by simpa [ip_ws] using hc
      simp [hl, he]
    · rw [if_neg h, ip_ws_at ad cy S hj, ho j (fun q => h q.symm)]
  · have h1 : (ip_ws ad cy S').length ≤ j := by simp [ip_ws]; omega
    have h2 : ((ip_ws ad cy S).set c (ad c, x)).length ≤ j := by simp [ip_ws]; omega
    rw [List.getElem?_eq_none h1, List.getElem?_eq_none h2]
theorem ip_upI_ne (S : ip_St) {c j : Nat} (k : Nat) (v : Int32) (h : j ≠ c) : (ip_upI S c k v).1 j = S.1 j := by
  funext b
  simp [ip_upI, h]
theorem ip_upL_ne (S : ip_St) {c j : Nat} (k : Nat) (v : Int64) (h : j ≠ c) : (ip_upL S c k v).2 j = S.2 j := by
  funext b
  simp [ip_upL, h]
theorem ip_ce_cong {ad : Nat → Nat} {cy : Nat → ClassId} {S S' : ip_St} {j : Nat} (h1 : S'.1 j = S.1 j) (h2 : S'.2 j = S.2 j) : ip_ce ad cy S' j = ip_ce ad cy S j := by
  unfold ip_ce ip_fv
  rw [h1, h2]
theorem ip_ceI (ad : Nat → Nat) (cy : Nat → ClassId) (S : ip_St) {c : Nat} (k : Nat) (v : Int32) : ∀ j, j ≠ c → ip_ce ad cy (ip_upI S c k v) j = ip_ce ad cy S j := fun j h => ip_ce_cong (ip_upI_ne S k v h) rfl
theorem ip_ceL (ad : Nat → Nat) (cy : Nat → ClassId) (S : ip_St) {c : Nat} (k : Nat) (v : Int64) : ∀ j, j ≠ c → ip_ce ad cy (ip_upL S c k v) j = ip_ce ad cy S j := fun j h => ip_ce_cong rfl (ip_upL_ne S k v h)
/-- a field written -/
theorem ip_putI {ad : Nat → Nat} {cy : Nat → ClassId} {S : ip_St} {c ci k : Nat} {v : Int32} (hc : c < 55) (ho : ip_ob c = some ci) (ht : ip_ty ci k = 0 ∨ ip_ty ci k = 2) :
    (ip_ws ad cy S).set c (ad c, .inr (ci, ((List.range (ip_nf ci)).map (fun k => ip_fv ad S c ci k)).set k (.int v))) = ip_ws ad cy (ip_upI S c k v) := by
  refine ip_setw hc ?_ (ip_ceI ad cy S k v)
  unfold ip_ce
  rw [ho]
  dsimp only
  congr 2
  apply List.ext_getElem?
  intro j
  rw [List.getElem?_set, List.getElem?_map, List.getElem?_map]
  by_cases hj : j < ip_nf ci
  · rw [List.getElem?_range hj]
    by_cases h : k = j
    · subst h
      rw [if_pos rfl, if_pos (by simpa using hj)]
      show some (ip_fv ad (ip_upI S c k v) c ci k) = _
      unfold ip_fv
      rcases ht with ht | ht <;> rw [ht] <;> simp [ip_upI]
    · rw [if_neg h]
      show some (ip_fv ad (ip_upI S c k v) c ci j) = some (ip_fv ad S c ci j)
      unfold ip_fv
      have e : (ip_upI S c k v).1 c j = S.1 c j := by
        have h' : ¬ j = k := fun q => h q.symm
        simp [ip_upI, h']
      rw [e]
      rfl
  · have h1 : (List.range (ip_nf ci))[j]? = none := by simp; omega
    rw [h1]
    by_cases h : k = j
    · subst h
      rw [if_pos rfl, if_neg (by simpa using hj)]
      rfl
    · rw [if_neg h]
      rfl
theorem ip_putL {ad : Nat → Nat} {cy : Nat → ClassId} {S : ip_St} {c ci k : Nat} {v : Int64} (hc : c < 55) (ho : ip_ob c = some ci) (ht : ip_ty ci k = 1) :
    (ip_ws ad cy S).set c (ad c, .inr (ci, ((List.range (ip_nf ci)).map (fun k => ip_fv ad S c ci k)).set k (.long v))) = ip_ws ad cy (ip_upL S c k v) := by
  refine ip_setw hc ?_ (ip_ceL ad cy S k v)
  unfold ip_ce
  rw [ho]
  dsimp only
  congr 2
  apply List.ext_getElem?
  intro j
  rw [List.getElem?_set, List.getElem?_map, List.getElem?_map]
  by_cases hj : j < ip_nf ci
  · rw [List.getElem?_range hj]
    by_cases h : k = j
    · subst h
      rw [if_pos rfl, if_pos (by simpa using hj)]
      show some (ip_fv ad (ip_upL S c k v) c ci k) = _
      unfold ip_fv
      rw [ht]
      simp [ip_upL]
    · rw [if_neg h]
      show some (ip_fv ad (ip_upL S c k v) c ci j) = some (ip_fv ad S c ci j)
      unfold ip_fv
      have e : (ip_upL S c k v).2 c j = S.2 c j := by
        have h' : ¬ j = k := fun q => h q.symm
        simp [ip_upL, h']
      rw [e]
      rfl
  · have h1 : (List.range (ip_nf ci))[j]? = none := by simp; omega
    rw [h1]
    by_cases h : k = j
    · subst h
      rw [if_pos rfl, if_neg (by simpa using hj)]
      rfl
    · rw [if_neg h]
      rfl
theorem ip_arrI {ad : Nat → Nat} {cy : Nat → ClassId} {S : ip_St} {c n k : Nat} {v : Int32} (hc : c < 55) (ho : ip_ob c = none) (ha : ip_ar c = some (0, n)) :
    (ip_ws ad cy S).set c (ad c, .inl (cy 0, n, .inl (upd (S.1 c) k v))) = ip_ws ad cy (ip_upI S c k v) := by
  refine ip_setw hc ?_ (ip_ceI ad cy S k v)
  unfold ip_ce
  rw [ho, ha]
  show (Sum.inl (cy 0, n, Sum.inl ((ip_upI S c k v).1 c)) : va_E) = _
  congr 4
  funext j
  simp [ip_upI, upd]
theorem ip_arrZ {ad : Nat → Nat} {cy : Nat → ClassId} {S : ip_St} {c n k : Nat} {v : Int32} (hc : c < 55) (ho : ip_ob c = none) (ha : ip_ar c = some (2, n)) :
    (ip_ws ad cy S).set c (ad c, .inl (cy 2, n, .inl (upd (S.1 c) k v))) = ip_ws ad cy (ip_upI S c k v) := by
  refine ip_setw hc ?_ (ip_ceI ad cy S k v)
  unfold ip_ce
  rw [ho, ha]
  show (Sum.inl (cy 2, n, Sum.inl ((ip_upI S c k v).1 c)) : va_E) = _
  congr 4
  funext j
  simp [ip_upI, upd]
theorem ip_arrL {ad : Nat → Nat} {cy : Nat → ClassId} {S : ip_St} {c n k : Nat} {v : Int64} (hc : c < 55) (ho : ip_ob c = none) (ha : ip_ar c = some (1, n)) :
    (ip_ws ad cy S).set c (ad c, .inl (cy 1, n, .inr (.inl (vp_updL (S.2 c) k v)))) = ip_ws ad cy (ip_upL S c k v) := by
  refine ip_setw hc ?_ (ip_ceL ad cy S k v)
  unfold ip_ce
  rw [ho, ha]
  show (Sum.inl (cy 1, n, Sum.inr (Sum.inl ((ip_upL S c k v).2 c))) : va_E) = _
  congr 5
  funext j
  simp [ip_upL, vp_updL]
theorem ip_in_vp {i : Int32} {n : Nat} (h : ip_in i n = true) : vp_in i n := by
  unfold ip_in at h
  simp only [Bool.and_eq_true, Bool.not_eq_true', decide_eq_false_iff_not, decide_eq_true_eq] at h
  intro q
  rcases q with q | q
  · exact h.1 q
  · omega
/-- locals -/
def ip_has (ad : Nat → Nat) (ls : Array Slot) (nL : Nat) (lv : ip_LV) : Prop := ls.size = nL ∧ lv_wf ls ∧ lv.length = nL ∧ ∀ i v, ip_at lv i = some v → ls[i]? = some (.val (ip_mv ad v))
def ip_pv (ad : Nat → Nat) (lv : ip_LV) : List (Nat × Value) := (List.range lv.length).filterMap (fun i => (ip_at lv i).map (fun v => (i, ip_mv ad v)))
theorem ip_pv_mem {ad : Nat → Nat} {lv : ip_LV} {q : Nat × Value} : q ∈ ip_pv ad lv ↔ q.1 < lv.length ∧ ∃ v, ip_at lv q.1 = some v ∧ q.2 = ip_mv ad v := by
  unfold ip_pv
  rw [List.mem_filterMap]
  constructor
  · rintro ⟨i, hi, h⟩
    rw [List.mem_range] at hi
    cases hv : ip_at lv i with
    | none => rw [hv] at h; cases h
    | some v =>
      rw [hv] at h
      have := Option.some.inj h
      subst this
      exact ⟨hi, v, hv, rfl⟩
  · rintro ⟨h1, v, h2, h3⟩
    exact ⟨q.1, List.mem_range.mpr h1, by rw [h2]; show some (q.1, ip_mv ad v) = some q; rw [← h3]⟩
theorem ip_has_lv {ad : Nat → Nat} {ls : Array Slot} {nL : Nat} {lv : ip_LV} (h : ip_has ad ls nL lv) : lv_has ls nL (ip_pv ad lv) := by
  refine ⟨h.1, h.2.1, fun q hq => ?_⟩
  obtain ⟨-, v, h2, h3⟩ := ip_pv_mem.mp hq
  rw [h3]
  exact h.2.2.2 _ _ h2
theorem ip_at_lt : ∀ {lv : ip_LV} {i : Nat} {v : Value}, ip_at lv i = some v → i < lv.length
  | [], _, _, h => by simp [ip_at] at h
  | _ :: _, 0, _, _ => by simp
  | _ :: t, n + 1, v, h => by
    have := ip_at_lt (lv := t) (i := n) (v := v) h
    simpa using this
theorem ip_set_some : ∀ {lv lv' : ip_LV} {i : Nat} {w : Option Value}, ip_set lv i w = some lv' → i < lv.length ∧ lv'.length = lv.length ∧ ∀ j, ip_at lv' j = if j = i then w else ip_at lv j
  | [], _, _, _, h => by simp [ip_set] at h
  | x :: t, lv', 0, w, h => by
    simp only [ip_set, Option.some.injEq] at h
    subst h
    refine ⟨by simp, by simp, fun j => ?_⟩
    cases j <;> simp [ip_at]
  | x :: t, lv', n + 1, w, h => by
    simp only [ip_set] at h
    cases ht : ip_set t n w with
    | none => rw [ht] at h; cases h
    | some t' =>
      rw [ht] at h
      have := Option.some.inj h
      subst this
      obtain ⟨h1, h2, h3⟩ := ip_set_some ht
      refine ⟨by simpa using h1, by simpa using h2, fun j => ?_⟩
      cases j with
      | zero => simp [ip_at]
      | succ j => simp [ip_at, h3 j]
theorem ip_k_at : ∀ {lv : ip_LV} {i j : Nat} {v : Value}, ip_at (ip_k lv i) j = some v → ip_at lv j = some v ∧ ¬ (j + 1 = i ∧ v.category = 2)
  | [], _, _, _, h => by simp [ip_k, ip_at] at h
  | x :: t, 0, j, v, h => by
    simp only [ip_k] at h
    exact ⟨h, by omega⟩
  | x :: t, 1, 0, v, h => by
    simp only [ip_k, ip_at, ip_kd] at h ⊢
    cases x with
    | none => cases h
    | some w => cases w <;> simp_all [Value.category] <;> (subst h; simp [Value.category])
  | x :: t, 1, j + 1, v, h => by
    simp only [ip_k, ip_at] at h ⊢
    exact ⟨h, by omega⟩
  | x :: t, n + 2, 0, v, h => by
    simp only [ip_k, ip_at] at h ⊢
    exact ⟨h, by omega⟩
  | x :: t, n + 2, j + 1, v, h => by
    simp only [ip_k, ip_at] at h ⊢
    have := ip_k_at (lv := t) (i := n + 1) (j := j) (v := v) h
    exact ⟨this.1, fun q => this.2 ⟨by omega, q.2⟩⟩
theorem ip_k_len : ∀ (lv : ip_LV) (i : Nat), (ip_k lv i).length = lv.length
  | [], _ => by simp [ip_k]
  | _ :: _, 0 => by simp [ip_k]
  | _ :: _, 1 => by simp [ip_k]
  | _ :: t, n + 2 => by simp [ip_k, ip_k_len t (n + 1)]
theorem ip_s1_has {ad : Nat → Nat} {ls' : Array Slot} {nL : Nat} {lv lv' : ip_LV} {i : Nat} {v : Value} (hn : lv.length = nL) (h : ip_s1 lv i v = some lv') (h' : lv_has ls' nL ((i, ip_mv ad v) :: (ip_pv ad lv).filter (fun q => !(q.1 == i) && !(q.1 + 1 == i && q.2.category == 2)))) : ip_has ad ls' nL lv' := by
  obtain ⟨h1, h2, h3⟩ := ip_set_some h
  rw [ip_k_len] at h2
  refine ⟨h'.1, h'.2.1, by rw [h2, hn], fun j w hw => ?_⟩
  rw [h3 j] at hw
  by_cases hj : j = i
  · rw [if_pos hj] at hw
    cases hw
    rw [hj]
    exact h'.2.2 (i, ip_mv ad v) List.mem_cons_self
  · rw [if_neg hj] at hw
    obtain ⟨ha, hb⟩ := ip_k_at hw
    refine h'.2.2 (j, ip_mv ad w) (List.mem_cons_of_mem _ (List.mem_filter.mpr ⟨ip_pv_mem.mpr ⟨ip_at_lt ha, w, ha, rfl⟩, ?_⟩))
    simp only [ip_mv_cat, Bool.and_eq_true, Bool.not_eq_true', beq_eq_false_iff_ne, Bool.and_eq_false_iff]
    refine ⟨hj, ?_⟩
    by_cases q : j + 1 = i
    · right
      exact fun q2 => hb ⟨q, q2⟩
    · left
      exact q
theorem ip_s2_has {ad : Nat → Nat} {ls' : Array Slot} {nL : Nat} {lv lv' : ip_LV} {i : Nat} {v : Value} (hn : lv.length = nL) (h : ip_s2 lv i v = some lv') (h' : lv_has ls' nL ((i, ip_mv ad v) :: (ip_pv ad lv).filter (fun q => !(q.1 == i) && (!(q.1 == i + 1) && !(q.1 + 1 == i && q.2.category == 2))))) : ip_has ad ls' nL lv' := by
  unfold ip_s2 at h
  cases ht : ip_set (ip_k lv i) i (some v) with
  | none => rw [ht] at h; cases h
  | some t =>
    rw [ht] at h
    obtain ⟨g1, g2, g3⟩ := ip_set_some ht
    obtain ⟨h1, h2, h3⟩ := ip_set_some h
    rw [ip_k_len] at g2
    refine ⟨h'.1, h'.2.1, by rw [h2, g2, hn], fun j w hw => ?_⟩
    rw [h3 j] at hw
    by_cases hj1 : j = i + 1
    · rw [if_pos hj1] at hw
      cases hw
    · rw [if_neg hj1, g3 j] at hw
      by_cases hj : j = i
      · rw [if_pos hj] at hw
        cases hw
        rw [hj]
        exact h'.2.2 (i, ip_mv ad v) List.mem_cons_self
      · rw [if_neg hj] at hw
        obtain ⟨ha, hb⟩ := ip_k_at hw
        refine h'.2.2 (j, ip_mv ad w) (List.mem_cons_of_mem _ (List.mem_filter.mpr ⟨ip_pv_mem.mpr ⟨ip_at_lt ha, w, ha, rfl⟩, ?_⟩))
        simp only [ip_mv_cat, Bool.and_eq_true, Bool.not_eq_true', beq_eq_false_iff_ne, Bool.and_eq_false_iff]
        refine ⟨hj, hj1, ?_⟩
        by_cases q : j + 1 = i
        · right
          exact fun q2 => hb ⟨q, q2⟩
        · left
          exact q
theorem ip_s1_lt {lv lv' : ip_LV} {i : Nat} {v : Value} (h : ip_s1 lv i v = some lv') : i < lv.length := by
  have := (ip_set_some h).1
  rwa [ip_k_len] at this
theorem ip_s2_lt {lv lv' : ip_LV} {i : Nat} {v : Value} (h : ip_s2 lv i v = some lv') : i + 1 < lv.length := by
  unfold ip_s2 at h
  cases ht : ip_set (ip_k lv i) i (some v) with
  | none => rw [ht] at h; cases h
  | some t =>
    rw [ht] at h
    have g2 := (ip_set_some ht).2.1
    have h1 := (ip_set_some h).1
    rw [g2, ip_k_len] at h1
    exact h1
theorem ip_at_rep (n j : Nat) : ip_at (List.replicate n none) j = none := by
  induction n generalizing j with
  | zero => rfl
  | succ n ih =>
    cases j with
    | zero => rfl
    | succ j => exact ih j
theorem ip_en_len : ∀ {n : Nat} {vs : List Value} {lv : ip_LV}, ip_en n vs = some lv → lv.length = n ∧ ∀ ad, (lg_sl (vs.map (ip_mv ad))).length ≤ n
  | n, [], lv, h => by
    simp only [ip_en, Option.some.injEq] at h
    subst h
    exact ⟨by simp, fun ad => by simp [lg_sl]⟩
  | 0, v :: t, lv, h => by simp [ip_en] at h
  | n + 1, v :: t, lv, h => by
    cases v with
    | long x =>
      cases n with
      | zero => simp [ip_en] at h
      | succ m =>
        simp only [ip_en] at h
        cases ht : ip_en m t with
        | none => rw [ht] at h; cases h
        | some l =>
          rw [ht] at h
          have := Option.some.inj h
          subst this
          obtain ⟨h1, h2⟩ := ip_en_len ht
          refine ⟨by simp [h1], fun ad => ?_⟩
          have := h2 ad
          simp only [lg_sl, List.map_cons, List.flatMap_cons, ip_mv, Value.category] at this ⊢
          simp only [if_true, List.length_append, List.length_cons, List.length_nil]
          omega
    | double x => simp [ip_en] at h
    | int x | float x | null | ref x | retAddr x =>
      simp only [ip_en] at h
      cases ht : ip_en n t with
      | none => rw [ht] at h; cases h
      | some l =>
        rw [ht] at h
        have := Option.some.inj h
        subst this
        obtain ⟨h1, h2⟩ := ip_en_len ht
        refine ⟨by simp [h1], fun ad => ?_⟩
        have := h2 ad
        simp only [lg_sl, List.map_cons, List.flatMap_cons, ip_mv, Value.category] at this ⊢
        simp only [show ¬ (1 = 2) by decide, if_false, List.length_append, List.length_cons, List.length_nil]
        omega
theorem ip_en_at (ad : Nat → Nat) : ∀ {n : Nat} {vs : List Value} {lv : ip_LV} (o : Nat), ip_en n vs = some lv → ∀ i v, ip_at lv i = some v → (o + i, ip_mv ad v) ∈ lv_args o (vs.map (ip_mv ad))
  | n, [], lv, o, h, i, v, hv => by
    simp only [ip_en, Option.some.injEq] at h
    subst h
    rw [ip_at_rep] at hv
    cases hv
  | 0, v :: t, lv, o, h, _, _, _ => by simp [ip_en] at h
  | n + 1, v :: t, lv, o, h, i, w, hw => by
    cases v with
    | long x =>
      cases n with
      | zero => simp [ip_en] at h
      | succ m =>
        simp only [ip_en] at h
        cases ht : ip_en m t with
        | none => rw [ht] at h; cases h
        | some l =>
          rw [ht] at h
          have := Option.some.inj h
          subst this
          simp only [List.map_cons, lv_args, ip_mv, Value.category, if_true]
          match i, hw with
          | 0, hw =>
            simp only [ip_at, Option.some.injEq] at hw
            subst hw
            exact List.mem_cons_self
          | 1, hw => simp [ip_at] at hw
          | i + 2, hw =>
            have := ip_en_at ad (o + 2) ht i w hw
            rw [show o + (i + 2) = o + 2 + i by omega]
            exact List.mem_cons_of_mem _ this
    | double x => simp [ip_en] at h
    | int x | float x | null | ref x | retAddr x =>
      simp only [ip_en] at h
      cases ht : ip_en n t with
      | none => rw [ht] at h; cases h
      | some l =>
        rw [ht] at h
        have := Option.some.inj h
        subst this
        simp only [List.map_cons, lv_args, ip_mv, Value.category, show ¬ (1 = 2) by decide, if_false]
        match i, hw with
        | 0, hw =>
          simp only [ip_at, Option.some.injEq] at hw
          subst hw
          exact List.mem_cons_self
        | i + 1, hw =>
          have := ip_en_at ad (o + 1) ht i w hw
          rw [show o + (i + 1) = o + 1 + i by omega]
          exact List.mem_cons_of_mem _ this
theorem ip_en_has (ad : Nat → Nat) {n : Nat} {vs : List Value} {lv : ip_LV} (h : ip_en n vs = some lv) : ip_has ad ((lg_sl (vs.map (ip_mv ad)) ++ List.replicate (n - (lg_sl (vs.map (ip_mv ad))).length) Slot.unset).toArray) n lv := by
  obtain ⟨h1, h2⟩ := ip_en_len h
  have hl := lv_entry (vs.map (ip_mv ad)) (n := n) (h2 ad)
  refine ⟨hl.1, hl.2.1, h1, fun i v hv => ?_⟩
  have := ip_en_at ad 0 h i v hv
  rw [Nat.zero_add] at this
  exact hl.2.2 _ this
