/-! ===== reasoning about runs of the small machine ===== -/
def ip_Ev (mi pc : Nat) (lv : ip_LV) (st : List Value) (S : ip_St) (rv : Option Value) (S' : ip_St) : Prop := ∃ n, ip_run n mi pc lv st S = some (rv, S')
def ip_Me (i : Nat) (as : List Value) (S : ip_St) (rv : Option Value) (S' : ip_St) : Prop := ∃ l1, ip_en (ip_ml i) as = some l1 ∧ ip_Ev i 0 l1 [] S rv S'
def ip_b2i (b : Bool) : Int32 := cond b 1 0
theorem ip_mono : ∀ (n mi pc : Nat) (lv : ip_LV) (st : List Value) (S : ip_St) (r : Option Value × ip_St), ip_run n mi pc lv st S = some r → ip_run (n + 1) mi pc lv st S = some r := by
  intro n
  induction n with
  | zero =>
    intro mi pc lv st S r h
    simp [ip_run] at h
  | succ n ih =>
    intro mi pc lv st S r h
    rw [ip_run] at h ⊢
    cases hret : ip_ret mi pc st with
    | some rv0 =>
      rw [hret] at h
      exact h
    | none =>
      rw [hret] at h
      dsimp only at h ⊢
      cases hcal : ip_cal mi pc st with
      | some q =>
        obtain ⟨i, a, r0⟩ := q
        rw [hcal] at h
        dsimp only at h ⊢
        cases hen : ip_en (ip_ml i) a with
        | none =>
          rw [hen] at h
          cases h
        | some l1 =>
          rw [hen] at h
          dsimp only at h ⊢
          cases hrn : ip_run n i 0 l1 [] S with
          | none =>
            rw [hrn] at h
            cases h
          | some q1 =>
            obtain ⟨rv1, S1⟩ := q1
            rw [hrn] at h
            dsimp only at h
            rw [ih i 0 l1 [] S _ hrn]
            exact ih _ _ _ _ _ _ h
      | none =>
        rw [hcal] at h
        dsimp only at h ⊢
        cases hst : ip_stp mi pc lv st S with
        | none =>
          rw [hst] at h
          cases h
        | some q =>
          obtain ⟨pc', lv', st', S1⟩ := q
          rw [hst] at h
          dsimp only at h ⊢
          exact ih _ _ _ _ _ _ h
theorem ip_mono_le {n m : Nat} (hnm : n ≤ m) {mi pc : Nat} {lv : ip_LV} {st : List Value} {S : ip_St} {r : Option Value × ip_St} (h : ip_run n mi pc lv st S = some r) : ip_run m mi pc lv st S = some r := by
  induction m with
  | zero =>
    obtain rfl : n = 0 := by omega
    exact h
  | succ m ih =>
    by_cases q : n ≤ m
    · exact ip_mono m _ _ _ _ _ _ (ih q)
    · obtain rfl : n = m + 1 := by omega
      exact h
theorem ip_cal_noret {mi pc : Nat} {st : List Value} {q : Nat × List Value × List Value} (h : ip_cal mi pc st = some q) : ip_ret mi pc st = none := by
  unfold ip_cal at h
  unfold ip_ret
  cases hi : ip_ins mi pc with
  | none => rfl
  | some z =>
    obtain ⟨i, len⟩ := z
    rw [hi] at h
    cases i <;> first | rfl | cases h
theorem ip_mm_nocal {mi pc p : Nat} {lv : ip_LV} {st : List Value} {S : ip_St} {q : ip_Cf} {len : Nat} (hi : ip_ins mi pc = some (.invokestatic p, len)) (h : ip_mm mi pc p lv st S = some q) : ip_cal mi pc st = none := by
  unfold ip_mm at h
  unfold ip_cal
  rw [hi]
  dsimp only
  split at h
  · rename_i i pl hq
    rw [hq]
    dsimp only
    split at h
    · rename_i y x r
      have key : ip_ow i = 10 → (cond (ip_sta i) (match ip_pop (ip_np i) [] (Value.int y :: Value.int x :: r) with
          | some (a, r) => cond (ip_fit mi i r) (some (i, a, r)) none
          | none => none) none : Option (Nat × List Value × List Value)) = none := by
        intro ho
        cases ip_sta i with
        | false => rfl
        | true =>
          dsimp only [cond]
          split
          · have hf : ip_fit mi i ‹_› = false := by
              unfold ip_fit
              rw [ho, show Nat.blt 10 10 = false from rfl]
              simp
            rw [hf]
          · rfl
      cases hck : (Nat.blt 0 (ip_rF mi) && (Nat.blt 20 (ip_rL mi) && Nat.ble ((r.map fun v => v.category).sum) 8)) with
      | false =>
        rw [hck] at h
        cases h
      | true =>
        rw [hck] at h
        dsimp only [cond] at h
        cases hMX : Nat.beq i 6 with
        | true =>
          obtain rfl := Nat.eq_of_beq_eq_true hMX
          exact key rfl
        | false =>
          rw [hMX] at h
          cases hMN : Nat.beq i 53 with
          | true =>
            obtain rfl := Nat.eq_of_beq_eq_true hMN
            exact key rfl
          | false =>
            rw [hMN] at h
            cases h
    · cases h
  · cases h
theorem ip_stp_plain {mi pc : Nat} {lv : ip_LV} {st : List Value} {S : ip_St} {q : ip_Cf} (h : ip_stp mi pc lv st S = some q) : ip_ret mi pc st = none ∧ ip_cal mi pc st = none := by
  unfold ip_stp at h
  cases hi : ip_ins mi pc with
  | none =>
    rw [hi] at h
    cases h
  | some z =>
    obtain ⟨i, len⟩ := z
    rw [hi] at h
    dsimp only at h
    have hr : ip_ret mi pc st = none := by
      unfold ip_ret
      rw [hi]
      cases i <;> first | rfl | cases h
    refine ⟨hr, ?_⟩
    cases i with
    | invokestatic p => exact ip_mm_nocal hi h
    | invokevirtual p => cases h
    | _ => unfold ip_cal; rw [hi]
section EV
variable {mi pc : Nat} {lv : ip_LV} {st : List Value} {S S' : ip_St} {rv : Option Value}
theorem ip_Ev.ret (h : ip_ret mi pc st = some rv) : ip_Ev mi pc lv st S rv S := ⟨1, by rw [ip_run, h]⟩
theorem ip_Ev.retB {len : Nat} {b : Bool} (hi : ip_ins mi pc = some (.ireturn, len)) (hrt : ip_rt mi = some .boolean) : ip_Ev mi pc lv [.int (ip_b2i b)] S (some (.int (ip_b2i b))) S := by
  refine ip_Ev.ret ?_
  unfold ip_ret
  rw [hi, hrt]
  cases b <;> rfl
theorem ip_Ev.step {pc' : Nat} {lv' : ip_LV} {st' : List Value} {S1 : ip_St} (h : ip_stp mi pc lv st S = some (pc', lv', st', S1)) (k : ip_Ev mi pc' lv' st' S1 rv S') : ip_Ev mi pc lv st S rv S' := by
  obtain ⟨n, hn⟩ := k
  obtain ⟨h1, h2⟩ := ip_stp_plain h
  exact ⟨n + 1, by rw [ip_run, h1, h2, h]; exact hn⟩
theorem ip_Ev.call {i : Nat} {a r : List Value} {rv1 : Option Value} {S1 : ip_St} (h : ip_cal mi pc st = some (i, a, r)) (hm : ip_Me i a S rv1 S1) (k : ip_Ev mi (pc + 3) lv (rv1.toList ++ r) S1 rv S') : ip_Ev mi pc lv st S rv S' := by
  obtain ⟨l1, he, n1, h1⟩ := hm
  obtain ⟨n2, h2⟩ := k
  refine ⟨(n1 + n2) + 1, ?_⟩
  rw [ip_run, ip_cal_noret h, h]
  dsimp only
  rw [he]
  dsimp only
  rw [ip_mono_le (Nat.le_add_right n1 n2) h1]
  exact ip_mono_le (Nat.le_add_left n2 n1) h2
def ip_stN (mi : Nat) : Nat → Nat → ip_LV → List Value → ip_St → Option ip_Cf
  | 0, pc, lv, st, S => some (pc, lv, st, S)
  | n + 1, pc, lv, st, S => match ip_stp mi pc lv st S with
    | some (pc', lv', st', S') => ip_stN mi n pc' lv' st' S'
    | none => none
theorem ip_Ev.steps : ∀ (k : Nat) {pc : Nat} {lv : ip_LV} {st : List Value} {S : ip_St} {pc' : Nat} {lv' : ip_LV} {st' : List Value} {S1 : ip_St}, ip_stN mi k pc lv st S = some (pc', lv', st', S1) → ip_Ev mi pc' lv' st' S1 rv S' → ip_Ev mi pc lv st S rv S'
  | 0, pc, lv, st, S, pc', lv', st', S1, h, kk => by
    simp only [ip_stN, Option.some.injEq, Prod.mk.injEq] at h
    obtain ⟨rfl, rfl, rfl, rfl⟩ := h
    exact kk
  | n + 1, pc, lv, st, S, pc', lv', st', S1, h, kk => by
    rw [ip_stN] at h
    cases hs : ip_stp mi pc lv st S with
    | none =>
      rw [hs] at h
      cases h
    | some q =>
      obtain ⟨a, b, c, d⟩ := q
      rw [hs] at h
      exact ip_Ev.step hs (ip_Ev.steps n h kk)
-- branches
theorem ip_if1_stp {cd : Jvm.ClassFile.Cond} {off : Int} {len t : Nat} {x : Int32} {r : List Value} (hi : ip_ins mi pc = some (.ifCond cd off, len)) (ht : ip_tg pc off = some t) : ip_stp mi pc lv (.int x :: r) S = some (cond (ip_cnd cd x 0) t (pc + 3), lv, r, S) := by
  unfold ip_stp
  rw [hi]
  show ip_if1 cd pc off lv (.int x :: r) S = _
  unfold ip_if1 ip_br
  rw [ht]
theorem ip_if2_stp {cd : Jvm.ClassFile.Cond} {off : Int} {len t : Nat} {x y : Int32} {r : List Value} (hi : ip_ins mi pc = some (.if_icmp cd off, len)) (ht : ip_tg pc off = some t) : ip_stp mi pc lv (.int y :: .int x :: r) S = some (cond (ip_cnd cd x y) t (pc + 3), lv, r, S) := by
  unfold ip_stp
  rw [hi]
  show ip_if2 cd pc off lv (.int y :: .int x :: r) S = _
  unfold ip_if2 ip_br
  rw [ht]
theorem ip_Ev.iff1 {cd : Jvm.ClassFile.Cond} {off : Int} {len t : Nat} {x : Int32} {r : List Value} {P : Prop} (hi : ip_ins mi pc = some (.ifCond cd off, len)) (ht : ip_tg pc off = some t) (hP : ip_cnd cd x 0 = true ↔ P) (kt : P → ip_Ev mi t lv r S rv S') (kf : ¬ P → ip_Ev mi (pc + 3) lv r S rv S') : ip_Ev mi pc lv (.int x :: r) S rv S' := by
  refine ip_Ev.step (ip_if1_stp hi ht) ?_
  cases hc : ip_cnd cd x 0 with
  | true => exact kt (hP.mp hc)
  | false => exact kf (fun q => by rw [hP.mpr q] at hc; cases hc)
theorem ip_Ev.iff2 {cd : Jvm.ClassFile.Cond} {off : Int} {len t : Nat} {x y : Int32} {r : List Value} {P : Prop} (hi : ip_ins mi pc = some (.if_icmp cd off, len)) (ht : ip_tg pc off = some t) (hP : ip_cnd cd x y = true ↔ P) (kt : P → ip_Ev mi t lv r S rv S') (kf : ¬ P → ip_Ev mi (pc + 3) lv r S rv S') : ip_Ev mi pc lv (.int y :: .int x :: r) S rv S' := by
  refine ip_Ev.step (ip_if2_stp hi ht) ?_
  cases hc : ip_cnd cd x y with
  | true => exact kt (hP.mp hc)
  | false => exact kf (fun q => by rw [hP.mpr q] at hc; cases hc)
theorem ip_cEq {x y : Int32} : ip_cnd .eq x y = true ↔ x = y := by simp [ip_cnd]
theorem ip_cNe {x y : Int32} : ip_cnd .ne x y = true ↔ ¬ x = y := by simp [ip_cnd]
theorem ip_cLt {x y : Int32} : ip_cnd .lt x y = true ↔ x < y := by simp [ip_cnd]
theorem ip_cGe {x y : Int32} : ip_cnd .ge x y = true ↔ y ≤ x := by simp [ip_cnd]
theorem ip_cGt {x y : Int32} : ip_cnd .gt x y = true ↔ y < x := by simp [ip_cnd]
theorem ip_cLe {x y : Int32} : ip_cnd .le x y = true ↔ x ≤ y := by simp [ip_cnd]
theorem ip_bEq {b : Bool} : ip_cnd .eq (ip_b2i b) 0 = true ↔ b = false := by cases b <;> decide
theorem ip_bNe {b : Bool} : ip_cnd .ne (ip_b2i b) 0 = true ↔ b = true := by cases b <;> decide
theorem ip_lEq {x y : Int64} : ip_cnd .eq (lg_cmp x y) 0 = true ↔ x = y := by rw [ip_cEq, lg_cmp_eq]
theorem ip_lNe {x y : Int64} : ip_cnd .ne (lg_cmp x y) 0 = true ↔ ¬ x = y := by rw [ip_cNe, lg_cmp_eq]
theorem ip_lLt {x y : Int64} : ip_cnd .lt (lg_cmp x y) 0 = true ↔ x < y := by rw [ip_cLt, lg_cmp_lt]
theorem ip_lGe {x y : Int64} : ip_cnd .ge (lg_cmp x y) 0 = true ↔ y ≤ x := by rw [ip_cGe, lg_cmp_ge]
theorem ip_lGt {x y : Int64} : ip_cnd .gt (lg_cmp x y) 0 = true ↔ y < x := by rw [ip_cGt, lg_cmp_gt]
theorem ip_lLe {x y : Int64} : ip_cnd .le (lg_cmp x y) 0 = true ↔ x ≤ y := by rw [ip_cLe, lg_cmp_le]
-- switches
theorem ip_Ev.ts {df lo hi : Int} {offs : Array Int} {off : Int} {len t : Nat} {x : Int32} {r : List Value} (hin : ip_ins mi pc = some (.tableswitch df lo hi offs, len)) (ho : ip_tsO df lo hi offs x.toInt = some off) (ht : ip_tg pc off = some t) (k : ip_Ev mi t lv r S rv S') : ip_Ev mi pc lv (.int x :: r) S rv S' := by
  refine ip_Ev.step ?_ k
  unfold ip_stp
  rw [hin]
  show ip_ts df lo hi offs pc lv (.int x :: r) S = _
  unfold ip_ts
  dsimp only
  rw [ho]
  dsimp only
  unfold ip_jp
  rw [ht]
theorem ip_tsO_out {df lo hi : Int} {offs : Array Int} {x : Int} (h : x < lo ∨ hi < x) : ip_tsO df lo hi offs x = some df := by
  unfold ip_tsO
  rw [show (decide (x < lo) || decide (hi < x)) = true by simpa using h]
  rfl
theorem ip_Ev.lsw {df : Int} {ps : Array (Int × Int)} {off : Int} {len t : Nat} {x : Int32} {r : List Value} (hin : ip_ins mi pc = some (.lookupswitch df ps, len)) (hs : ((ps.toList.zip (ps.toList.drop 1)).all (fun (a, next) => a.1 < next.1)) = true) (ho : Op.lookupswitch.offset ps.toList df x.toInt = off) (ht : ip_tg pc off = some t) (k : ip_Ev mi t lv r S rv S') : ip_Ev mi pc lv (.int x :: r) S rv S' := by
  refine ip_Ev.step ?_ k
  unfold ip_stp
  rw [hin]
  show ip_ls df ps pc lv (.int x :: r) S = _
  unfold ip_ls
  dsimp only
  rw [hs]
  dsimp only [cond]
  unfold ip_jp
  rw [ho, ht]
-- division
theorem ip_Ev.idiv {x y : Int32} {len : Nat} {r : List Value} (hi : ip_ins mi pc = some (.idiv, len)) (hy : ¬ y = 0) (k : ip_Ev mi (pc + 1) lv (.int (x / y) :: r) S rv S') : ip_Ev mi pc lv (.int y :: .int x :: r) S rv S' := by
  refine ip_Ev.step ?_ k
  unfold ip_stp
  rw [hi]
  show ip_bD (fun x y => x / y) (pc + 1) lv (.int y :: .int x :: r) S = _
  unfold ip_bD
  dsimp only
  rw [show decide (y = 0) = false from decide_eq_false hy]
  rfl
theorem ip_Ev.irem {x y : Int32} {len : Nat} {r : List Value} (hi : ip_ins mi pc = some (.irem, len)) (hy : ¬ y = 0) (k : ip_Ev mi (pc + 1) lv (.int (x - x / y * y) :: r) S rv S') : ip_Ev mi pc lv (.int y :: .int x :: r) S rv S' := by
  refine ip_Ev.step ?_ k
  unfold ip_stp
  rw [hi]
  show ip_bD (fun x y => x - x / y * y) (pc + 1) lv (.int y :: .int x :: r) S = _
  unfold ip_bD
  dsimp only
  rw [show decide (y = 0) = false from decide_eq_false hy]
  rfl
-- arrays
theorem ip_Ev.iald {c len : Nat} {i v : Int32} {r : List Value} (hi : ip_ins mi pc = some (.iaload, len)) (h : ip_aI S c i = some v) (k : ip_Ev mi (pc + 1) lv (.int v :: r) S rv S') : ip_Ev mi pc lv (.int i :: .ref c :: r) S rv S' := by
  refine ip_Ev.step ?_ k
  unfold ip_stp
  rw [hi]
  show ip_al (fun c i => (ip_aI S c i).map .int) pc lv (.int i :: .ref c :: r) S = _
  unfold ip_al
  dsimp only
  rw [h]
  rfl
theorem ip_Ev.lald {c len : Nat} {i : Int32} {v : Int64} {r : List Value} (hi : ip_ins mi pc = some (.laload, len)) (h : ip_aL S c i = some v) (k : ip_Ev mi (pc + 1) lv (.long v :: r) S rv S') : ip_Ev mi pc lv (.int i :: .ref c :: r) S rv S' := by
  refine ip_Ev.step ?_ k
  unfold ip_stp
  rw [hi]
  show ip_al (fun c i => (ip_aL S c i).map .long) pc lv (.int i :: .ref c :: r) S = _
  unfold ip_al
  dsimp only
  rw [h]
  rfl
theorem ip_Ev.zald {c len : Nat} {i v : Int32} {r : List Value} (hi : ip_ins mi pc = some (.baload, len)) (h : ip_aZ S c i = some v) (k : ip_Ev mi (pc + 1) lv (.int v :: r) S rv S') : ip_Ev mi pc lv (.int i :: .ref c :: r) S rv S' := by
  refine ip_Ev.step ?_ k
  unfold ip_stp
  rw [hi]
  show ip_al (fun c i => (ip_aZ S c i).map .int) pc lv (.int i :: .ref c :: r) S = _
  unfold ip_al
  dsimp only
  rw [h]
  rfl
theorem ip_Ev.aald {c len : Nat} {i : Int32} {v : Nat} {r : List Value} (hi : ip_ins mi pc = some (.aaload, len)) (h : ip_aA c i = some v) (k : ip_Ev mi (pc + 1) lv (.ref v :: r) S rv S') : ip_Ev mi pc lv (.int i :: .ref c :: r) S rv S' := by
  refine ip_Ev.step ?_ k
  unfold ip_stp
  rw [hi]
  show ip_al (fun c i => (ip_aA c i).map .ref) pc lv (.int i :: .ref c :: r) S = _
  unfold ip_al
  dsimp only
  rw [h]
  rfl
theorem ip_Ev.iast {c len : Nat} {i v : Int32} {S1 : ip_St} {r : List Value} (hi : ip_ins mi pc = some (.iastore, len)) (h : ip_wI S c i v = some S1) (k : ip_Ev mi (pc + 1) lv r S1 rv S') : ip_Ev mi pc lv (.int v :: .int i :: .ref c :: r) S rv S' := by
  refine ip_Ev.step ?_ k
  unfold ip_stp
  rw [hi]
  show ip_asI (ip_wI S) pc lv (.int v :: .int i :: .ref c :: r) = _
  unfold ip_asI
  dsimp only
  rw [h]
theorem ip_Ev.zast {c len : Nat} {i v : Int32} {S1 : ip_St} {r : List Value} (hi : ip_ins mi pc = some (.bastore, len)) (h : ip_wZ S c i v = some S1) (k : ip_Ev mi (pc + 1) lv r S1 rv S') : ip_Ev mi pc lv (.int v :: .int i :: .ref c :: r) S rv S' := by
  refine ip_Ev.step ?_ k
  unfold ip_stp
  rw [hi]
  show ip_asI (ip_wZ S) pc lv (.int v :: .int i :: .ref c :: r) = _
  unfold ip_asI
  dsimp only
  rw [h]
theorem ip_Ev.last {c len : Nat} {i : Int32} {v : Int64} {S1 : ip_St} {r : List Value} (hi : ip_ins mi pc = some (.lastore, len)) (h : ip_wL S c i v = some S1) (k : ip_Ev mi (pc + 1) lv r S1 rv S') : ip_Ev mi pc lv (.long v :: .int i :: .ref c :: r) S rv S' := by
  refine ip_Ev.step ?_ k
  unfold ip_stp
  rw [hi]
  show ip_asL (ip_wL S) pc lv (.long v :: .int i :: .ref c :: r) = _
  unfold ip_asL
  dsimp only
  rw [h]
-- fields of a cell that isn't written out
theorem ip_Ev.gfI {q len c ci j pl : Nat} {nst : Bool} {r : List Value} (hi : ip_ins mi pc = some (.getfield q, len)) (hf : ip_flk (ip_ow mi) q = some (ci, j, nst, pl)) (ho : ip_ob c = some ci) (ht : ip_ty ci j = 0 ∨ ip_ty ci j = 2) (k : ip_Ev mi (pc + 3) lv (.int (S.1 c j) :: r) S rv S') : ip_Ev mi pc lv (.ref c :: r) S rv S' := by
  refine ip_Ev.step ?_ k
  unfold ip_stp
  rw [hi]
  show ip_gf mi pc q lv (.ref c :: r) S = _
  unfold ip_gf
  rw [hf]
  dsimp only
  rw [ho]
  dsimp only
  rw [Nat.beq_refl]
  dsimp only [cond]
  rcases ht with ht | ht <;> (rw [ht]; try rfl)
theorem ip_Ev.pfI {q len c ci j pl : Nat} {nst : Bool} {v : Int32} {r : List Value} (hi : ip_ins mi pc = some (.putfield q, len)) (hf : ip_flk (ip_ow mi) q = some (ci, j, nst, pl)) (ho : ip_ob c = some ci) (ht : ip_ty ci j = 0) (k : ip_Ev mi (pc + 3) lv r (ip_upI S c j v) rv S') : ip_Ev mi pc lv (.int v :: .ref c :: r) S rv S' := by
  refine ip_Ev.step ?_ k
  unfold ip_stp
  rw [hi]
  show ip_pf mi pc q lv (.int v :: .ref c :: r) S = _
  unfold ip_pf
  rw [hf]
  dsimp only
  rw [ho]
  dsimp only
  rw [Nat.beq_refl]
  dsimp only [cond]
  rw [ht]
  try rfl
theorem ip_Ev.pfZ {q len c ci j pl : Nat} {nst : Bool} {v : Int32} {r : List Value} (hi : ip_ins mi pc = some (.putfield q, len)) (hf : ip_flk (ip_ow mi) q = some (ci, j, nst, pl)) (ho : ip_ob c = some ci) (ht : ip_ty ci j = 2) (hB : ip_isB v = true) (k : ip_Ev mi (pc + 3) lv r (ip_upI S c j v) rv S') : ip_Ev mi pc lv (.int v :: .ref c :: r) S rv S' := by
  refine ip_Ev.step ?_ k
  unfold ip_stp
  rw [hi]
  show ip_pf mi pc q lv (.int v :: .ref c :: r) S = _
  unfold ip_pf
  rw [hf]
  dsimp only
  rw [ho]
  dsimp only
  rw [Nat.beq_refl]
  dsimp only [cond]
  rw [ht]
  try dsimp only
  rw [hB]
  try rfl
theorem ip_isB_b (b : Bool) : ip_isB (ip_b2i b) = true := by cases b <;> decide
theorem ip_aA_ob : ∀ {c : Nat} {i : Int32} {d : Nat}, ip_aA c i = some d → ip_ob d = some 1 := by
  intro c i d h
  unfold ip_aA at h
  split at h
  · rename_i n hq
    obtain ⟨hc, hn⟩ := (ip_ar_lt hq).2.2.2.2.2.2 rfl
    dsimp only at hn
    subst hn
    cases hin : ip_in i 3 with
    | false =>
      rw [hin] at h
      cases h
    | true =>
      rw [hin] at h
      have h2 : ip_rf c i.toNatClampNeg = some d := h
      have h3 : i.toNatClampNeg < 3 := Nat.not_le.mp (fun q => (ip_in_vp hin) (Or.inr q))
      generalize i.toNatClampNeg = j at h2 h3
      rcases hc with rfl | rfl
      · match j, h3, h2 with
        | 0, _, h2 => cases h2; rfl
        | 1, _, h2 => cases h2; rfl
        | 2, _, h2 => cases h2; rfl
      · match j, h3, h2 with
        | 0, _, h2 => cases h2; rfl
        | 1, _, h2 => cases h2; rfl
        | 2, _, h2 => cases h2; rfl
  · cases h
end EV
