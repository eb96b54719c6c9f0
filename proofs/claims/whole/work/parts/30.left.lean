/-! ===== by how few questions: the theory ===== -/
theorem opn_iff {W F : Int64} : opn W F = true ↔ (¬ W &&& F = 0) ∧ ¬ W &&& (F ^^^ (-1)) = 0 := by
  unfold opn
  rw [Bool.and_eq_true, decide_eq_true_eq, decide_eq_true_eq]
theorem anyF_iff {p : Nat → Bool} : ∀ {n : Nat}, anyF p n = true ↔ ∃ f, f < n ∧ p f = true
  | 0 => ⟨fun h => (by cases h), fun ⟨f, hf, _⟩ => absurd hf (Nat.not_lt_zero f)⟩
  | n + 1 => by
    simp only [anyF]
    rw [Bool.or_eq_true, anyF_iff (n := n)]
    constructor
    · rintro (⟨f, h1, h2⟩ | h)
      · exact ⟨f, by omega, h2⟩
      · exact ⟨n, by omega, h⟩
    · rintro ⟨f, h1, h2⟩
      rcases Nat.lt_or_ge f n with q | q
      · exact Or.inl ⟨f, q, h2⟩
      · obtain rfl : f = n := by omega
        exact Or.inr h2
theorem QL_succ {k : Nat} {F : Int64} {n : Nat} {W : Int64} : QL k F (n + 1) W = true ↔ opn W F = false ∨ ∃ f, f < 6 ∧ QL k F n (W &&& sr k f false) = true ∧ QL k F n (W &&& sr k f true) = true := by
  simp only [QL]
  rw [Bool.or_eq_true, Bool.not_eq_true', anyF_iff]
  simp only [Bool.and_eq_true]
theorem QL_zero {k : Nat} {F : Int64} {W : Int64} : QL k F 0 W = true ↔ opn W F = false := by
  simp only [QL]
  rw [Bool.not_eq_true']
theorem QL_cl {k : Nat} {F : Int64} {W : Int64} (h : opn W F = false) : ∀ n, QL k F n W = true
  | 0 => QL_zero.mpr h
  | _ + 1 => QL_succ.mpr (Or.inl h)
theorem QL_up {k : Nat} {F : Int64} : ∀ {n : Nat} {W : Int64}, QL k F n W = true → QL k F (n + 1) W = true
  | 0, W, h => QL_cl (QL_zero.mp h) 1
  | n + 1, W, h => by
    rcases QL_succ.mp h with q | ⟨f, h1, h2, h3⟩
    · exact QL_cl q _
    · exact QL_succ.mpr (Or.inr ⟨f, h1, QL_up h2, QL_up h3⟩)
theorem QL_mono {k : Nat} {F : Int64} {W : Int64} {n m : Nat} (hnm : n ≤ m) (h : QL k F n W = true) : QL k F m W = true := by
  induction m with
  | zero =>
    obtain rfl : n = 0 := by omega
    exact h
  | succ m ih =>
    rcases Nat.lt_or_ge n (m + 1) with q | q
    · exact QL_up (ih (by omega))
    · obtain rfl : n = m + 1 := by omega
      exact h
theorem lb_sr {k f : Nat} (hk : k < 5) (hf : f < 6) (b : Bool) {w : Nat} (hw : w < 64) : lb (sr k f b) w = ((sayN k w).testBit f == b) := by
  unfold sr
  rw [lb_kb _ _ hw, lb_srow k hk f hf w hw]
theorem and_0 (x : Int64) : 0 &&& x = 0 := by
  apply lb_ext
  intro w hw
  rw [lb_and, lb_0]
  rfl
theorem opn_0 (F : Int64) : opn 0 F = false := by
  unfold opn
  rw [and_0]
  simp
/-- all of W say the same on f -/
def cst (k f : Nat) (W : Int64) : Prop := ∃ b : Bool, ∀ w, w < 64 → lb W w = true → (sayN k w).testBit f = b
theorem cst_sub {k f : Nat} {W X : Int64} (h : cst k f W) : cst k f (W &&& X) := by
  obtain ⟨b, hb⟩ := h
  refine ⟨b, fun w hw q => hb w hw ?_⟩
  rw [lb_and, Bool.and_eq_true] at q
  exact q.1
theorem cst_cut {k f : Nat} {W : Int64} (hk : k < 5) (hf : f < 6) (h : cst k f W) : ∃ b : Bool, W &&& sr k f b = W ∧ W &&& sr k f (!b) = 0 := by
  obtain ⟨b, hb⟩ := h
  refine ⟨b, ?_, ?_⟩
  · apply lb_iff
    intro w hw
    rw [lb_and, Bool.and_eq_true, lb_sr hk hf b hw]
    constructor
    · exact fun q => q.1
    · intro q
      refine ⟨q, ?_⟩
      rw [hb w hw q]
      simp
  · rw [lb_zero]
    intro w hw
    rw [lb_and, lb_sr hk hf _ hw]
    cases q : lb W w with
    | false => rfl
    | true =>
      rw [hb w hw q]
      cases b <;> rfl
theorem cst_sr {k f : Nat} (hk : k < 5) (hf : f < 6) (W : Int64) (b : Bool) : cst k f (W &&& sr k f b) := by
  refine ⟨b, fun w hw q => ?_⟩
  rw [lb_and, Bool.and_eq_true, lb_sr hk hf b hw] at q
  simpa using q.2
/-- facts outside P tell nothing: a question of P is as good -/
theorem QL_in {k : Nat} {F : Int64} (hk : k < 5) (P : Nat → Prop) : ∀ {n : Nat} {W : Int64}, (∀ f, f < 6 → ¬ P f → cst k f W) → opn W F = true → (QL k F (n + 1) W = true ↔ ∃ f, f < 6 ∧ P f ∧ QL k F n (W &&& sr k f false) = true ∧ QL k F n (W &&& sr k f true) = true) := by
  intro n
  induction n with
  | zero =>
    intro W hP ho
    constructor
    · intro h
      rcases QL_succ.mp h with q | ⟨f, h1, h2, h3⟩
      · rw [ho] at q; cases q
      · by_cases hp : P f
        · exact ⟨f, h1, hp, h2, h3⟩
        · obtain ⟨b, e1, -⟩ := cst_cut hk h1 (hP f h1 hp)
          exfalso
          cases b
          · rw [e1] at h2
            rw [QL_zero, ho] at h2
            cases h2
          · rw [e1] at h3
            rw [QL_zero, ho] at h3
            cases h3
    · rintro ⟨f, h1, -, h2, h3⟩
      exact QL_succ.mpr (Or.inr ⟨f, h1, h2, h3⟩)
  | succ n ih =>
    intro W hP ho
    constructor
    · intro h
      rcases QL_succ.mp h with q | ⟨f, h1, h2, h3⟩
      · rw [ho] at q; cases q
      · by_cases hp : P f
        · exact ⟨f, h1, hp, h2, h3⟩
        · obtain ⟨b, e1, -⟩ := cst_cut hk h1 (hP f h1 hp)
          have hw : QL k F (n + 1) W = true := by
            cases b
            · rw [e1] at h2; exact h2
            · rw [e1] at h3; exact h3
          obtain ⟨g, g1, g2, g3, g4⟩ := (ih hP ho).mp hw
          exact ⟨g, g1, g2, QL_up g3, QL_up g4⟩
    · rintro ⟨f, h1, -, h2, h3⟩
      exact QL_succ.mpr (Or.inr ⟨f, h1, h2, h3⟩)
/-- F tells worlds apart by what is said in them alone -/
def sayd (k : Nat) (F : Int64) : Prop := ∀ w v, w < 64 → v < 64 → (∀ f, f < 6 → (sayN k w).testBit f = (sayN k v).testBit f) → lb F w = lb F v
theorem fre_sayd {k : Nat} (hk : k < 5) (x : Int64) : sayd k (fre k x) := by
  intro w v hw hv h
  rw [lb_fre hk x hw, lb_fre hk x hv, eq6 (sayN_lt k hk w hw) (sayN_lt k hk v hv) h]
theorem lb_some {x : Int64} (h : ¬ x = 0) : ∃ w, w < 64 ∧ lb x w = true := by
  apply Classical.byContradiction
  intro q
  apply h
  rw [lb_zero]
  intro w hw
  cases hx : lb x w with
  | false => rfl
  | true => exact absurd ⟨w, hw, hx⟩ q
theorem QL_al {k : Nat} {F : Int64} (hk : k < 5) (hF : sayd k F) : ∀ (m : Nat) (W : Int64), m ≤ 6 → (∀ f, f < 6 → m ≤ f → cst k f W) → QL k F m W = true := by
  intro m
  induction m with
  | zero =>
    intro W _ hc
    rw [QL_zero]
    cases ho : opn W F with
    | false => rfl
    | true =>
      exfalso
      obtain ⟨h1, h2⟩ := opn_iff.mp ho
      obtain ⟨w, w1, w2⟩ := lb_some h1
      obtain ⟨v, v1, v2⟩ := lb_some h2
      rw [lb_and, Bool.and_eq_true] at w2 v2
      rw [lb_not _ v1] at v2
      have : lb F w = lb F v := hF w v w1 v1 (fun f hf => by
        obtain ⟨b, hb⟩ := hc f hf (Nat.zero_le f)
        rw [hb w w1 w2.1, hb v v1 v2.1])
      rw [← this, w2.2] at v2
      cases v2.2
  | succ m ih =>
    intro W hm hc
    refine QL_succ.mpr (Or.inr ⟨m, by omega, ?_, ?_⟩)
    · refine ih _ (by omega) (fun f hf hmf => ?_)
      by_cases q : f = m
      · subst q
        exact cst_sr hk hf W false
      · exact cst_sub (hc f hf (by omega))
    · refine ih _ (by omega) (fun f hf hmf => ?_)
      by_cases q : f = m
      · subst q
        exact cst_sr hk hf W true
      · exact cst_sub (hc f hf (by omega))
theorem QL_6 {k : Nat} {F : Int64} (hk : k < 5) (hF : sayd k F) (W : Int64) : QL k F 6 W = true := QL_al hk hF 6 W (Nat.le_refl 6) (fun f hf h => by omega)
theorem ct_mono {p : Nat → Bool} (hp : ∀ n m, n ≤ m → p n = true → p m = true) : ∀ (M n : Nat), n < M → (ct (fun i => !(p i)) M ≤ n ↔ p n = true) := by
  intro M
  induction M with
  | zero =>
    intro n hn
    omega
  | succ M ih =>
    intro n hn
    have hle := ct_le (fun i => !(p i)) M
    show ct (fun i => !(p i)) M + (if (!(p M)) = true then 1 else 0) ≤ n ↔ p n = true
    rcases Nat.lt_or_ge n M with q | q
    · have := ih n q
      cases hM : p M with
      | true =>
        simp only [Bool.not_true, Bool.false_eq_true, if_false, Nat.add_zero]
        exact this
      | false =>
        have hn0 : p n = false := by
          cases h : p n with
          | false => rfl
          | true =>
            have := hp n M (by omega) h
            rw [hM] at this
            cases this
        have hall : ∀ i, i < M → (fun i => !(p i)) i = true := by
          intro i hi
          cases h : p i with
          | false => simp [h]
          | true =>
            have := hp i M (by omega) h
            rw [hM] at this
            cases this
        have hfull : ct (fun i => !(p i)) M = M := by
          have : ct (fun i => !(p i)) M = ct (fun _ => true) M := ct_cong hall
          rw [this]
          clear this ih hle
          induction M with
          | zero => rfl
          | succ M ih2 =>
            simp only [ct, if_true]
            have : ∀ N, ct (fun _ => true) N = N := by
              intro N
              induction N with
              | zero => rfl
              | succ N ihN => simp only [ct, if_true]; rw [ihN]
            rw [this]
        rw [hfull, hn0]
        simp
        omega
    · obtain rfl : n = M := by omega
      cases hM : p n with
      | true => simp; exact hle
      | false =>
        have hall : ∀ i, i < n → (fun i => !(p i)) i = true := by
          intro i hi
          cases h : p i with
          | false => simp [h]
          | true =>
            have := hp i n (by omega) h
            rw [hM] at this
            cases this
        have hfull : ct (fun i => !(p i)) n = n := by
          have e : ct (fun i => !(p i)) n = ct (fun _ => true) n := ct_cong hall
          rw [e]
          have : ∀ N, ct (fun _ => true) N = N := by
            intro N
            induction N with
            | zero => rfl
            | succ N ihN => simp only [ct, if_true]; rw [ihN]
          exact this n
        rw [hfull]
        simp
theorem lfN_le {k : Nat} {F W : Int64} (hk : k < 5) (hF : sayd k F) (n : Nat) : lfN k W F ≤ n ↔ QL k F n W = true := by
  have h6 : lfN k W F ≤ 6 := ct_le _ 6
  rcases Nat.lt_or_ge n 6 with q | q
  · exact ct_mono (fun a b hab h => QL_mono hab h) 6 n q
  · constructor
    · exact fun _ => QL_mono q (QL_6 hk hF W)
    · exact fun _ => by omega
theorem lfN_6 (k : Nat) (F W : Int64) : lfN k W F ≤ 6 := ct_le _ 6
theorem lfN_un {k : Nat} {F W : Int64} (hk : k < 5) (hF : sayd k F) {v : Nat} (h : ∀ n, v ≤ n ↔ QL k F n W = true) : v = lfN k W F := by
  have h1 := (lfN_le hk hF v).mpr ((h v).mp (Nat.le_refl v))
  have h2 := (h (lfN k W F)).mpr ((lfN_le hk hF _).mp (Nat.le_refl _))
  omega
theorem lfN_cl {k : Nat} {F W : Int64} (hk : k < 5) (hF : sayd k F) (h : opn W F = false) : lfN k W F = 0 := by
  have := (lfN_le hk hF (W := W) 0).mpr (QL_zero.mpr h)
  omega
theorem lfN_op {k : Nat} {F W : Int64} (hk : k < 5) (hF : sayd k F) (h : opn W F = true) : 0 < lfN k W F := by
  rcases Nat.eq_zero_or_pos (lfN k W F) with q | q
  · have := (lfN_le hk hF (W := W) 0).mp (by omega)
    rw [QL_zero, h] at this
    cases this
  · exact q
-- the least over some facts
def mx (a b : Nat) : Nat := if a < b then b else a
theorem mx_le {a b n : Nat} : mx a b ≤ n ↔ a ≤ n ∧ b ≤ n := by
  unfold mx
  split <;> omega
def lmn (g : Nat → Nat) (P : Nat → Bool) (s : Nat) : Nat → Nat
  | 0 => s
  | n + 1 => if P n = true ∧ g n < lmn g P s n then g n else lmn g P s n
theorem lmn_le {g : Nat → Nat} {P : Nat → Bool} {s : Nat} : ∀ {n m : Nat}, lmn g P s n ≤ m ↔ s ≤ m ∨ ∃ f, f < n ∧ P f = true ∧ g f ≤ m
  | 0, m => ⟨fun h => Or.inl h, fun h => by rcases h with h | ⟨f, h, -⟩; exact h; exact absurd h (Nat.not_lt_zero f)⟩
  | n + 1, m => by
    have ih := lmn_le (g := g) (P := P) (s := s) (n := n) (m := m)
    simp only [lmn]
    constructor
    · intro h
      split at h
      · rename_i q
        exact Or.inr ⟨n, by omega, q.1, h⟩
      · rcases ih.mp h with q | ⟨f, f1, f2, f3⟩
        · exact Or.inl q
        · exact Or.inr ⟨f, by omega, f2, f3⟩
    · intro h
      have key : lmn g P s n ≤ m ∨ (P n = true ∧ g n ≤ m) := by
        rcases h with h | ⟨f, f1, f2, f3⟩
        · exact Or.inl (ih.mpr (Or.inl h))
        · rcases Nat.lt_or_ge f n with q | q
          · exact Or.inl (ih.mpr (Or.inr ⟨f, q, f2, f3⟩))
          · obtain rfl : f = n := by omega
            exact Or.inr ⟨f2, f3⟩
      split
      · rename_i q
        rcases key with key | key
        · omega
        · exact key.2
      · rename_i q
        rcases key with key | key
        · exact key
        · have : ¬ g n < lmn g P s n := fun z => q ⟨key.1, z⟩
          omega
def lfm (g : Nat → Nat) (P : Nat → Bool) (s : Nat) : Nat → Int32
  | 0 => -1
  | n + 1 => if P n = true ∧ g n < lmn g P s n then nI n else lfm g P s n
/-- the first that has the least -/
theorem lfm_fst {g : Nat → Nat} {P p : Nat → Bool} {s v : Nat} (hv : v < s) (hp : ∀ f, f < 6 → (p f = true ↔ P f = true ∧ g f ≤ v)) (hlow : ∀ f, f < 6 → P f = true → v ≤ g f) : ∀ n, n ≤ 6 → (lmn g P s n ≤ v → fstF p n = lfm g P s n ∧ ¬ fstF p n = -1) ∧ (¬ lmn g P s n ≤ v → fstF p n = -1) := by
  intro n
  induction n with
  | zero =>
    intro _
    exact ⟨fun h => by simp only [lmn] at h; omega, fun _ => rfl⟩
  | succ n ih =>
    intro hn
    obtain ⟨i1, i2⟩ := ih (by omega)
    have hpn := hp n (by omega)
    have hln := hlow n (by omega)
    simp only [lmn, lfm, fstF]
    by_cases hle : lmn g P s n ≤ v
    · obtain ⟨e1, e2⟩ := i1 hle
      have hno : ¬ (P n = true ∧ g n < lmn g P s n) := by
        rintro ⟨a, b⟩
        have := hln a
        omega
      rw [if_neg hno, if_neg e2, if_neg hno]
      exact ⟨fun _ => ⟨e1, e2⟩, fun q => absurd hle q⟩
    · have e := i2 hle
      rw [if_pos e]
      by_cases hq : P n = true ∧ g n < lmn g P s n
      · rw [if_pos hq, if_pos hq]
        constructor
        · intro hg
          have : p n = true := hpn.mpr ⟨hq.1, hg⟩
          rw [if_pos this]
          exact ⟨rfl, (nI_n1 (by omega)).1⟩
        · intro hg
          have : ¬ p n = true := fun z => hg (hpn.mp z).2
          rw [if_neg this]
      · rw [if_neg hq, if_neg hq]
        constructor
        · intro h
          exact absurd h hle
        · intro _
          have : ¬ p n = true := fun z => by
            obtain ⟨a, b⟩ := hpn.mp z
            exact hq ⟨a, by omega⟩
          rw [if_neg this]
/-- the least of worst answers over the facts of P is lfN; the first that has it is lfF -/
theorem left_eq {k : Nat} {F W : Int64} (hk : k < 5) (hF : sayd k F) (ho : opn W F = true) (P : Nat → Bool) (hP : ∀ f, f < 6 → P f = false → cst k f W) (s : Nat) (hs : 6 ≤ s) : lmn (fun f => mx (lfN k (W &&& sr k f false) F) (lfN k (W &&& sr k f true) F) + 1) P s 6 = lfN k W F := by
  apply lfN_un hk hF
  intro n
  rw [lmn_le]
  constructor
  · rintro (h | ⟨f, f1, f2, f3⟩)
    · exact QL_mono (by omega) (QL_6 hk hF W)
    · obtain ⟨m, rfl⟩ : ∃ m, n = m + 1 := ⟨n - 1, by omega⟩
      have f3' : mx (lfN k (W &&& sr k f false) F) (lfN k (W &&& sr k f true) F) + 1 ≤ m + 1 := f3
      have := mx_le.mp (show mx (lfN k (W &&& sr k f false) F) (lfN k (W &&& sr k f true) F) ≤ m by omega)
      exact QL_succ.mpr (Or.inr ⟨f, f1, (lfN_le hk hF m).mp this.1, (lfN_le hk hF m).mp this.2⟩)
  · intro h
    cases n with
    | zero =>
      rw [QL_zero, ho] at h
      cases h
    | succ m =>
      obtain ⟨f, f1, f2, f3, f4⟩ := (QL_in hk (fun f => P f = true) (fun f hf q => hP f hf (by simpa using q)) ho).mp h
      refine Or.inr ⟨f, f1, f2, ?_⟩
      have := mx_le.mpr ⟨(lfN_le hk hF m).mpr f3, (lfN_le hk hF m).mpr f4⟩
      omega
theorem left_fst {k : Nat} {F W : Int64} (hk : k < 5) (hF : sayd k F) (ho : opn W F = true) (P : Nat → Bool) (hP : ∀ f, f < 6 → P f = false → cst k f W) (s : Nat) (hs : 6 < s) : lfm (fun f => mx (lfN k (W &&& sr k f false) F) (lfN k (W &&& sr k f true) F) + 1) P s 6 = lfF k W F := by
  have hv := lfN_op hk hF ho
  have h6 := lfN_6 k F W
  have he := left_eq hk hF ho P hP s (by omega)
  unfold lfF
  rw [if_pos ho]
  have hlow : ∀ f, f < 6 → P f = true → lfN k W F ≤ mx (lfN k (W &&& sr k f false) F) (lfN k (W &&& sr k f true) F) + 1 := by
    intro f hf hp
    rw [← he]
    exact lmn_le.mpr (Or.inr ⟨f, hf, hp, Nat.le_refl _⟩)
  refine (((lfm_fst (s := s) (v := lfN k W F) (by omega) (fun f hf => ?_) hlow 6 (Nat.le_refl 6)).1 (by rw [he]; exact Nat.le_refl _)).1).symm
  rw [Bool.and_eq_true, ← lfN_le hk hF, ← lfN_le hk hF]
  constructor
  · rintro ⟨a, b⟩
    have hp : P f = true := by
      cases q : P f with
      | true => rfl
      | false =>
        exfalso
        obtain ⟨c, e1, -⟩ := cst_cut hk hf (hP f hf q)
        cases c
        · rw [e1] at a; omega
        · rw [e1] at b; omega
    have := mx_le.mpr ⟨a, b⟩
    exact ⟨hp, by omega⟩
  · rintro ⟨-, b⟩
    have := mx_le.mp (show mx (lfN k (W &&& sr k f false) F) (lfN k (W &&& sr k f true) F) ≤ lfN k W F - 1 by omega)
    exact this
