/-! ===== the law, as the small machine runs it ===== -/
abbrev lvL (i : Nat) : ip_LV := [some (.ref 58), some (.ref 0), some (.ref 30), some (.int (nI i))]
theorem scr_at {L : Nat} {xs : Nat → Int32} {S : ip_St} (h : ip_Sc L xs S) (hL : L ≤ 320) {i k : Nat} (hi : i + k < L) (x : Int32) (hx : x = nI k) : ip_aI S 58 (nI i + x) = some (xs (i + k)) := by
  obtain ⟨h1, h2⟩ := h
  rw [hx, nI_add]
  unfold ip_aI
  show cond (ip_in (nI (i + k)) (S.1 59 0).toNatClampNeg) (some (S.1 58 (nI (i + k)).toNatClampNeg)) none = _
  have e : S.1 59 0 = nI L := h1
  rw [e, nI_clamp (by omega), nI_clamp (by omega), in_at hi (by omega), h2 _ hi]
  rfl
theorem scr_at0 {L : Nat} {xs : Nat → Int32} {S : ip_St} (h : ip_Sc L xs S) (hL : L ≤ 320) {i : Nat} (hi : i < L) : ip_aI S 58 (nI i) = some (xs i) := by
  have := scr_at h hL (k := 0) hi 0 rfl
  rw [show nI i + 0 = nI (i + 0) from nI_add i 0] at this
  exact this
set_option maxRecDepth 10000 in
theorem lw_letter {N L i : Nat} {xs : Nat → Int32} {S : ip_St} (hL : L ≤ 320) (hi : i + 5 ≤ L) (h : Inv N L xs S) : ∃ S2, Inv (N + 1) L xs S2 ∧ ∀ rv S', ip_Ev 189 18 (lvL (i + 5)) [] S2 rv S' → ip_Ev 189 148 (lvL i) [] S rv S' := by
  obtain ⟨r, S1, S2, c1, c2, c3, c4⟩ := c_letter h (xs (i + 1))
  refine ⟨S2, c4, fun rv S' k => ?_⟩
  refine ip_Ev.steps 5 (pc' := 153) (lv' := lvL i) (st' := [.int (nI i + 1), .ref 58, .ref 0]) (S1 := S) rfl ?_
  refine ip_Ev.iald (v := xs (i + 1)) rfl (scr_at h.2.2 hL (by omega) 1 rfl) ?_
  refine ip_Ev.call (i := 0) (a := [.ref 0, .int (xs (i + 1))]) (r := []) rfl c1 ?_
  show ip_Ev 189 157 (lvL i) [.int r] S1 _ _
  refine ip_Ev.steps 5 (pc' := 162) (lv' := lvL i) (st' := [.int (nI i + 1), .ref 58, .ref 30, .int r]) (S1 := S1) rfl ?_
  refine ip_Ev.iald (v := xs (i + 1)) rfl (scr_at c3 hL (by omega) 1 rfl) ?_
  refine ip_Ev.call (i := 102) (a := [.ref 30, .int (xs (i + 1))]) (r := [.int r]) rfl c2 ?_
  show ip_Ev 189 166 (lvL i) [.int r, .int r] S2 _ _
  refine ip_Ev.iff2 (t := 775) rfl rfl ip_cEq (fun _ => ?_) (fun z => absurd rfl z)
  refine ip_Ev.steps 2 (pc' := 18) (lv' := [some (.ref 58), some (.ref 0), some (.ref 30), some (.int (nI i + 5))]) (st' := []) (S1 := S2) rfl ?_
  rw [show nI i + 5 = nI (i + 5) from nI_add i 5]
  exact k
set_option maxRecDepth 10000 in
theorem lw_blank {N L i : Nat} {xs : Nat → Int32} {S : ip_St} (hL : L ≤ 320) (hi : i + 5 ≤ L) (h : Inv N L xs S) : ∃ S2, Inv (N + 1) L xs S2 ∧ ∀ rv S', ip_Ev 189 18 (lvL (i + 5)) [] S2 rv S' → ip_Ev 189 171 (lvL i) [] S rv S' := by
  obtain ⟨r, S1, S2, c1, c2, c3, c4⟩ := c_blank h
  refine ⟨S2, c4, fun rv S' k => ?_⟩
  refine ip_Ev.steps 1 (pc' := 172) (lv' := lvL i) (st' := [.ref 0]) (S1 := S) rfl ?_
  refine ip_Ev.call (i := 1) (a := [.ref 0]) (r := []) rfl c1 ?_
  show ip_Ev 189 175 (lvL i) [.int r] S1 _ _
  refine ip_Ev.steps 1 (pc' := 176) (lv' := lvL i) (st' := [.ref 30, .int r]) (S1 := S1) rfl ?_
  refine ip_Ev.call (i := 103) (a := [.ref 30]) (r := [.int r]) rfl c2 ?_
  show ip_Ev 189 179 (lvL i) [.int r, .int r] S2 _ _
  refine ip_Ev.iff2 (t := 775) rfl rfl ip_cEq (fun _ => ?_) (fun z => absurd rfl z)
  refine ip_Ev.steps 2 (pc' := 18) (lv' := [some (.ref 58), some (.ref 0), some (.ref 30), some (.int (nI i + 5))]) (st' := []) (S1 := S2) rfl ?_
  rw [show nI i + 5 = nI (i + 5) from nI_add i 5]
  exact k
set_option maxRecDepth 10000 in
theorem lw_fault {N L i : Nat} {xs : Nat → Int32} {S : ip_St} (hL : L ≤ 320) (hi : i + 5 ≤ L) (h : Inv N L xs S) : ∃ S2, Inv (N + 1) L xs S2 ∧ ∀ rv S', ip_Ev 189 18 (lvL (i + 5)) [] S2 rv S' → ip_Ev 189 184 (lvL i) [] S rv S' := by
  obtain ⟨r, S1, S2, c1, c2, c3, c4⟩ := c_fault h
  refine ⟨S2, c4, fun rv S' k => ?_⟩
  refine ip_Ev.steps 1 (pc' := 185) (lv' := lvL i) (st' := [.ref 0]) (S1 := S) rfl ?_
  refine ip_Ev.call (i := 20) (a := [.ref 0]) (r := []) rfl c1 ?_
  show ip_Ev 189 188 (lvL i) [.int r] S1 _ _
  refine ip_Ev.steps 1 (pc' := 189) (lv' := lvL i) (st' := [.ref 30, .int r]) (S1 := S1) rfl ?_
  refine ip_Ev.call (i := 113) (a := [.ref 30]) (r := [.int r]) rfl c2 ?_
  show ip_Ev 189 192 (lvL i) [.int r, .int r] S2 _ _
  refine ip_Ev.iff2 (t := 775) rfl rfl ip_cEq (fun _ => ?_) (fun z => absurd rfl z)
  refine ip_Ev.steps 2 (pc' := 18) (lv' := [some (.ref 58), some (.ref 0), some (.ref 30), some (.int (nI i + 5))]) (st' := []) (S1 := S2) rfl ?_
  rw [show nI i + 5 = nI (i + 5) from nI_add i 5]
  exact k
set_option maxRecDepth 10000 in
theorem lw_court {N L i : Nat} {xs : Nat → Int32} {S : ip_St} (hL : L ≤ 320) (hi : i + 5 ≤ L) (h : Inv N L xs S) : ∃ S2, Inv (N + 1) L xs S2 ∧ ∀ rv S', ip_Ev 189 18 (lvL (i + 5)) [] S2 rv S' → ip_Ev 189 197 (lvL i) [] S rv S' := by
  obtain ⟨r, S1, S2, c1, c2, c3, c4⟩ := c_court h
  refine ⟨S2, c4, fun rv S' k => ?_⟩
  refine ip_Ev.steps 1 (pc' := 198) (lv' := lvL i) (st' := [.ref 0]) (S1 := S) rfl ?_
  refine ip_Ev.call (i := 29) (a := [.ref 0]) (r := []) rfl c1 ?_
  show ip_Ev 189 201 (lvL i) [.int r] S1 _ _
  refine ip_Ev.steps 1 (pc' := 202) (lv' := lvL i) (st' := [.ref 30, .int r]) (S1 := S1) rfl ?_
  refine ip_Ev.call (i := 125) (a := [.ref 30]) (r := [.int r]) rfl c2 ?_
  show ip_Ev 189 205 (lvL i) [.int r, .int r] S2 _ _
  refine ip_Ev.iff2 (t := 775) rfl rfl ip_cEq (fun _ => ?_) (fun z => absurd rfl z)
  refine ip_Ev.steps 2 (pc' := 18) (lv' := [some (.ref 58), some (.ref 0), some (.ref 30), some (.int (nI i + 5))]) (st' := []) (S1 := S2) rfl ?_
  rw [show nI i + 5 = nI (i + 5) from nI_add i 5]
  exact k
set_option maxRecDepth 10000 in
theorem lw_amend {N L i : Nat} {xs : Nat → Int32} {S : ip_St} (hL : L ≤ 320) (hi : i + 5 ≤ L) (h : Inv N L xs S) : ∃ S2, Inv (N + 1) L xs S2 ∧ ∀ rv S', ip_Ev 189 18 (lvL (i + 5)) [] S2 rv S' → ip_Ev 189 210 (lvL i) [] S rv S' := by
  obtain ⟨r, S1, S2, c1, c2, c3, c4⟩ := c_amend h
  refine ⟨S2, c4, fun rv S' k => ?_⟩
  refine ip_Ev.steps 1 (pc' := 211) (lv' := lvL i) (st' := [.ref 0]) (S1 := S) rfl ?_
  refine ip_Ev.call (i := 32) (a := [.ref 0]) (r := []) rfl c1 ?_
  show ip_Ev 189 214 (lvL i) [.int r] S1 _ _
  refine ip_Ev.steps 1 (pc' := 215) (lv' := lvL i) (st' := [.ref 30, .int r]) (S1 := S1) rfl ?_
  refine ip_Ev.call (i := 128) (a := [.ref 30]) (r := [.int r]) rfl c2 ?_
  show ip_Ev 189 218 (lvL i) [.int r, .int r] S2 _ _
  refine ip_Ev.iff2 (t := 775) rfl rfl ip_cEq (fun _ => ?_) (fun z => absurd rfl z)
  refine ip_Ev.steps 2 (pc' := 18) (lv' := [some (.ref 58), some (.ref 0), some (.ref 30), some (.int (nI i + 5))]) (st' := []) (S1 := S2) rfl ?_
  rw [show nI i + 5 = nI (i + 5) from nI_add i 5]
  exact k
set_option maxRecDepth 10000 in
theorem lw_lawFault {N L i : Nat} {xs : Nat → Int32} {S : ip_St} (hL : L ≤ 320) (hi : i + 5 ≤ L) (h : Inv N L xs S) : ∃ S2, Inv (N + 1) L xs S2 ∧ ∀ rv S', ip_Ev 189 18 (lvL (i + 5)) [] S2 rv S' → ip_Ev 189 223 (lvL i) [] S rv S' := by
  obtain ⟨r, S1, S2, c1, c2, c3, c4⟩ := c_lawFault h
  refine ⟨S2, c4, fun rv S' k => ?_⟩
  refine ip_Ev.steps 1 (pc' := 224) (lv' := lvL i) (st' := [.ref 0]) (S1 := S) rfl ?_
  refine ip_Ev.call (i := 33) (a := [.ref 0]) (r := []) rfl c1 ?_
  show ip_Ev 189 227 (lvL i) [.int r] S1 _ _
  refine ip_Ev.steps 1 (pc' := 228) (lv' := lvL i) (st' := [.ref 30, .int r]) (S1 := S1) rfl ?_
  refine ip_Ev.call (i := 114) (a := [.ref 30]) (r := [.int r]) rfl c2 ?_
  show ip_Ev 189 231 (lvL i) [.int r, .int r] S2 _ _
  refine ip_Ev.iff2 (t := 775) rfl rfl ip_cEq (fun _ => ?_) (fun z => absurd rfl z)
  refine ip_Ev.steps 2 (pc' := 18) (lv' := [some (.ref 58), some (.ref 0), some (.ref 30), some (.int (nI i + 5))]) (st' := []) (S1 := S2) rfl ?_
  rw [show nI i + 5 = nI (i + 5) from nI_add i 5]
  exact k
set_option maxRecDepth 10000 in
theorem lw_statute {N L i : Nat} {xs : Nat → Int32} {S : ip_St} (hL : L ≤ 320) (hi : i + 5 ≤ L) (h : Inv N L xs S) : ∃ S2, Inv (N + 1) L xs S2 ∧ ∀ rv S', ip_Ev 189 18 (lvL (i + 5)) [] S2 rv S' → ip_Ev 189 236 (lvL i) [] S rv S' := by
  obtain ⟨r, S1, S2, c1, c2, c3, c4⟩ := c_statute h (xs (i + 1))
  refine ⟨S2, c4, fun rv S' k => ?_⟩
  refine ip_Ev.steps 5 (pc' := 241) (lv' := lvL i) (st' := [.int (nI i + 1), .ref 58, .ref 0]) (S1 := S) rfl ?_
  refine ip_Ev.iald (v := xs (i + 1)) rfl (scr_at h.2.2 hL (by omega) 1 rfl) ?_
  refine ip_Ev.call (i := 36) (a := [.ref 0, .int (xs (i + 1))]) (r := []) rfl c1 ?_
  show ip_Ev 189 245 (lvL i) [.int r] S1 _ _
  refine ip_Ev.steps 5 (pc' := 250) (lv' := lvL i) (st' := [.int (nI i + 1), .ref 58, .ref 30, .int r]) (S1 := S1) rfl ?_
  refine ip_Ev.iald (v := xs (i + 1)) rfl (scr_at c3 hL (by omega) 1 rfl) ?_
  refine ip_Ev.call (i := 133) (a := [.ref 30, .int (xs (i + 1))]) (r := [.int r]) rfl c2 ?_
  show ip_Ev 189 254 (lvL i) [.int r, .int r] S2 _ _
  refine ip_Ev.iff2 (t := 775) rfl rfl ip_cEq (fun _ => ?_) (fun z => absurd rfl z)
  refine ip_Ev.steps 2 (pc' := 18) (lv' := [some (.ref 58), some (.ref 0), some (.ref 30), some (.int (nI i + 5))]) (st' := []) (S1 := S2) rfl ?_
  rw [show nI i + 5 = nI (i + 5) from nI_add i 5]
  exact k
set_option maxRecDepth 10000 in
theorem lw_holds {N L i : Nat} {xs : Nat → Int32} {S : ip_St} (hL : L ≤ 320) (hi : i + 5 ≤ L) (h : Inv N L xs S) : ∃ S2, Inv (N + 1) L xs S2 ∧ ∀ rv S', ip_Ev 189 18 (lvL (i + 5)) [] S2 rv S' → ip_Ev 189 259 (lvL i) [] S rv S' := by
  obtain ⟨r, S1, S2, c1, c2, c3, c4⟩ := c_holds h (xs (i + 1))
  refine ⟨S2, c4, fun rv S' k => ?_⟩
  refine ip_Ev.steps 5 (pc' := 264) (lv' := lvL i) (st' := [.int (nI i + 1), .ref 58, .ref 0]) (S1 := S) rfl ?_
  refine ip_Ev.iald (v := xs (i + 1)) rfl (scr_at h.2.2 hL (by omega) 1 rfl) ?_
  refine ip_Ev.call (i := 39) (a := [.ref 0, .int (xs (i + 1))]) (r := []) rfl c1 ?_
  show ip_Ev 189 268 (lvL i) [.int r] S1 _ _
  refine ip_Ev.steps 5 (pc' := 273) (lv' := lvL i) (st' := [.int (nI i + 1), .ref 58, .ref 30, .int r]) (S1 := S1) rfl ?_
  refine ip_Ev.iald (v := xs (i + 1)) rfl (scr_at c3 hL (by omega) 1 rfl) ?_
  refine ip_Ev.call (i := 134) (a := [.ref 30, .int (xs (i + 1))]) (r := [.int r]) rfl c2 ?_
  show ip_Ev 189 277 (lvL i) [.int r, .int r] S2 _ _
  refine ip_Ev.iff2 (t := 775) rfl rfl ip_cEq (fun _ => ?_) (fun z => absurd rfl z)
  refine ip_Ev.steps 2 (pc' := 18) (lv' := [some (.ref 58), some (.ref 0), some (.ref 30), some (.int (nI i + 5))]) (st' := []) (S1 := S2) rfl ?_
  rw [show nI i + 5 = nI (i + 5) from nI_add i 5]
  exact k
set_option maxRecDepth 10000 in
theorem lw_judge {N L i : Nat} {xs : Nat → Int32} {S : ip_St} (hL : L ≤ 320) (hi : i + 5 ≤ L) (h : Inv N L xs S) : ∃ S2, Inv (N + 1) L xs S2 ∧ ∀ rv S', ip_Ev 189 18 (lvL (i + 5)) [] S2 rv S' → ip_Ev 189 282 (lvL i) [] S rv S' := by
  obtain ⟨r, S1, S2, c1, c2, c3, c4⟩ := c_judge h (xs (i + 1)) (xs (i + 2))
  refine ⟨S2, c4, fun rv S' k => ?_⟩
  refine ip_Ev.steps 5 (pc' := 287) (lv' := lvL i) (st' := [.int (nI i + 1), .ref 58, .ref 0]) (S1 := S) rfl ?_
  refine ip_Ev.iald (v := xs (i + 1)) rfl (scr_at h.2.2 hL (by omega) 1 rfl) ?_
  refine ip_Ev.steps 4 (pc' := 292) (lv' := lvL i) (st' := [.int (nI i + 2), .ref 58, .int (xs (i + 1)), .ref 0]) (S1 := S) rfl ?_
  refine ip_Ev.iald (v := xs (i + 2)) rfl (scr_at h.2.2 hL (by omega) 2 rfl) ?_
  refine ip_Ev.call (i := 67) (a := [.ref 0, .int (xs (i + 1)), .int (xs (i + 2))]) (r := []) rfl c1 ?_
  show ip_Ev 189 296 (lvL i) [.int r] S1 _ _
  refine ip_Ev.steps 5 (pc' := 301) (lv' := lvL i) (st' := [.int (nI i + 1), .ref 58, .ref 30, .int r]) (S1 := S1) rfl ?_
  refine ip_Ev.iald (v := xs (i + 1)) rfl (scr_at c3 hL (by omega) 1 rfl) ?_
  refine ip_Ev.steps 4 (pc' := 306) (lv' := lvL i) (st' := [.int (nI i + 2), .ref 58, .int (xs (i + 1)), .ref 30, .int r]) (S1 := S1) rfl ?_
  refine ip_Ev.iald (v := xs (i + 2)) rfl (scr_at c3 hL (by omega) 2 rfl) ?_
  refine ip_Ev.call (i := 154) (a := [.ref 30, .int (xs (i + 1)), .int (xs (i + 2))]) (r := [.int r]) rfl c2 ?_
  show ip_Ev 189 310 (lvL i) [.int r, .int r] S2 _ _
  refine ip_Ev.iff2 (t := 775) rfl rfl ip_cEq (fun _ => ?_) (fun z => absurd rfl z)
  refine ip_Ev.steps 2 (pc' := 18) (lv' := [some (.ref 58), some (.ref 0), some (.ref 30), some (.int (nI i + 5))]) (st' := []) (S1 := S2) rfl ?_
  rw [show nI i + 5 = nI (i + 5) from nI_add i 5]
  exact k
set_option maxRecDepth 10000 in
theorem lw_as {N L i : Nat} {xs : Nat → Int32} {S : ip_St} (hL : L ≤ 320) (hi : i + 5 ≤ L) (h : Inv N L xs S) : ∃ S2, Inv (N + 1) L xs S2 ∧ ∀ rv S', ip_Ev 189 18 (lvL (i + 5)) [] S2 rv S' → ip_Ev 189 315 (lvL i) [] S rv S' := by
  obtain ⟨r, S1, S2, c1, c2, c3, c4⟩ := c_as h (xs (i + 1)) (xs (i + 2))
  refine ⟨S2, c4, fun rv S' k => ?_⟩
  refine ip_Ev.steps 5 (pc' := 320) (lv' := lvL i) (st' := [.int (nI i + 1), .ref 58, .ref 0]) (S1 := S) rfl ?_
  refine ip_Ev.iald (v := xs (i + 1)) rfl (scr_at h.2.2 hL (by omega) 1 rfl) ?_
  refine ip_Ev.steps 4 (pc' := 325) (lv' := lvL i) (st' := [.int (nI i + 2), .ref 58, .int (xs (i + 1)), .ref 0]) (S1 := S) rfl ?_
  refine ip_Ev.iald (v := xs (i + 2)) rfl (scr_at h.2.2 hL (by omega) 2 rfl) ?_
  refine ip_Ev.call (i := 69) (a := [.ref 0, .int (xs (i + 1)), .int (xs (i + 2))]) (r := []) rfl c1 ?_
  show ip_Ev 189 329 (lvL i) [.int r] S1 _ _
  refine ip_Ev.steps 5 (pc' := 334) (lv' := lvL i) (st' := [.int (nI i + 1), .ref 58, .ref 30, .int r]) (S1 := S1) rfl ?_
  refine ip_Ev.iald (v := xs (i + 1)) rfl (scr_at c3 hL (by omega) 1 rfl) ?_
  refine ip_Ev.steps 4 (pc' := 339) (lv' := lvL i) (st' := [.int (nI i + 2), .ref 58, .int (xs (i + 1)), .ref 30, .int r]) (S1 := S1) rfl ?_
  refine ip_Ev.iald (v := xs (i + 2)) rfl (scr_at c3 hL (by omega) 2 rfl) ?_
  refine ip_Ev.call (i := 155) (a := [.ref 30, .int (xs (i + 1)), .int (xs (i + 2))]) (r := [.int r]) rfl c2 ?_
  show ip_Ev 189 343 (lvL i) [.int r, .int r] S2 _ _
  refine ip_Ev.iff2 (t := 775) rfl rfl ip_cEq (fun _ => ?_) (fun z => absurd rfl z)
  refine ip_Ev.steps 2 (pc' := 18) (lv' := [some (.ref 58), some (.ref 0), some (.ref 30), some (.int (nI i + 5))]) (st' := []) (S1 := S2) rfl ?_
  rw [show nI i + 5 = nI (i + 5) from nI_add i 5]
  exact k
set_option maxRecDepth 10000 in
theorem lw_ways {N L i : Nat} {xs : Nat → Int32} {S : ip_St} (hL : L ≤ 320) (hi : i + 5 ≤ L) (h : Inv N L xs S) : ∃ S2, Inv (N + 1) L xs S2 ∧ ∀ rv S', ip_Ev 189 18 (lvL (i + 5)) [] S2 rv S' → ip_Ev 189 348 (lvL i) [] S rv S' := by
  obtain ⟨r, S1, S2, c1, c2, c3, c4⟩ := c_ways h (xs (i + 1))
  refine ⟨S2, c4, fun rv S' k => ?_⟩
  refine ip_Ev.steps 5 (pc' := 353) (lv' := lvL i) (st' := [.int (nI i + 1), .ref 58, .ref 0]) (S1 := S) rfl ?_
  refine ip_Ev.iald (v := xs (i + 1)) rfl (scr_at h.2.2 hL (by omega) 1 rfl) ?_
  refine ip_Ev.call (i := 70) (a := [.ref 0, .int (xs (i + 1))]) (r := []) rfl c1 ?_
  show ip_Ev 189 357 (lvL i) [.long r] S1 _ _
  refine ip_Ev.steps 5 (pc' := 362) (lv' := lvL i) (st' := [.int (nI i + 1), .ref 58, .ref 30, .long r]) (S1 := S1) rfl ?_
  refine ip_Ev.iald (v := xs (i + 1)) rfl (scr_at c3 hL (by omega) 1 rfl) ?_
  refine ip_Ev.call (i := 156) (a := [.ref 30, .int (xs (i + 1))]) (r := [.long r]) rfl c2 ?_
  show ip_Ev 189 366 (lvL i) [.long r, .long r] S2 _ _
  refine ip_Ev.steps 1 (pc' := 367) (lv' := lvL i) (st' := [.int (lg_cmp r r)]) (S1 := S2) rfl ?_
  refine ip_Ev.iff1 (t := 775) rfl rfl ip_lEq (fun _ => ?_) (fun z => absurd rfl z)
  refine ip_Ev.steps 2 (pc' := 18) (lv' := [some (.ref 58), some (.ref 0), some (.ref 30), some (.int (nI i + 5))]) (st' := []) (S1 := S2) rfl ?_
  rw [show nI i + 5 = nI (i + 5) from nI_add i 5]
  exact k
set_option maxRecDepth 10000 in
theorem lw_says {N L i : Nat} {xs : Nat → Int32} {S : ip_St} (hL : L ≤ 320) (hi : i + 5 ≤ L) (h : Inv N L xs S) : ∃ S2, Inv (N + 1) L xs S2 ∧ ∀ rv S', ip_Ev 189 18 (lvL (i + 5)) [] S2 rv S' → ip_Ev 189 372 (lvL i) [] S rv S' := by
  obtain ⟨r, S1, S2, c1, c2, c3, c4⟩ := c_says h (xs (i + 1)) (xs (i + 2))
  refine ⟨S2, c4, fun rv S' k => ?_⟩
  refine ip_Ev.steps 5 (pc' := 377) (lv' := lvL i) (st' := [.int (nI i + 1), .ref 58, .ref 0]) (S1 := S) rfl ?_
  refine ip_Ev.iald (v := xs (i + 1)) rfl (scr_at h.2.2 hL (by omega) 1 rfl) ?_
  refine ip_Ev.steps 4 (pc' := 382) (lv' := lvL i) (st' := [.int (nI i + 2), .ref 58, .int (xs (i + 1)), .ref 0]) (S1 := S) rfl ?_
  refine ip_Ev.iald (v := xs (i + 2)) rfl (scr_at h.2.2 hL (by omega) 2 rfl) ?_
  refine ip_Ev.call (i := 71) (a := [.ref 0, .int (xs (i + 1)), .int (xs (i + 2))]) (r := []) rfl c1 ?_
  show ip_Ev 189 386 (lvL i) [.int r] S1 _ _
  refine ip_Ev.steps 5 (pc' := 391) (lv' := lvL i) (st' := [.int (nI i + 1), .ref 58, .ref 30, .int r]) (S1 := S1) rfl ?_
  refine ip_Ev.iald (v := xs (i + 1)) rfl (scr_at c3 hL (by omega) 1 rfl) ?_
  refine ip_Ev.steps 4 (pc' := 396) (lv' := lvL i) (st' := [.int (nI i + 2), .ref 58, .int (xs (i + 1)), .ref 30, .int r]) (S1 := S1) rfl ?_
  refine ip_Ev.iald (v := xs (i + 2)) rfl (scr_at c3 hL (by omega) 2 rfl) ?_
  refine ip_Ev.call (i := 157) (a := [.ref 30, .int (xs (i + 1)), .int (xs (i + 2))]) (r := [.int r]) rfl c2 ?_
  show ip_Ev 189 400 (lvL i) [.int r, .int r] S2 _ _
  refine ip_Ev.iff2 (t := 775) rfl rfl ip_cEq (fun _ => ?_) (fun z => absurd rfl z)
  refine ip_Ev.steps 2 (pc' := 18) (lv' := [some (.ref 58), some (.ref 0), some (.ref 30), some (.int (nI i + 5))]) (st' := []) (S1 := S2) rfl ?_
  rw [show nI i + 5 = nI (i + 5) from nI_add i 5]
  exact k
set_option maxRecDepth 10000 in
theorem lw_odds {N L i : Nat} {xs : Nat → Int32} {S : ip_St} (hL : L ≤ 320) (hi : i + 5 ≤ L) (h : Inv N L xs S) : ∃ S2, Inv (N + 1) L xs S2 ∧ ∀ rv S', ip_Ev 189 18 (lvL (i + 5)) [] S2 rv S' → ip_Ev 189 405 (lvL i) [] S rv S' := by
  obtain ⟨r, S1, S2, c1, c2, c3, c4⟩ := c_odds h (xs (i + 1)) (xs (i + 2))
  refine ⟨S2, c4, fun rv S' k => ?_⟩
  refine ip_Ev.steps 5 (pc' := 410) (lv' := lvL i) (st' := [.int (nI i + 1), .ref 58, .ref 0]) (S1 := S) rfl ?_
  refine ip_Ev.iald (v := xs (i + 1)) rfl (scr_at h.2.2 hL (by omega) 1 rfl) ?_
  refine ip_Ev.steps 4 (pc' := 415) (lv' := lvL i) (st' := [.int (nI i + 2), .ref 58, .int (xs (i + 1)), .ref 0]) (S1 := S) rfl ?_
  refine ip_Ev.iald (v := xs (i + 2)) rfl (scr_at h.2.2 hL (by omega) 2 rfl) ?_
  refine ip_Ev.call (i := 73) (a := [.ref 0, .int (xs (i + 1)), .int (xs (i + 2))]) (r := []) rfl c1 ?_
  show ip_Ev 189 419 (lvL i) [.int r] S1 _ _
  refine ip_Ev.steps 5 (pc' := 424) (lv' := lvL i) (st' := [.int (nI i + 1), .ref 58, .ref 30, .int r]) (S1 := S1) rfl ?_
  refine ip_Ev.iald (v := xs (i + 1)) rfl (scr_at c3 hL (by omega) 1 rfl) ?_
  refine ip_Ev.steps 4 (pc' := 429) (lv' := lvL i) (st' := [.int (nI i + 2), .ref 58, .int (xs (i + 1)), .ref 30, .int r]) (S1 := S1) rfl ?_
  refine ip_Ev.iald (v := xs (i + 2)) rfl (scr_at c3 hL (by omega) 2 rfl) ?_
  refine ip_Ev.call (i := 160) (a := [.ref 30, .int (xs (i + 1)), .int (xs (i + 2))]) (r := [.int r]) rfl c2 ?_
  show ip_Ev 189 433 (lvL i) [.int r, .int r] S2 _ _
  refine ip_Ev.iff2 (t := 775) rfl rfl ip_cEq (fun _ => ?_) (fun z => absurd rfl z)
  refine ip_Ev.steps 2 (pc' := 18) (lv' := [some (.ref 58), some (.ref 0), some (.ref 30), some (.int (nI i + 5))]) (st' := []) (S1 := S2) rfl ?_
  rw [show nI i + 5 = nI (i + 5) from nI_add i 5]
  exact k
set_option maxRecDepth 10000 in
theorem lw_ask {N L i : Nat} {xs : Nat → Int32} {S : ip_St} (hL : L ≤ 320) (hi : i + 5 ≤ L) (h : Inv N L xs S) : ∃ S2, Inv (N + 1) L xs S2 ∧ ∀ rv S', ip_Ev 189 18 (lvL (i + 5)) [] S2 rv S' → ip_Ev 189 438 (lvL i) [] S rv S' := by
  obtain ⟨r, S1, S2, c1, c2, c3, c4⟩ := c_ask h (xs (i + 1)) (xs (i + 2)) (xs (i + 3))
  refine ⟨S2, c4, fun rv S' k => ?_⟩
  refine ip_Ev.steps 5 (pc' := 443) (lv' := lvL i) (st' := [.int (nI i + 1), .ref 58, .ref 0]) (S1 := S) rfl ?_
  refine ip_Ev.iald (v := xs (i + 1)) rfl (scr_at h.2.2 hL (by omega) 1 rfl) ?_
  refine ip_Ev.steps 4 (pc' := 448) (lv' := lvL i) (st' := [.int (nI i + 2), .ref 58, .int (xs (i + 1)), .ref 0]) (S1 := S) rfl ?_
  refine ip_Ev.iald (v := xs (i + 2)) rfl (scr_at h.2.2 hL (by omega) 2 rfl) ?_
  refine ip_Ev.steps 4 (pc' := 453) (lv' := lvL i) (st' := [.int (nI i + 3), .ref 58, .int (xs (i + 2)), .int (xs (i + 1)), .ref 0]) (S1 := S) rfl ?_
  refine ip_Ev.iald (v := xs (i + 3)) rfl (scr_at h.2.2 hL (by omega) 3 rfl) ?_
  refine ip_Ev.call (i := 76) (a := [.ref 0, .int (xs (i + 1)), .int (xs (i + 2)), .int (xs (i + 3))]) (r := []) rfl c1 ?_
  show ip_Ev 189 457 (lvL i) [.int r] S1 _ _
  refine ip_Ev.steps 5 (pc' := 462) (lv' := lvL i) (st' := [.int (nI i + 1), .ref 58, .ref 30, .int r]) (S1 := S1) rfl ?_
  refine ip_Ev.iald (v := xs (i + 1)) rfl (scr_at c3 hL (by omega) 1 rfl) ?_
  refine ip_Ev.steps 4 (pc' := 467) (lv' := lvL i) (st' := [.int (nI i + 2), .ref 58, .int (xs (i + 1)), .ref 30, .int r]) (S1 := S1) rfl ?_
  refine ip_Ev.iald (v := xs (i + 2)) rfl (scr_at c3 hL (by omega) 2 rfl) ?_
  refine ip_Ev.steps 4 (pc' := 472) (lv' := lvL i) (st' := [.int (nI i + 3), .ref 58, .int (xs (i + 2)), .int (xs (i + 1)), .ref 30, .int r]) (S1 := S1) rfl ?_
  refine ip_Ev.iald (v := xs (i + 3)) rfl (scr_at c3 hL (by omega) 3 rfl) ?_
  refine ip_Ev.call (i := 163) (a := [.ref 30, .int (xs (i + 1)), .int (xs (i + 2)), .int (xs (i + 3))]) (r := [.int r]) rfl c2 ?_
  show ip_Ev 189 476 (lvL i) [.int r, .int r] S2 _ _
  refine ip_Ev.iff2 (t := 775) rfl rfl ip_cEq (fun _ => ?_) (fun z => absurd rfl z)
  refine ip_Ev.steps 2 (pc' := 18) (lv' := [some (.ref 58), some (.ref 0), some (.ref 30), some (.int (nI i + 5))]) (st' := []) (S1 := S2) rfl ?_
  rw [show nI i + 5 = nI (i + 5) from nI_add i 5]
  exact k
set_option maxRecDepth 10000 in
theorem lw_learn {N L i : Nat} {xs : Nat → Int32} {S : ip_St} (hL : L ≤ 320) (hi : i + 5 ≤ L) (h : Inv N L xs S) : ∃ S2, Inv (N + 1) L xs S2 ∧ ∀ rv S', ip_Ev 189 18 (lvL (i + 5)) [] S2 rv S' → ip_Ev 189 481 (lvL i) [] S rv S' := by
  obtain ⟨r, S1, S2, c1, c2, c3, c4⟩ := c_learn h (xs (i + 1)) (xs (i + 2)) (xs (i + 3))
  refine ⟨S2, c4, fun rv S' k => ?_⟩
  refine ip_Ev.steps 5 (pc' := 486) (lv' := lvL i) (st' := [.int (nI i + 1), .ref 58, .ref 0]) (S1 := S) rfl ?_
  refine ip_Ev.iald (v := xs (i + 1)) rfl (scr_at h.2.2 hL (by omega) 1 rfl) ?_
  refine ip_Ev.steps 4 (pc' := 491) (lv' := lvL i) (st' := [.int (nI i + 2), .ref 58, .int (xs (i + 1)), .ref 0]) (S1 := S) rfl ?_
  refine ip_Ev.iald (v := xs (i + 2)) rfl (scr_at h.2.2 hL (by omega) 2 rfl) ?_
  refine ip_Ev.steps 4 (pc' := 496) (lv' := lvL i) (st' := [.int (nI i + 3), .ref 58, .int (xs (i + 2)), .int (xs (i + 1)), .ref 0]) (S1 := S) rfl ?_
  refine ip_Ev.iald (v := xs (i + 3)) rfl (scr_at h.2.2 hL (by omega) 3 rfl) ?_
  refine ip_Ev.call (i := 77) (a := [.ref 0, .int (xs (i + 1)), .int (xs (i + 2)), .int (xs (i + 3))]) (r := []) rfl c1 ?_
  show ip_Ev 189 500 (lvL i) [.int r] S1 _ _
  refine ip_Ev.steps 5 (pc' := 505) (lv' := lvL i) (st' := [.int (nI i + 1), .ref 58, .ref 30, .int r]) (S1 := S1) rfl ?_
  refine ip_Ev.iald (v := xs (i + 1)) rfl (scr_at c3 hL (by omega) 1 rfl) ?_
  refine ip_Ev.steps 4 (pc' := 510) (lv' := lvL i) (st' := [.int (nI i + 2), .ref 58, .int (xs (i + 1)), .ref 30, .int r]) (S1 := S1) rfl ?_
  refine ip_Ev.iald (v := xs (i + 2)) rfl (scr_at c3 hL (by omega) 2 rfl) ?_
  refine ip_Ev.steps 4 (pc' := 515) (lv' := lvL i) (st' := [.int (nI i + 3), .ref 58, .int (xs (i + 2)), .int (xs (i + 1)), .ref 30, .int r]) (S1 := S1) rfl ?_
  refine ip_Ev.iald (v := xs (i + 3)) rfl (scr_at c3 hL (by omega) 3 rfl) ?_
  refine ip_Ev.call (i := 164) (a := [.ref 30, .int (xs (i + 1)), .int (xs (i + 2)), .int (xs (i + 3))]) (r := [.int r]) rfl c2 ?_
  show ip_Ev 189 519 (lvL i) [.int r, .int r] S2 _ _
  refine ip_Ev.iff2 (t := 775) rfl rfl ip_cEq (fun _ => ?_) (fun z => absurd rfl z)
  refine ip_Ev.steps 2 (pc' := 18) (lv' := [some (.ref 58), some (.ref 0), some (.ref 30), some (.int (nI i + 5))]) (st' := []) (S1 := S2) rfl ?_
  rw [show nI i + 5 = nI (i + 5) from nI_add i 5]
  exact k
set_option maxRecDepth 10000 in
theorem lw_adjourn {N L i : Nat} {xs : Nat → Int32} {S : ip_St} (hL : L ≤ 320) (hi : i + 5 ≤ L) (h : Inv N L xs S) : ∃ S2, Inv (N + 1) L xs S2 ∧ ∀ rv S', ip_Ev 189 18 (lvL (i + 5)) [] S2 rv S' → ip_Ev 189 524 (lvL i) [] S rv S' := by
  obtain ⟨r, S1, S2, c1, c2, c3, c4⟩ := c_adjourn h (xs (i + 1))
  refine ⟨S2, c4, fun rv S' k => ?_⟩
  refine ip_Ev.steps 5 (pc' := 529) (lv' := lvL i) (st' := [.int (nI i + 1), .ref 58, .ref 0]) (S1 := S) rfl ?_
  refine ip_Ev.iald (v := xs (i + 1)) rfl (scr_at h.2.2 hL (by omega) 1 rfl) ?_
  refine ip_Ev.call (i := 78) (a := [.ref 0, .int (xs (i + 1))]) (r := []) rfl c1 ?_
  show ip_Ev 189 533 (lvL i) [.int r] S1 _ _
  refine ip_Ev.steps 5 (pc' := 538) (lv' := lvL i) (st' := [.int (nI i + 1), .ref 58, .ref 30, .int r]) (S1 := S1) rfl ?_
  refine ip_Ev.iald (v := xs (i + 1)) rfl (scr_at c3 hL (by omega) 1 rfl) ?_
  refine ip_Ev.call (i := 165) (a := [.ref 30, .int (xs (i + 1))]) (r := [.int r]) rfl c2 ?_
  show ip_Ev 189 542 (lvL i) [.int r, .int r] S2 _ _
  refine ip_Ev.iff2 (t := 775) rfl rfl ip_cEq (fun _ => ?_) (fun z => absurd rfl z)
  refine ip_Ev.steps 2 (pc' := 18) (lv' := [some (.ref 58), some (.ref 0), some (.ref 30), some (.int (nI i + 5))]) (st' := []) (S1 := S2) rfl ?_
  rw [show nI i + 5 = nI (i + 5) from nI_add i 5]
  exact k
set_option maxRecDepth 10000 in
theorem lw_find {N L i : Nat} {xs : Nat → Int32} {S : ip_St} (hL : L ≤ 320) (hi : i + 5 ≤ L) (h : Inv N L xs S) : ∃ S2, Inv (N + 1) L xs S2 ∧ ∀ rv S', ip_Ev 189 18 (lvL (i + 5)) [] S2 rv S' → ip_Ev 189 547 (lvL i) [] S rv S' := by
  obtain ⟨r, S1, S2, c1, c2, c3, c4⟩ := c_find h (xs (i + 1)) (xs (i + 2)) (xs (i + 3))
  refine ⟨S2, c4, fun rv S' k => ?_⟩
  refine ip_Ev.steps 5 (pc' := 552) (lv' := lvL i) (st' := [.int (nI i + 1), .ref 58, .ref 0]) (S1 := S) rfl ?_
  refine ip_Ev.iald (v := xs (i + 1)) rfl (scr_at h.2.2 hL (by omega) 1 rfl) ?_
  refine ip_Ev.steps 4 (pc' := 557) (lv' := lvL i) (st' := [.int (nI i + 2), .ref 58, .int (xs (i + 1)), .ref 0]) (S1 := S) rfl ?_
  refine ip_Ev.iald (v := xs (i + 2)) rfl (scr_at h.2.2 hL (by omega) 2 rfl) ?_
  refine ip_Ev.steps 4 (pc' := 562) (lv' := lvL i) (st' := [.int (nI i + 3), .ref 58, .int (xs (i + 2)), .int (xs (i + 1)), .ref 0]) (S1 := S) rfl ?_
  refine ip_Ev.iald (v := xs (i + 3)) rfl (scr_at h.2.2 hL (by omega) 3 rfl) ?_
  refine ip_Ev.call (i := 80) (a := [.ref 0, .int (xs (i + 1)), .int (xs (i + 2)), .int (xs (i + 3))]) (r := []) rfl c1 ?_
  show ip_Ev 189 566 (lvL i) [.int r] S1 _ _
  refine ip_Ev.steps 5 (pc' := 571) (lv' := lvL i) (st' := [.int (nI i + 1), .ref 58, .ref 30, .int r]) (S1 := S1) rfl ?_
  refine ip_Ev.iald (v := xs (i + 1)) rfl (scr_at c3 hL (by omega) 1 rfl) ?_
  refine ip_Ev.steps 4 (pc' := 576) (lv' := lvL i) (st' := [.int (nI i + 2), .ref 58, .int (xs (i + 1)), .ref 30, .int r]) (S1 := S1) rfl ?_
  refine ip_Ev.iald (v := xs (i + 2)) rfl (scr_at c3 hL (by omega) 2 rfl) ?_
  refine ip_Ev.steps 4 (pc' := 581) (lv' := lvL i) (st' := [.int (nI i + 3), .ref 58, .int (xs (i + 2)), .int (xs (i + 1)), .ref 30, .int r]) (S1 := S1) rfl ?_
  refine ip_Ev.iald (v := xs (i + 3)) rfl (scr_at c3 hL (by omega) 3 rfl) ?_
  refine ip_Ev.call (i := 169) (a := [.ref 30, .int (xs (i + 1)), .int (xs (i + 2)), .int (xs (i + 3))]) (r := [.int r]) rfl c2 ?_
  show ip_Ev 189 585 (lvL i) [.int r, .int r] S2 _ _
  refine ip_Ev.iff2 (t := 775) rfl rfl ip_cEq (fun _ => ?_) (fun z => absurd rfl z)
  refine ip_Ev.steps 2 (pc' := 18) (lv' := [some (.ref 58), some (.ref 0), some (.ref 30), some (.int (nI i + 5))]) (st' := []) (S1 := S2) rfl ?_
  rw [show nI i + 5 = nI (i + 5) from nI_add i 5]
  exact k
set_option maxRecDepth 10000 in
theorem lw_bench {N L i : Nat} {xs : Nat → Int32} {S : ip_St} (hL : L ≤ 320) (hi : i + 5 ≤ L) (h : Inv N L xs S) : ∃ S2, Inv (N + 1) L xs S2 ∧ ∀ rv S', ip_Ev 189 18 (lvL (i + 5)) [] S2 rv S' → ip_Ev 189 590 (lvL i) [] S rv S' := by
  obtain ⟨r, S1, S2, c1, c2, c3, c4⟩ := c_bench h
  refine ⟨S2, c4, fun rv S' k => ?_⟩
  refine ip_Ev.steps 1 (pc' := 591) (lv' := lvL i) (st' := [.ref 0]) (S1 := S) rfl ?_
  refine ip_Ev.call (i := 81) (a := [.ref 0]) (r := []) rfl c1 ?_
  show ip_Ev 189 594 (lvL i) [.int r] S1 _ _
  refine ip_Ev.steps 1 (pc' := 595) (lv' := lvL i) (st' := [.ref 30, .int r]) (S1 := S1) rfl ?_
  refine ip_Ev.call (i := 171) (a := [.ref 30]) (r := [.int r]) rfl c2 ?_
  show ip_Ev 189 598 (lvL i) [.int r, .int r] S2 _ _
  refine ip_Ev.iff2 (t := 775) rfl rfl ip_cEq (fun _ => ?_) (fun z => absurd rfl z)
  refine ip_Ev.steps 2 (pc' := 18) (lv' := [some (.ref 58), some (.ref 0), some (.ref 30), some (.int (nI i + 5))]) (st' := []) (S1 := S2) rfl ?_
  rw [show nI i + 5 = nI (i + 5) from nI_add i 5]
  exact k
set_option maxRecDepth 10000 in
theorem lw_see {N L i : Nat} {xs : Nat → Int32} {S : ip_St} (hL : L ≤ 320) (hi : i + 5 ≤ L) (h : Inv N L xs S) : ∃ S2, Inv (N + 1) L xs S2 ∧ ∀ rv S', ip_Ev 189 18 (lvL (i + 5)) [] S2 rv S' → ip_Ev 189 603 (lvL i) [] S rv S' := by
  obtain ⟨r, S1, S2, c1, c2, c3, c4⟩ := c_see h (xs (i + 1)) (xs (i + 2)) (xs (i + 3)) (xs (i + 4))
  refine ⟨S2, c4, fun rv S' k => ?_⟩
  refine ip_Ev.steps 5 (pc' := 608) (lv' := lvL i) (st' := [.int (nI i + 1), .ref 58, .ref 0]) (S1 := S) rfl ?_
  refine ip_Ev.iald (v := xs (i + 1)) rfl (scr_at h.2.2 hL (by omega) 1 rfl) ?_
  refine ip_Ev.steps 4 (pc' := 613) (lv' := lvL i) (st' := [.int (nI i + 2), .ref 58, .int (xs (i + 1)), .ref 0]) (S1 := S) rfl ?_
  refine ip_Ev.iald (v := xs (i + 2)) rfl (scr_at h.2.2 hL (by omega) 2 rfl) ?_
  refine ip_Ev.steps 4 (pc' := 618) (lv' := lvL i) (st' := [.int (nI i + 3), .ref 58, .int (xs (i + 2)), .int (xs (i + 1)), .ref 0]) (S1 := S) rfl ?_
  refine ip_Ev.iald (v := xs (i + 3)) rfl (scr_at h.2.2 hL (by omega) 3 rfl) ?_
  refine ip_Ev.steps 4 (pc' := 623) (lv' := lvL i) (st' := [.int (nI i + 4), .ref 58, .int (xs (i + 3)), .int (xs (i + 2)), .int (xs (i + 1)), .ref 0]) (S1 := S) rfl ?_
  refine ip_Ev.iald (v := xs (i + 4)) rfl (scr_at h.2.2 hL (by omega) 4 rfl) ?_
  refine ip_Ev.call (i := 83) (a := [.ref 0, .int (xs (i + 1)), .int (xs (i + 2)), .int (xs (i + 3)), .int (xs (i + 4))]) (r := []) rfl c1 ?_
  show ip_Ev 189 627 (lvL i) [.int r] S1 _ _
  refine ip_Ev.steps 5 (pc' := 632) (lv' := lvL i) (st' := [.int (nI i + 1), .ref 58, .ref 30, .int r]) (S1 := S1) rfl ?_
  refine ip_Ev.iald (v := xs (i + 1)) rfl (scr_at c3 hL (by omega) 1 rfl) ?_
  refine ip_Ev.steps 4 (pc' := 637) (lv' := lvL i) (st' := [.int (nI i + 2), .ref 58, .int (xs (i + 1)), .ref 30, .int r]) (S1 := S1) rfl ?_
  refine ip_Ev.iald (v := xs (i + 2)) rfl (scr_at c3 hL (by omega) 2 rfl) ?_
  refine ip_Ev.steps 4 (pc' := 642) (lv' := lvL i) (st' := [.int (nI i + 3), .ref 58, .int (xs (i + 2)), .int (xs (i + 1)), .ref 30, .int r]) (S1 := S1) rfl ?_
  refine ip_Ev.iald (v := xs (i + 3)) rfl (scr_at c3 hL (by omega) 3 rfl) ?_
  refine ip_Ev.steps 4 (pc' := 647) (lv' := lvL i) (st' := [.int (nI i + 4), .ref 58, .int (xs (i + 3)), .int (xs (i + 2)), .int (xs (i + 1)), .ref 30, .int r]) (S1 := S1) rfl ?_
  refine ip_Ev.iald (v := xs (i + 4)) rfl (scr_at c3 hL (by omega) 4 rfl) ?_
  refine ip_Ev.call (i := 172) (a := [.ref 30, .int (xs (i + 1)), .int (xs (i + 2)), .int (xs (i + 3)), .int (xs (i + 4))]) (r := [.int r]) rfl c2 ?_
  show ip_Ev 189 651 (lvL i) [.int r, .int r] S2 _ _
  refine ip_Ev.iff2 (t := 775) rfl rfl ip_cEq (fun _ => ?_) (fun z => absurd rfl z)
  refine ip_Ev.steps 2 (pc' := 18) (lv' := [some (.ref 58), some (.ref 0), some (.ref 30), some (.int (nI i + 5))]) (st' := []) (S1 := S2) rfl ?_
  rw [show nI i + 5 = nI (i + 5) from nI_add i 5]
  exact k
set_option maxRecDepth 10000 in
theorem lw_forget {N L i : Nat} {xs : Nat → Int32} {S : ip_St} (hL : L ≤ 320) (hi : i + 5 ≤ L) (h : Inv N L xs S) : ∃ S2, Inv (N + 1) L xs S2 ∧ ∀ rv S', ip_Ev 189 18 (lvL (i + 5)) [] S2 rv S' → ip_Ev 189 656 (lvL i) [] S rv S' := by
  obtain ⟨r, S1, S2, c1, c2, c3, c4⟩ := c_forget h
  refine ⟨S2, c4, fun rv S' k => ?_⟩
  refine ip_Ev.steps 1 (pc' := 657) (lv' := lvL i) (st' := [.ref 0]) (S1 := S) rfl ?_
  refine ip_Ev.call (i := 84) (a := [.ref 0]) (r := []) rfl c1 ?_
  show ip_Ev 189 660 (lvL i) [.int r] S1 _ _
  refine ip_Ev.steps 1 (pc' := 661) (lv' := lvL i) (st' := [.ref 30, .int r]) (S1 := S1) rfl ?_
  refine ip_Ev.call (i := 173) (a := [.ref 30]) (r := [.int r]) rfl c2 ?_
  show ip_Ev 189 664 (lvL i) [.int r, .int r] S2 _ _
  refine ip_Ev.iff2 (t := 775) rfl rfl ip_cEq (fun _ => ?_) (fun z => absurd rfl z)
  refine ip_Ev.steps 2 (pc' := 18) (lv' := [some (.ref 58), some (.ref 0), some (.ref 30), some (.int (nI i + 5))]) (st' := []) (S1 := S2) rfl ?_
  rw [show nI i + 5 = nI (i + 5) from nI_add i 5]
  exact k
set_option maxRecDepth 10000 in
theorem lw_assizes {N L i : Nat} {xs : Nat → Int32} {S : ip_St} (hL : L ≤ 320) (hi : i + 5 ≤ L) (h : Inv N L xs S) : ∃ S2, Inv (N + 1) L xs S2 ∧ ∀ rv S', ip_Ev 189 18 (lvL (i + 5)) [] S2 rv S' → ip_Ev 189 669 (lvL i) [] S rv S' := by
  obtain ⟨r, S1, S2, c1, c2, c3, c4⟩ := c_assizes h (xs (i + 1)) (xs (i + 2)) (xs (i + 3))
  refine ⟨S2, c4, fun rv S' k => ?_⟩
  refine ip_Ev.steps 5 (pc' := 674) (lv' := lvL i) (st' := [.int (nI i + 1), .ref 58, .ref 0]) (S1 := S) rfl ?_
  refine ip_Ev.iald (v := xs (i + 1)) rfl (scr_at h.2.2 hL (by omega) 1 rfl) ?_
  refine ip_Ev.steps 4 (pc' := 679) (lv' := lvL i) (st' := [.int (nI i + 2), .ref 58, .int (xs (i + 1)), .ref 0]) (S1 := S) rfl ?_
  refine ip_Ev.iald (v := xs (i + 2)) rfl (scr_at h.2.2 hL (by omega) 2 rfl) ?_
  refine ip_Ev.steps 4 (pc' := 684) (lv' := lvL i) (st' := [.int (nI i + 3), .ref 58, .int (xs (i + 2)), .int (xs (i + 1)), .ref 0]) (S1 := S) rfl ?_
  refine ip_Ev.iald (v := xs (i + 3)) rfl (scr_at h.2.2 hL (by omega) 3 rfl) ?_
  refine ip_Ev.call (i := 87) (a := [.ref 0, .int (xs (i + 1)), .int (xs (i + 2)), .int (xs (i + 3))]) (r := []) rfl c1 ?_
  show ip_Ev 189 688 (lvL i) [.int r] S1 _ _
  refine ip_Ev.steps 5 (pc' := 693) (lv' := lvL i) (st' := [.int (nI i + 1), .ref 58, .ref 30, .int r]) (S1 := S1) rfl ?_
  refine ip_Ev.iald (v := xs (i + 1)) rfl (scr_at c3 hL (by omega) 1 rfl) ?_
  refine ip_Ev.steps 4 (pc' := 698) (lv' := lvL i) (st' := [.int (nI i + 2), .ref 58, .int (xs (i + 1)), .ref 30, .int r]) (S1 := S1) rfl ?_
  refine ip_Ev.iald (v := xs (i + 2)) rfl (scr_at c3 hL (by omega) 2 rfl) ?_
  refine ip_Ev.steps 4 (pc' := 703) (lv' := lvL i) (st' := [.int (nI i + 3), .ref 58, .int (xs (i + 2)), .int (xs (i + 1)), .ref 30, .int r]) (S1 := S1) rfl ?_
  refine ip_Ev.iald (v := xs (i + 3)) rfl (scr_at c3 hL (by omega) 3 rfl) ?_
  refine ip_Ev.call (i := 175) (a := [.ref 30, .int (xs (i + 1)), .int (xs (i + 2)), .int (xs (i + 3))]) (r := [.int r]) rfl c2 ?_
  show ip_Ev 189 707 (lvL i) [.int r, .int r] S2 _ _
  refine ip_Ev.iff2 (t := 775) rfl rfl ip_cEq (fun _ => ?_) (fun z => absurd rfl z)
  refine ip_Ev.steps 2 (pc' := 18) (lv' := [some (.ref 58), some (.ref 0), some (.ref 30), some (.int (nI i + 5))]) (st' := []) (S1 := S2) rfl ?_
  rw [show nI i + 5 = nI (i + 5) from nI_add i 5]
  exact k
set_option maxRecDepth 10000 in
theorem lw_image {N L i : Nat} {xs : Nat → Int32} {S : ip_St} (hL : L ≤ 320) (hi : i + 5 ≤ L) (h : Inv N L xs S) : ∃ S2, Inv (N + 1) L xs S2 ∧ ∀ rv S', ip_Ev 189 18 (lvL (i + 5)) [] S2 rv S' → ip_Ev 189 712 (lvL i) [] S rv S' := by
  obtain ⟨r, S1, S2, c1, c2, c3, c4⟩ := c_image h
  refine ⟨S2, c4, fun rv S' k => ?_⟩
  refine ip_Ev.steps 1 (pc' := 713) (lv' := lvL i) (st' := [.ref 0]) (S1 := S) rfl ?_
  refine ip_Ev.call (i := 90) (a := [.ref 0]) (r := []) rfl c1 ?_
  show ip_Ev 189 716 (lvL i) [.int r] S1 _ _
  refine ip_Ev.steps 1 (pc' := 717) (lv' := lvL i) (st' := [.ref 30, .int r]) (S1 := S1) rfl ?_
  refine ip_Ev.call (i := 177) (a := [.ref 30]) (r := [.int r]) rfl c2 ?_
  show ip_Ev 189 720 (lvL i) [.int r, .int r] S2 _ _
  refine ip_Ev.iff2 (t := 775) rfl rfl ip_cEq (fun _ => ?_) (fun z => absurd rfl z)
  refine ip_Ev.steps 2 (pc' := 18) (lv' := [some (.ref 58), some (.ref 0), some (.ref 30), some (.int (nI i + 5))]) (st' := []) (S1 := S2) rfl ?_
  rw [show nI i + 5 = nI (i + 5) from nI_add i 5]
  exact k
set_option maxRecDepth 10000 in
theorem lw_restore {N L i : Nat} {xs : Nat → Int32} {S : ip_St} (hN : N < 2 ^ 31) (hL : L ≤ 320) (hi : i + 5 ≤ L) (h : Inv N L xs S) : ∃ S2, Inv (N + 1) L xs S2 ∧ ∀ rv S', ip_Ev 189 18 (lvL (i + 5)) [] S2 rv S' → ip_Ev 189 725 (lvL i) [] S rv S' := by
  obtain ⟨r, S1, S2, c1, c2, c3, c4⟩ := c_restore hN h
  refine ⟨S2, c4, fun rv S' k => ?_⟩
  refine ip_Ev.steps 1 (pc' := 726) (lv' := lvL i) (st' := [.ref 0]) (S1 := S) rfl ?_
  refine ip_Ev.call (i := 91) (a := [.ref 0]) (r := []) rfl c1 ?_
  show ip_Ev 189 729 (lvL i) [.int r] S1 _ _
  refine ip_Ev.steps 1 (pc' := 730) (lv' := lvL i) (st' := [.ref 30, .int r]) (S1 := S1) rfl ?_
  refine ip_Ev.call (i := 178) (a := [.ref 30]) (r := [.int r]) rfl c2 ?_
  show ip_Ev 189 733 (lvL i) [.int r, .int r] S2 _ _
  refine ip_Ev.iff2 (t := 775) rfl rfl ip_cEq (fun _ => ?_) (fun z => absurd rfl z)
  refine ip_Ev.steps 2 (pc' := 18) (lv' := [some (.ref 58), some (.ref 0), some (.ref 30), some (.int (nI i + 5))]) (st' := []) (S1 := S2) rfl ?_
  rw [show nI i + 5 = nI (i + 5) from nI_add i 5]
  exact k
set_option maxRecDepth 10000 in
theorem lw_count {N L i : Nat} {xs : Nat → Int32} {S : ip_St} (hL : L ≤ 320) (hi : i + 5 ≤ L) (h : Inv N L xs S) : ∃ S2, Inv (N + 1) L xs S2 ∧ ∀ rv S', ip_Ev 189 18 (lvL (i + 5)) [] S2 rv S' → ip_Ev 189 738 (lvL i) [] S rv S' := by
  obtain ⟨r, S1, S2, c1, c2, c3, c4⟩ := c_count h (xs (i + 1))
  refine ⟨S2, c4, fun rv S' k => ?_⟩
  refine ip_Ev.steps 5 (pc' := 743) (lv' := lvL i) (st' := [.int (nI i + 1), .ref 58, .ref 0]) (S1 := S) rfl ?_
  refine ip_Ev.iald (v := xs (i + 1)) rfl (scr_at h.2.2 hL (by omega) 1 rfl) ?_
  refine ip_Ev.call (i := 96) (a := [.ref 0, .int (xs (i + 1))]) (r := []) rfl c1 ?_
  show ip_Ev 189 747 (lvL i) [.int r] S1 _ _
  refine ip_Ev.steps 5 (pc' := 752) (lv' := lvL i) (st' := [.int (nI i + 1), .ref 58, .ref 30, .int r]) (S1 := S1) rfl ?_
  refine ip_Ev.iald (v := xs (i + 1)) rfl (scr_at c3 hL (by omega) 1 rfl) ?_
  refine ip_Ev.call (i := 185) (a := [.ref 30, .int (xs (i + 1))]) (r := [.int r]) rfl c2 ?_
  show ip_Ev 189 756 (lvL i) [.int r, .int r] S2 _ _
  refine ip_Ev.iff2 (t := 775) rfl rfl ip_cEq (fun _ => ?_) (fun z => absurd rfl z)
  refine ip_Ev.steps 2 (pc' := 18) (lv' := [some (.ref 58), some (.ref 0), some (.ref 30), some (.int (nI i + 5))]) (st' := []) (S1 := S2) rfl ?_
  rw [show nI i + 5 = nI (i + 5) from nI_add i 5]
  exact k
set_option maxRecDepth 10000 in
theorem lw_digest {N L i : Nat} {xs : Nat → Int32} {S : ip_St} (hL : L ≤ 320) (hi : i + 5 ≤ L) (h : Inv N L xs S) : ∃ S2, Inv (N + 1) L xs S2 ∧ ∀ rv S', ip_Ev 189 18 (lvL (i + 5)) [] S2 rv S' → ip_Ev 189 761 (lvL i) [] S rv S' := by
  obtain ⟨r, S1, S2, c1, c2, c3, c4⟩ := c_digest h
  refine ⟨S2, c4, fun rv S' k => ?_⟩
  refine ip_Ev.steps 1 (pc' := 762) (lv' := lvL i) (st' := [.ref 0]) (S1 := S) rfl ?_
  refine ip_Ev.call (i := 98) (a := [.ref 0]) (r := []) rfl c1 ?_
  show ip_Ev 189 765 (lvL i) [.long r] S1 _ _
  refine ip_Ev.steps 1 (pc' := 766) (lv' := lvL i) (st' := [.ref 30, .long r]) (S1 := S1) rfl ?_
  refine ip_Ev.call (i := 188) (a := [.ref 30]) (r := [.long r]) rfl c2 ?_
  show ip_Ev 189 769 (lvL i) [.long r, .long r] S2 _ _
  refine ip_Ev.steps 1 (pc' := 770) (lv' := lvL i) (st' := [.int (lg_cmp r r)]) (S1 := S2) rfl ?_
  refine ip_Ev.iff1 (t := 775) rfl rfl ip_lEq (fun _ => ?_) (fun z => absurd rfl z)
  refine ip_Ev.steps 2 (pc' := 18) (lv' := [some (.ref 58), some (.ref 0), some (.ref 30), some (.int (nI i + 5))]) (st' := []) (S1 := S2) rfl ?_
  rw [show nI i + 5 = nI (i + 5) from nI_add i 5]
  exact k
theorem Inv.up {N L : Nat} {xs : Nat → Int32} {S : ip_St} (h : Inv N L xs S) : Inv (N + 1) L xs S := ⟨h.1.up (by omega), h.2⟩
set_option maxRecDepth 10000 in
theorem disp {N L i : Nat} {xs : Nat → Int32} {S : ip_St} (hN : N < 2 ^ 31) (hL : L ≤ 320) (hi : i + 5 ≤ L) (h : Inv N L xs S) {x : Nat} (hx : x < 32) : ∃ S2, Inv (N + 1) L xs S2 ∧ ∀ rv S', ip_Ev 189 18 (lvL (i + 5)) [] S2 rv S' → ip_Ev 189 32 (lvL i) [.int (nI x)] S rv S' := by
  rcases (show x = 0 ∨ x = 1 ∨ x = 2 ∨ x = 3 ∨ x = 4 ∨ x = 5 ∨ x = 6 ∨ x = 7 ∨ x = 8 ∨ x = 9 ∨ x = 10 ∨ x = 11 ∨ x = 12 ∨ x = 13 ∨ x = 14 ∨ x = 15 ∨ x = 16 ∨ x = 17 ∨ x = 18 ∨ x = 19 ∨ x = 20 ∨ x = 21 ∨ x = 22 ∨ x = 23 ∨ x = 24 ∨ (25 ≤ x ∧ x < 32) by omega) with rfl | rfl | rfl | rfl | rfl | rfl | rfl | rfl | rfl | rfl | rfl | rfl | rfl | rfl | rfl | rfl | rfl | rfl | rfl | rfl | rfl | rfl | rfl | rfl | rfl | ⟨hx1, hx2⟩
  · obtain ⟨S2, q1, q2⟩ := lw_letter hL hi h
    exact ⟨S2, q1, fun rv S' k => ip_Ev.ts rfl rfl rfl (q2 rv S' k)⟩
  · obtain ⟨S2, q1, q2⟩ := lw_blank hL hi h
    exact ⟨S2, q1, fun rv S' k => ip_Ev.ts rfl rfl rfl (q2 rv S' k)⟩
  · obtain ⟨S2, q1, q2⟩ := lw_fault hL hi h
    exact ⟨S2, q1, fun rv S' k => ip_Ev.ts rfl rfl rfl (q2 rv S' k)⟩
  · obtain ⟨S2, q1, q2⟩ := lw_court hL hi h
    exact ⟨S2, q1, fun rv S' k => ip_Ev.ts rfl rfl rfl (q2 rv S' k)⟩
  · obtain ⟨S2, q1, q2⟩ := lw_amend hL hi h
    exact ⟨S2, q1, fun rv S' k => ip_Ev.ts rfl rfl rfl (q2 rv S' k)⟩
  · obtain ⟨S2, q1, q2⟩ := lw_lawFault hL hi h
    exact ⟨S2, q1, fun rv S' k => ip_Ev.ts rfl rfl rfl (q2 rv S' k)⟩
  · obtain ⟨S2, q1, q2⟩ := lw_statute hL hi h
    exact ⟨S2, q1, fun rv S' k => ip_Ev.ts rfl rfl rfl (q2 rv S' k)⟩
  · obtain ⟨S2, q1, q2⟩ := lw_holds hL hi h
    exact ⟨S2, q1, fun rv S' k => ip_Ev.ts rfl rfl rfl (q2 rv S' k)⟩
  · obtain ⟨S2, q1, q2⟩ := lw_judge hL hi h
    exact ⟨S2, q1, fun rv S' k => ip_Ev.ts rfl rfl rfl (q2 rv S' k)⟩
  · obtain ⟨S2, q1, q2⟩ := lw_as hL hi h
    exact ⟨S2, q1, fun rv S' k => ip_Ev.ts rfl rfl rfl (q2 rv S' k)⟩
  · obtain ⟨S2, q1, q2⟩ := lw_ways hL hi h
    exact ⟨S2, q1, fun rv S' k => ip_Ev.ts rfl rfl rfl (q2 rv S' k)⟩
  · obtain ⟨S2, q1, q2⟩ := lw_says hL hi h
    exact ⟨S2, q1, fun rv S' k => ip_Ev.ts rfl rfl rfl (q2 rv S' k)⟩
  · obtain ⟨S2, q1, q2⟩ := lw_odds hL hi h
    exact ⟨S2, q1, fun rv S' k => ip_Ev.ts rfl rfl rfl (q2 rv S' k)⟩
  · obtain ⟨S2, q1, q2⟩ := lw_ask hL hi h
    exact ⟨S2, q1, fun rv S' k => ip_Ev.ts rfl rfl rfl (q2 rv S' k)⟩
  · obtain ⟨S2, q1, q2⟩ := lw_learn hL hi h
    exact ⟨S2, q1, fun rv S' k => ip_Ev.ts rfl rfl rfl (q2 rv S' k)⟩
  · obtain ⟨S2, q1, q2⟩ := lw_adjourn hL hi h
    exact ⟨S2, q1, fun rv S' k => ip_Ev.ts rfl rfl rfl (q2 rv S' k)⟩
  · obtain ⟨S2, q1, q2⟩ := lw_find hL hi h
    exact ⟨S2, q1, fun rv S' k => ip_Ev.ts rfl rfl rfl (q2 rv S' k)⟩
  · obtain ⟨S2, q1, q2⟩ := lw_bench hL hi h
    exact ⟨S2, q1, fun rv S' k => ip_Ev.ts rfl rfl rfl (q2 rv S' k)⟩
  · obtain ⟨S2, q1, q2⟩ := lw_see hL hi h
    exact ⟨S2, q1, fun rv S' k => ip_Ev.ts rfl rfl rfl (q2 rv S' k)⟩
  · obtain ⟨S2, q1, q2⟩ := lw_forget hL hi h
    exact ⟨S2, q1, fun rv S' k => ip_Ev.ts rfl rfl rfl (q2 rv S' k)⟩
  · obtain ⟨S2, q1, q2⟩ := lw_assizes hL hi h
    exact ⟨S2, q1, fun rv S' k => ip_Ev.ts rfl rfl rfl (q2 rv S' k)⟩
  · obtain ⟨S2, q1, q2⟩ := lw_image hL hi h
    exact ⟨S2, q1, fun rv S' k => ip_Ev.ts rfl rfl rfl (q2 rv S' k)⟩
  · obtain ⟨S2, q1, q2⟩ := lw_restore hN hL hi h
    exact ⟨S2, q1, fun rv S' k => ip_Ev.ts rfl rfl rfl (q2 rv S' k)⟩
  · obtain ⟨S2, q1, q2⟩ := lw_count hL hi h
    exact ⟨S2, q1, fun rv S' k => ip_Ev.ts rfl rfl rfl (q2 rv S' k)⟩
  · obtain ⟨S2, q1, q2⟩ := lw_digest hL hi h
    exact ⟨S2, q1, fun rv S' k => ip_Ev.ts rfl rfl rfl (q2 rv S' k)⟩
  · refine ⟨S, h.up, fun rv S' k => ?_⟩
    have tail : ip_Ev 189 775 (lvL i) [] S rv S' := by
      refine ip_Ev.steps 2 (pc' := 18) (lv' := [some (.ref 58), some (.ref 0), some (.ref 30), some (.int (nI i + 5))]) (st' := []) (S1 := S) rfl ?_
      rw [show nI i + 5 = nI (i + 5) from nI_add i 5]
      exact k
    rcases (show x = 25 ∨ x = 26 ∨ x = 27 ∨ x = 28 ∨ x = 29 ∨ x = 30 ∨ x = 31 by omega) with rfl | rfl | rfl | rfl | rfl | rfl | rfl
    · exact ip_Ev.ts rfl rfl rfl tail
    · exact ip_Ev.ts rfl rfl rfl tail
    · exact ip_Ev.ts rfl rfl rfl tail
    · exact ip_Ev.ts rfl rfl rfl tail
    · exact ip_Ev.ts rfl rfl rfl tail
    · exact ip_Ev.ts rfl rfl rfl tail
    · exact ip_Ev.ts rfl rfl rfl tail
set_option maxRecDepth 10000 in
theorem loop_ev {L : Nat} {xs : Nat → Int32} (hL : L ≤ 320) : ∀ (e i N : Nat) (S : ip_St), L - i ≤ e → N + e ≤ 400 → i ≤ L + 5 → Inv N L xs S → ∃ S', ip_Ev 189 18 (lvL i) [] S (some (.int 1)) S' := by
  have fin : ∀ (i : Nat) (S : ip_St) (N : Nat), ¬ i + 5 ≤ L → i ≤ L + 5 → Inv N L xs S → ∃ S', ip_Ev 189 18 (lvL i) [] S (some (.int 1)) S' := by
    intro i S N hle hi h
    have e59 : S.1 59 0 = nI L := h.2.2.1
    refine ⟨S, ?_⟩
    refine ip_Ev.steps 5 (pc' := 23) (lv' := lvL i) (st' := [.int (S.1 59 0 - 5), .int (nI i)]) (S1 := S) rfl ?_
    refine ip_Ev.iff2 (t := 781) rfl rfl ip_cGt (fun _ => ?_) (fun z => ?_)
    · refine ip_Ev.steps 1 (pc' := 782) (lv' := lvL i) (st' := [.int 1]) (S1 := S) rfl ?_
      exact ip_Ev.ret rfl
    · exfalso
      apply z
      rw [e59, Int32.lt_iff_toInt_lt, show (5 : Int32) = nI 5 from rfl, pk_sub_toInt (by omega) (by omega), nI_toInt (by omega)]
      omega
  intro e
  induction e with
  | zero =>
    intro i N S he hN hi h
    exact fin i S N (by omega) hi h
  | succ e ih =>
    intro i N S he hN hi h
    by_cases hle : i + 5 ≤ L
    · have e59 : S.1 59 0 = nI L := h.2.2.1
      obtain ⟨x, x1, x2⟩ := pk_andE (xs i) (m := 31) 5 (by decide)
      obtain ⟨S2, q1, q2⟩ := disp (by omega) hL hle h (show x < 32 from x1)
      obtain ⟨S', q3⟩ := ih (i + 5) (N + 1) S2 (by omega) (by omega) (by omega) q1
      refine ⟨S', ?_⟩
      refine ip_Ev.steps 5 (pc' := 23) (lv' := lvL i) (st' := [.int (S.1 59 0 - 5), .int (nI i)]) (S1 := S) rfl ?_
      refine ip_Ev.iff2 (t := 781) rfl rfl ip_cGt (fun z => ?_) (fun _ => ?_)
      · exfalso
        rw [e59, Int32.lt_iff_toInt_lt, show (5 : Int32) = nI 5 from rfl, pk_sub_toInt (by omega) (by omega), nI_toInt (by omega)] at z
        omega
      · refine ip_Ev.steps 2 (pc' := 28) (lv' := lvL i) (st' := [.int (nI i), .ref 58]) (S1 := S) rfl ?_
        refine ip_Ev.iald (v := xs i) rfl (scr_at0 h.2.2 hL (by omega)) ?_
        refine ip_Ev.steps 2 (pc' := 32) (lv' := lvL i) (st' := [.int (xs i &&& 31)]) (S1 := S) rfl ?_
        rw [x2]
        exact q2 _ _ q3
    · exact fin i S N hle hi h
