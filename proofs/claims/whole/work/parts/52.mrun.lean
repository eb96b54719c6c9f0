/-! ===== a constructor run to its end ===== -/
def ax_fit (t t' : Nat) (r : List Value) (ce sl : Nat) : Bool := Nat.ble (ax_rF t' + 1) (ax_rF t) && (Nat.ble (19 + ax_ml t' + ax_rL t') (ax_rL t) && (Nat.ble (ce + ax_rC t') (ax_rC t) && (Nat.ble (sl + ax_rS t') (ax_rS t) && (Nat.ble (r.map fun v => v.category).sum 8 && Nat.blt t' 6))))
def ax_run : Nat → Nat → ax_Cf → Option (List ax_E)
  | 0, _, _ => none
  | n + 1, t, q => match ax_stp t q.1 q.2.1 q.2.2.1 q.2.2.2.1 q.2.2.2.2.1 q.2.2.2.2.2 with
    | some q' => ax_run n t q'
    | none => match decode (ax_cc t) q.1 with
      | .ok (.return_, 1) => match q.2.2.1 with
        | [] => cond (Nat.beq q.2.2.2.2.1 (ax_rC t) && Nat.beq q.2.2.2.2.2 (ax_rS t)) (some q.2.2.2.1) none
        | _ => none
      | .ok (.invokespecial i, 3) => match ax_ctf t i with
        | some (t', _) => match q.2.2.1 with
          | .ref b :: r => cond (ax_fit t t' r q.2.2.2.2.1 q.2.2.2.2.2) (match ax_run n t' (0, [some (.ref b)], [], q.2.2.2.1, 0, 0) with
            | some G' => ax_run n t (q.1 + 3, q.2.1, r, G', q.2.2.2.2.1 + ax_rC t', q.2.2.2.2.2 + ax_rS t')
            | none => none) none
          | _ => none
        | none => none
      | _ => none
def ax_Rk (l : Launch) (D : va_G) (ad : Nat → Nat) (cy : Nat → ClassId) (L : Nat) (xs : Nat → Int32) (base t : Nat) (q : ax_Cf) (G' : List ax_E) : Prop :=
  ∀ (p : Program) (e : Env) (R : Room) (s : State) (m : MethodId) (args : Array Value) (below : List Frame) (meth : Method) (c : Code) (Q : State → Prop) (ls : Array Slot) (H : Heap) (locs : List Loc),
    ax_Cx D ad cy L xs base t p R s m args meth c → ip_has ad ls (ax_ml t) q.2.1 → ax_I ad cy D base s q.2.2.2.1 H locs q.2.2.2.2.1 →
    (∀ (pc' : Nat) (ls' : Array Slot) (H' : Heap) (locs' : List Loc), decode (ax_cc t) pc' = .ok (.return_, 1) → ax_I ad cy D base s G' H' locs' (ax_rC t) → W p l e R s m args below meth c H' locs' (ax_rC t) (ax_rS t) Q (F0 m pc' ls' [])) →
    W p l e R s m args below meth c H locs q.2.2.2.2.1 q.2.2.2.2.2 Q (F0 m q.1 ls (q.2.2.1.map (ip_mv ad)))
theorem ax_pn : ∀ t, t < 7 → plainName (ip_on t) = true := by decide +kernel
theorem ax_ml1 : ∀ t, t < 6 → ax_ml t = 1 := by decide
theorem ax_mt_of {l : Launch} {D : va_G} {ad : Nat → Nat} {cy : Nat → ClassId} {L : Nat} {xs : Nat → Int32} {base t b : Nat} {G G' : List ax_E} (ht : t < 6) (hinj : ip_inj ad) (had : ∀ k, k < 55 → ad k = base + k) (h : ax_Rk l D ad cy L xs base t (0, [some (.ref b)], [], G, 0, 0) G') : ax_Mt l D ad cy L xs base t b G (ax_ws ad cy G') G'.length := by
  refine Met.ofW (cc := ax_cc t) (maxL := ax_ml t) (ret := none) (ax_pn t (by omega)) rfl ?_
  intro p e s m args below meth c s₁ B hml hv
  obtain ⟨rfl, hP, hK, hz, h55⟩ := hv
  have hts := atoms_spec (ws := ax_wd t) B.pre
  have hown : s.vm.findClass (ip_on t) = some m.cls := findClass_of_methodNamed B.named
  have hr := B.returns
  have hlocks := B.notSynchronized
  have hin : meth.name = "<init>" := (name_of_methodNamed B.named B.method).1
  rw [lg_entry_eq]
  have hl := ip_en_has ad (show ip_en (ax_ml t) [.ref b] = some [some (.ref b)] by rw [ax_ml1 t ht]; rfl)
  refine h p e _ s m _ below meth c _ _ s.heap [] ⟨B.exec, B.bytes, hml, hown, fun w hw => hts w (List.mem_cons_of_mem _ hw), hK, hinj, had, fun _ => hin, Nat.le_refl _, Nat.le_refl _, Nat.le_refl _, Nat.le_refl _⟩ hl ⟨hP, va_S.rf, hz, hz, h55⟩ ?_
  intro pc' ls' H' locs' hd hI
  exact W.vret B.exec B.bytes hr (fun t ht _ => ⟨rfl, by rw [ht]; exact hI.1, ⟨by rw [ht]; exact hI.2.2.1, hI.2.2.2.1, hI.2.2.2.2⟩, hI.2.1.F ht⟩) hI.2.1.2.2 hd
theorem ax_run_ok (l : Launch) (D : va_G) (ad : Nat → Nat) (cy : Nat → ClassId) (L : Nat) (xs : Nat → Int32) (base : Nat) : ∀ (n t : Nat) (q : ax_Cf) (G' : List ax_E), ax_run n t q = some G' → ax_Rk l D ad cy L xs base t q G'
  | 0, t, q, G', h => by cases h
  | n + 1, t, q, G', h => by
    intro p e R s m args below meth c Q ls H locs C0 hl hI k
    unfold ax_run at h
    split at h
    · rename_i q1 h1
      exact ax_stp_ok C0 hl hI (by rw [h1]) (fun ls' H' locs' hl' hI' => ax_run_ok l D ad cy L xs base n t q1 G' h p e R s m args below meth c Q ls' H' locs' C0 hl' hI' k)
    · split at h
      · rename_i hd
        split at h
        · rename_i hst
          cases hc : (Nat.beq q.2.2.2.2.1 (ax_rC t) && Nat.beq q.2.2.2.2.2 (ax_rS t)) with
          | false => rw [hc] at h; cases h
          | true =>
            rw [hc] at h
            cases h
            simp only [Bool.and_eq_true] at hc
            have e1 := Nat.eq_of_beq_eq_true hc.1
            have e2 := Nat.eq_of_beq_eq_true hc.2
            have hk := k q.1 ls H locs hd (by rw [← e1]; exact hI)
            rw [hst, e1, e2]
            exact hk
        · cases h
      · rename_i i hd
        split at h
        · rename_i t' nst hct
          split at h
          · rename_i b r hst
            cases hc : ax_fit t t' r q.2.2.2.2.1 q.2.2.2.2.2 with
            | false => rw [hc] at h; cases h
            | true =>
              rw [hc] at h
              dsimp only [cond] at h
              split at h
              · rename_i G1 hG1
                unfold ax_fit at hc
                simp only [Bool.and_eq_true] at hc
                obtain ⟨c1, c2, c3, c4, c5, c6⟩ := hc
                have hM := ax_mt_of (Nat.le_of_ble_eq_true c6) C0.2.2.2.2.2.2.1 C0.2.2.2.2.2.2.2.1 (ax_run_ok l D ad cy L xs base n t' _ G1 hG1)
                rw [hst]
                refine ax_call_ok C0 hl.1 hI hct hM ⟨Nat.le_of_ble_eq_true c1, Nat.le_of_ble_eq_true c2⟩ ⟨Nat.le_of_ble_eq_true c3, Nat.le_of_ble_eq_true c4⟩ (by rw [ip_cat_sum]; exact Nat.le_of_ble_eq_true c5) hd ?_
                intro H1 locs1 hP1 hS1 hz1
                have h3 := hI.2.2.1
                have h4 := hI.2.2.2.1
                exact ax_run_ok l D ad cy L xs base n t _ G' h p e R s m args below meth c Q ls H1 locs1 C0 hl ⟨hP1, hS1, hz1.1, by show s.heap.size + (q.2.2.2.2.1 + ax_rC t') = base + G1.length; omega, hz1.2.2⟩ k
              · cases h
          · cases h
        · cases h
      · cases h
