/-! ===== the model's constructor ===== -/
set_option maxRecDepth 10000 in
set_option maxHeartbeats 4000000 in
theorem ax_model {l : Launch} {D : va_G} {ad : Nat → Nat} {cy : Nat → ClassId} {L : Nat} {xs : Nat → Int32} {base : Nat} (hinj : ip_inj ad) (had : ∀ k, k < 55 → ad k = base + k) : ax_Mt l D ad cy L xs base 6 30 (ax_G 30 ++ [.inr (6, ax_df 6)]) (ip_ws ad cy (ax_T L xs 30)) 55 := by
  refine Met.ofW (cc := ax_cc 6) (maxL := ax_ml 6) (ret := none) (ax_pn 6 (by omega)) rfl ?_
  intro p e s m args below meth c s₁ B hml hv
  obtain ⟨rfl, hP, hK, hz, h55⟩ := hv
  have hts := atoms_spec (ws := ax_wd 6) B.pre
  have hown : s.vm.findClass (ip_on 6) = some m.cls := findClass_of_methodNamed B.named
  have hr := B.returns
  have hlocks := B.notSynchronized
  have hin : meth.name = "<init>" := (name_of_methodNamed B.named B.method).1
  rw [lg_entry_eq]
  have hl := ip_en_has ad (show ip_en (ax_ml 6) [.ref 30] = some [some (.ref 30), none] from rfl)
  have hlen : (ax_G 30 ++ [(Sum.inr (6, ax_df 6) : ax_E)]).length = 31 := by simp [ax_G]
  have C0 : ax_Cx D ad cy L xs base 6 p (ax_rm 6) s m _ meth c := ⟨B.exec, B.bytes, hml, hown, fun w hw => hts w (List.mem_cons_of_mem _ hw), hK, hinj, had, fun _ => hin, Nat.le_refl _, Nat.le_refl _, Nat.le_refl _, Nat.le_refl _⟩
  refine ax_its_ok C0 101 _ _ ax_r1 _ s.heap [] hl ⟨hP, va_S.rf, hz, hz, h55⟩ ?_
  intro ls' H' locs' hl' hI'
  obtain ⟨n, hn⟩ := said_ev0 L xs
  obtain ⟨hP', hS', hz', hc', -⟩ := hI'
  have hP2 : va_P D ip_cl (ip_ws ad cy (ax_S L xs)) H' := by
    rw [← ax_fin_ws]; exact hP'
  refine ip_run_ok l D ad cy L xs n 190 204 _ [] _ none _ hn p e (ax_rm 6) s m _ below meth c 24 3019 _ ls' H' locs' ⟨B.exec, B.bytes, hml, hown, fun w hw => hts w (List.mem_cons_of_mem _ hw), hK.1, hinj, by decide +kernel, by decide +kernel, Nat.le_refl _, Nat.le_refl _⟩ hl' hP2 hS' ⟨rfl, fun j _ => rfl⟩ ?_
  intro pc2 ls2 H2 locs2 st2 hret hP3 hS3 hSc3
  refine ax_sz fun hz3 => ?_
  have hlt : ad 54 < H2.size := (hP3 54 _ (ip_ws_at ad cy _ (by omega))).lt
  rw [had 54 (by omega)] at hlt
  have hs2 : s.heap.size = base + 31 := by rw [hz, hlen]
  have hq : ∀ t : State, t.heap = H2 → s.WarmedH t.vm → ax_Qx D ad base (ax_rC 6) (ip_ws ad cy (ax_T L xs 30)) 55 [Value.ref (ad 30)].toArray s (.returned none) t := fun t ht _ => ⟨rfl, by rw [ht]; exact hP3, ⟨by rw [ht]; omega, by show s.heap.size + 24 = base + 55; omega, by omega⟩, hS3.F ht⟩
  unfold ip_ret at hret
  split at hret
  · split at hret
    · split at hret
      · cases hret
      · rename_i hrt
        exact absurd hrt (by decide)
      · cases hret
    · cases hret
  · split at hret
    · split at hret
      · cases hret
      · cases hret
    · cases hret
  · split at hret
    · split at hret
      · cases hret
      · cases hret
    · cases hret
  · rename_i len hi2
    obtain ⟨-, hd, hn⟩ := ip_dec hi2
    obtain rfl : len = 1 := Nat.eq_of_beq_eq_true hn
    split at hret
    · exact W.vret B.exec B.bytes hr hq hS3.2.2 hd
    · cases hret
  · cases hret
