/-! from the law's entry to its loop -/
abbrev gv1 : Cond := Jvm.Cond.and given_1 narrow_1
def tmJS (i : Nat) : Term := Term.string (owJS i) (ixJS i)
theorem gs_ex : ∀ i, i < 13 → Cond.exactly (tmJS i) "java/lang/String" ∈ flatC gv1 := by decide +kernel
theorem gs_co : ∀ i, i < 13 → Cond.eq (.field (tmJS i) "java/lang/String" "coder" "B") (.int 0) ∈ flatC gv1 := by decide +kernel
theorem gs_ar : ∀ i, i < 13 → Cond.arrayOf (.field (tmJS i) "java/lang/String" "value" "[B") .byte ∈ flatC gv1 := by decide +kernel
theorem gs_le : ∀ i, i < 13 → Cond.eq (.length (.field (tmJS i) "java/lang/String" "value" "[B")) (.int (Int32.ofNat (lenJS.getD i 0))) ∈ flatC gv1 := by decide +kernel
theorem gs_el : ∀ i, i < 13 → ∀ j, j < lenJS.getD i 0 → Cond.eq (.elem (.field (tmJS i) "java/lang/String" "value" "[B") (.int (Int32.ofNat j))) (.int ((bytJS.getD i []).getD j 0)) ∈ flatC gv1 := by decide +kernel
theorem gs_ne0 : ∀ j, j < 13 → 0 < j → (Cond.not (Cond.eq (tmJS 0) (tmJS j)) ∈ flatC gv1 ∨ Cond.not (Cond.eq (tmJS j) (tmJS 0)) ∈ flatC gv1) := by decide +kernel
theorem gs_ne1 : ∀ j, j < 13 → 1 < j → (Cond.not (Cond.eq (tmJS 1) (tmJS j)) ∈ flatC gv1 ∨ Cond.not (Cond.eq (tmJS j) (tmJS 1)) ∈ flatC gv1) := by decide +kernel
theorem gs_ne2 : ∀ j, j < 13 → 2 < j → (Cond.not (Cond.eq (tmJS 2) (tmJS j)) ∈ flatC gv1 ∨ Cond.not (Cond.eq (tmJS j) (tmJS 2)) ∈ flatC gv1) := by decide +kernel
theorem gs_ne3 : ∀ j, j < 13 → 3 < j → (Cond.not (Cond.eq (tmJS 3) (tmJS j)) ∈ flatC gv1 ∨ Cond.not (Cond.eq (tmJS j) (tmJS 3)) ∈ flatC gv1) := by decide +kernel
theorem gs_ne4 : ∀ j, j < 13 → 4 < j → (Cond.not (Cond.eq (tmJS 4) (tmJS j)) ∈ flatC gv1 ∨ Cond.not (Cond.eq (tmJS j) (tmJS 4)) ∈ flatC gv1) := by decide +kernel
theorem gs_ne5 : ∀ j, j < 13 → 5 < j → (Cond.not (Cond.eq (tmJS 5) (tmJS j)) ∈ flatC gv1 ∨ Cond.not (Cond.eq (tmJS j) (tmJS 5)) ∈ flatC gv1) := by decide +kernel
theorem gs_ne6 : ∀ j, j < 13 → 6 < j → (Cond.not (Cond.eq (tmJS 6) (tmJS j)) ∈ flatC gv1 ∨ Cond.not (Cond.eq (tmJS j) (tmJS 6)) ∈ flatC gv1) := by decide +kernel
theorem gs_ne7 : ∀ j, j < 13 → 7 < j → (Cond.not (Cond.eq (tmJS 7) (tmJS j)) ∈ flatC gv1 ∨ Cond.not (Cond.eq (tmJS j) (tmJS 7)) ∈ flatC gv1) := by decide +kernel
theorem gs_ne8 : ∀ j, j < 13 → 8 < j → (Cond.not (Cond.eq (tmJS 8) (tmJS j)) ∈ flatC gv1 ∨ Cond.not (Cond.eq (tmJS j) (tmJS 8)) ∈ flatC gv1) := by decide +kernel
theorem gs_ne9 : ∀ j, j < 13 → 9 < j → (Cond.not (Cond.eq (tmJS 9) (tmJS j)) ∈ flatC gv1 ∨ Cond.not (Cond.eq (tmJS j) (tmJS 9)) ∈ flatC gv1) := by decide +kernel
theorem gs_ne10 : ∀ j, j < 13 → 10 < j → (Cond.not (Cond.eq (tmJS 10) (tmJS j)) ∈ flatC gv1 ∨ Cond.not (Cond.eq (tmJS j) (tmJS 10)) ∈ flatC gv1) := by decide +kernel
theorem gs_ne11 : ∀ j, j < 13 → 11 < j → (Cond.not (Cond.eq (tmJS 11) (tmJS j)) ∈ flatC gv1 ∨ Cond.not (Cond.eq (tmJS j) (tmJS 11)) ∈ flatC gv1) := by decide +kernel
theorem gs_ne12 : ∀ j, j < 13 → 12 < j → (Cond.not (Cond.eq (tmJS 12) (tmJS j)) ∈ flatC gv1 ∨ Cond.not (Cond.eq (tmJS j) (tmJS 12)) ∈ flatC gv1) := by decide +kernel
theorem gs_lt : ∀ i, i < 13 → ∀ j, j < 13 → i < j → (Cond.not (Cond.eq (tmJS i) (tmJS j)) ∈ flatC gv1 ∨ Cond.not (Cond.eq (tmJS j) (tmJS i)) ∈ flatC gv1) := by
  intro i hi
  match i, hi with
  | 0, _ => exact gs_ne0
  | 1, _ => exact gs_ne1
  | 2, _ => exact gs_ne2
  | 3, _ => exact gs_ne3
  | 4, _ => exact gs_ne4
  | 5, _ => exact gs_ne5
  | 6, _ => exact gs_ne6
  | 7, _ => exact gs_ne7
  | 8, _ => exact gs_ne8
  | 9, _ => exact gs_ne9
  | 10, _ => exact gs_ne10
  | 11, _ => exact gs_ne11
  | 12, _ => exact gs_ne12
theorem gs_ne (i : Nat) (hi : i < 13) (j : Nat) (hj : j < 13) (hij : i ≠ j) : (Cond.not (Cond.eq (tmJS i) (tmJS j)) ∈ flatC gv1 ∨ Cond.not (Cond.eq (tmJS j) (tmJS i)) ∈ flatC gv1) := by
  rcases Nat.lt_or_ge i j with h | h
  · exact gs_lt i hi j hj h
  · exact (gs_lt j hj i hi (by omega)).symm
theorem gs_un : ∀ j, j < 6 → Cond.eq (.elem (.static RX0 "UNDER" "[I") (.int (Int32.ofNat j))) (.int (undT j)) ∈ flatC gv1 := by decide +kernel
theorem gs_st : ∀ i, i < 13 → Cond.stringRef (owJS i) (ixJS i) (txJS i) ∈ tables_1 := by decide +kernel
theorem SE_at {s : State} {bs : Nat} (hts : ∀ w ∈ lw_tbl, w.before #[Value.ref bs] s = true) (hgv : gv1.before #[Value.ref bs] s = true) : ∃ (tU : Nat) (adK adV : Nat → Nat), SE tU adK adV (fun q => s.heap.size ≤ q) s s.heap := by
  have hs := flat_of_before _ hgv
  have hA : ∀ a : Nat, a < s.heap.size → ¬ (fun q => s.heap.size ≤ q) a := fun a h => Nat.not_le.mpr h
  obtain ⟨adK, adV, hS, hev⟩ := vk_Sof (N := 13) (tm := tmJS) (len := lenJS) (byt := bytJS) (A := fun q => s.heap.size ≤ q) (args := #[Value.ref bs]) (s := s) (by decide) (fun i hi => hs _ (gs_ex i hi)) (fun i hi => hs _ (gs_co i hi)) (fun i hi => hs _ (gs_ar i hi)) (fun i hi => hs _ (gs_le i hi)) (fun i hi j hj => hs _ (gs_el i hi j hj)) (fun i j hi hj hij => (gs_ne i hi j hj hij).imp (hs _) (hs _)) hA
  obtain ⟨tU, hU, hT⟩ := va_Tof (tm := .static RX0 "UNDER" "[I") (N := 6) (f := fun j => .int (undT j)) (A := fun q => s.heap.size ≤ q) (args := #[Value.ref bs]) (s := s) (by decide) (hs (.arrayOf (.static RX0 "UNDER" "[I") .int) (by decide +kernel)) (va_eqt (hs (.eq (.length (.static RX0 "UNDER" "[I")) (.int (Int32.ofNat 6))) (by decide +kernel))) (fun j hj => va_eqt (hs _ (gs_un j hj))) hA
  refine ⟨tU, adK, adV, va_Zof (hts (.laysStatic "java/lang/String" "COMPACT_STRINGS" "Z") (List.mem_append_right _ (List.mem_of_getElem? (i := 174) (by decide +kernel)))) (hts (.initialized "java/lang/String") (List.mem_append_right _ (List.mem_of_getElem? (i := 7) (by decide +kernel)))) (va_eqi (hs (.eq (.static "java/lang/String" "COMPACT_STRINGS" "Z") (.int 1)) (by decide +kernel))) hA, va_Zref (hts (.laysStatic RX0 "UNDER" "[I") (List.mem_append_right _ (List.mem_of_getElem? (i := 724) (by decide +kernel)))) (hts (.initialized RX0) (List.mem_append_right _ (List.mem_of_getElem? (i := 16) (by decide +kernel)))) hU hA, hT, hS, fun i hi => vk_R.of (hts _ (List.mem_append_right _ (gs_st i hi))) (hev i hi), va_Zqof (hts (.laysStatic "jdk/internal/util/Preconditions" "SIOOBE_FORMATTER" "Ljava/util/function/BiFunction;") (List.mem_append_right _ (List.mem_of_getElem? (i := 190) (by decide +kernel)))) (hts (.initialized "jdk/internal/util/Preconditions") (List.mem_append_right _ (List.mem_of_getElem? (i := 9) (by decide +kernel)))) (hs (.isRef (.static "jdk/internal/util/Preconditions" "SIOOBE_FORMATTER" "Ljava/util/function/BiFunction;")) (by decide +kernel)) hA⟩
theorem K_at {s : State} {bs : Nat} (hts : ∀ w ∈ lw_tbl, w.before #[Value.ref bs] s = true) : ∃ (D : va_G) (cs : Nat → ClassId), va_K D clX (tyX cs) s := by
  have htG : ∀ w ∈ tG, w.before #[Value.ref bs] s = true := fun w hw => hts w (List.mem_filter.mp hw).1
  obtain ⟨c0, iS0, hKn0⟩ := u_known (C := RX1) (T := TX1) (N := 7) (n := 7) htG inX1 (htG _ tb69)
  obtain ⟨c1, iS1, hKn1⟩ := u_known (C := RX2) (T := TX2) (N := 10) (n := 10) htG inX2 (htG _ tb26)
  obtain ⟨c2, iS2, hKn2⟩ := u_known (C := RX3) (T := TX3) (N := 4) (n := 4) htG inX3 (htG _ tb127)
  obtain ⟨c3, iS3, hKn3⟩ := u_known (C := RX4) (T := TX4) (N := 3) (n := 3) htG inX4 (htG _ tb146)
  obtain ⟨c4, iS4, hKn4⟩ := u_known (C := RX5) (T := TX5) (N := 13) (n := 13) htG inX5 (htG _ tb301)
  obtain ⟨c5, iS5, hKn5⟩ := u_known (C := RX6) (T := TX6) (N := 5) (n := 5) htG inX6 (htG _ tb100)
  obtain ⟨c6, iS6, hKn6⟩ := u_known (C := RX7) (T := TX7) (N := 10) (n := 10) htG inX7 (htG _ tb18)
  obtain ⟨c7, iS7, hKn7⟩ := u_known (C := RX8) (T := TX8) (N := 58) (n := 58) htG inX8 (htG _ tb726)
  obtain ⟨cI, kI_, compI, f1, f2, f3⟩ := Cond.arrayClass_spec (htG _ tb65)
  obtain ⟨cZ, kZ, compZ, z1, z2, z3⟩ := Cond.arrayClass_spec (htG _ tb98)
  obtain ⟨compR, cR, kR, r1, r2, r3, r4, r5⟩ := Cond.arrayOver_spec (hts (.arrayOver (.object RX3)) (List.mem_append_right _ (List.mem_of_getElem? (i := 67) (by decide +kernel))))
  obtain ⟨compS, cS, kS_, s1, s2, s3, s4, s5⟩ := Cond.arrayOver_spec (hts (.arrayOver (.object RX4)) (List.mem_append_right _ (List.mem_of_getElem? (i := 126) (by decide +kernel))))
  refine ⟨(fun k => match k with | 0 => c0 | 1 => c1 | 2 => c2 | 3 => c3 | 4 => c4 | 5 => c5 | 6 => c6 | _ => c7, fun k => match k with | 0 => iS0 | 1 => iS1 | 2 => iS2 | 3 => iS3 | 4 => iS4 | 5 => iS5 | 6 => iS6 | _ => iS7), fun k => match k with | 0 => cI | 1 => cZ | 2 => cR | _ => cS, fun k q hq => ?_, fun k q hq => ?_⟩
  · match k, hq with
    | 0, hq => cases hq; exact hKn0
    | 1, hq => cases hq; exact hKn1
    | 2, hq => cases hq; exact hKn2
    | 3, hq => cases hq; exact hKn3
    | 4, hq => cases hq; exact hKn4
    | 5, hq => cases hq; exact hKn5
    | 6, hq => cases hq; exact hKn6
    | 7, hq => cases hq; exact hKn7
    | k + 8, hq => simp [clX] at hq
  · match k, hq with
    | 0, hq => cases hq; exact ⟨fun n z => ⟨fun k h => (by cases h), kI_, f2, compI, f3⟩, f1⟩
    | 1, hq => cases hq; exact ⟨fun n z => ⟨fun k h => (by cases h), kZ, z2, compZ, z3⟩, z1⟩
    | 2, hq => cases hq; exact ⟨fun n z => ⟨fun k h => (by cases h), kR, r3, compR, r4⟩, kR, compR, r3, r4, r1, r5⟩
    | 3, hq => cases hq; exact ⟨fun n z => ⟨fun k h => (by cases h), kS_, s3, compS, s4⟩, kS_, compS, s3, s4, s1, s5⟩
    | k + 4, hq => simp [tyX] at hq
theorem X7X_at {s : State} {bs : Nat} (hts : ∀ w ∈ lw_tbl, w.before #[Value.ref bs] s = true) : X7X s := ⟨va_Nw.of rfl (hts _ (List.mem_append_right _ (List.mem_of_getElem? (i := 27) (by decide +kernel)))), va_Nw.of rfl (hts _ (List.mem_append_right _ (List.mem_of_getElem? (i := 70) (by decide +kernel)))), va_Nw.of rfl (hts _ (List.mem_append_right _ (List.mem_of_getElem? (i := 101) (by decide +kernel)))), va_Nw.of rfl (hts _ (List.mem_append_right _ (List.mem_of_getElem? (i := 147) (by decide +kernel)))), va_AO.of (hts _ (List.mem_append_right _ (List.mem_of_getElem? (i := 67) (by decide +kernel)))), va_AO.of (hts _ (List.mem_append_right _ (List.mem_of_getElem? (i := 126) (by decide +kernel))))⟩
theorem X7X_blind (U : State) (g : JFrame) (mk : MethodId) (a : Array Value) (h : X7X U) : X7X (U.calling g mk a) := ⟨va_Nw.same rfl rfl h.1, va_Nw.same rfl rfl h.2.1, va_Nw.same rfl rfl h.2.2.1, va_Nw.same rfl rfl h.2.2.2.1, va_AO.moved (u := U) (U := U.calling g mk a) (Vm.Alike.refl U.vm) h.2.2.2.2.1, va_AO.moved (u := U) (U := U.calling g mk a) (Vm.Alike.refl U.vm) h.2.2.2.2.2⟩
theorem X7X_warm {s U : State} (hW : s.WarmedH U.vm) (h : X7X s) : X7X U := ⟨h.1.warmM hW, h.2.1.warmM hW, h.2.2.1.warmM hW, h.2.2.2.1.warmM hW, va_AO.moved hW.alike h.2.2.2.2.1, va_AO.moved hW.alike h.2.2.2.2.2⟩
/-- the class's part of one state, the reference's of another -/
def joinS (S1 S2 : St) : St := (fun kd i => if kd < 40 then S1.1 kd i else S2.1 kd i, S2.2)
theorem cnL_or {kd i : Nat} (h : PL kd i) : (i < cnA kd ∧ kd < 40) ∨ (i < cnM kd ∧ ¬ kd < 40) := by
  unfold PL cnL at h
  by_cases hk : kd < 40
  · left
    have : cnM kd = 0 := by unfold cnM; rw [if_neg (by omega)]
    omega
  · right
    have := cnA_big (kd := kd) (by omega)
    omega
theorem join_wP {D : va_G} {ad : Nat → Nat → Nat} {cs : Nat → ClassId} {S1 S2 : St} {H : Heap} (h1 : wP D ad cs (fun kd i => i < cnA kd) S1 H) (h2 : wP D ad cs (fun kd i => i < cnM kd) S2 H) : wP D ad cs PL (joinS S1 S2) H := by
  intro kd i hp
  rcases cnL_or hp with ⟨h, hk⟩ | ⟨h, hk⟩
  · have h0 := h1 kd i h
    have e1 : (joinS S1 S2).1 kd i = S1.1 kd i := by show (if kd < 40 then _ else _) = _; rw [if_pos hk]
    have e2 : sw (joinS S1 S2) kd i = sw S1 kd i := by unfold sw; rw [if_neg (by omega), if_neg (by omega)]
    rw [e1, e2]; exact h0
  · have h0 := h2 kd i h
    have e1 : (joinS S1 S2).1 kd i = S2.1 kd i := by show (if kd < 40 then _ else _) = _; rw [if_neg hk]
    rw [e1]; exact h0
section ST1
variable {p : Program} {l : Launch} {e : Env} {R : Room} {s : State} {m : MethodId} {args : Array Value} {below : List Frame} {meth : Method} {c : Code} {H : Heap} {locs : List Loc} {Q : State → Prop} {D : va_G} {ad : Nat → Nat → Nat} {cs : Nat → ClassId} {P : Nat → Nat → Prop} {A : Nat → Prop} {S : St} {pc nc ns : Nat} {ls : Array Slot} {rest st0 : List Value} {mc ms a ci h2 : Nat} {fs : List Value} {PC : Nat → Nat → Prop} {K : St → Prop}
/-- behind a constructor's call, where nothing else is raw: its cells by its own state, the others as they were -/
theorem c_subK {av : Array Value} (hA2 : ∀ q, a ≤ q → A q) (hPa : ∀ kd i, P kd i → ad kd i < a) (hh : cH D ad cs P [(a, .inr (ci, fs))] A s.heap S H locs (a + 1)) (hr : va_Run p l e R s m args below meth c H locs nc ns mc ms (F0 m pc ls st0) rest (va_Qv K (QC D ad cs PC h2) (fun q => a ≤ q) av) (fun q => a ≤ q))
    (kk : ∀ (S1 : St) (H1 : Heap) (locs1 : List Loc), K S1 → wP D ad cs P S H1 → wP D ad cs PC S1 H1 → H1.size = h2 → va_S A s.heap H1 locs1 → W p l e R s m args below meth c H1 locs1 (nc + mc) (ns + ms) Q (F0 m (pc + 3) ls rest)) : W p l e R s m args below meth c H locs nc ns Q (F0 m pc ls st0) := by
  refine va_callv hr hh.2.2.1 (fun q _ z => hA2 q z) hA2 fun u t H1 locs1 ht _ hp hB _ hq hS => ?_
  obtain ⟨hB1, hB2⟩ := hB
  rw [ht] at hB1 hB2
  exact kk u H1 locs1 hp (hh.1.kept (fun kd i hp => hq _ (hh.1.lt hp) (Nat.not_le.mpr (hPa kd i hp)))) hB2 hB1 hS
end ST1
set_option maxHeartbeats 4000000 in
set_option maxRecDepth 8000 in
/-- THE LAW, from its entry, out of the pure statement -/
theorem whole_pure {p : Program} {e : Env} {s : State} {m : MethodId} {below : List Frame} {meth : Method} {c : Code} (l : Launch) {b L : Nat} {xs : Nat → Int32} (hpure : wpX7_init (fun S1 => wpX8_init (fun S2 => ∃ k, wbL_law_18 L xs (fun _ _ => True) k 0 (joinS S1 S2)))) (C0 : lw_At p s m meth c b L xs) : W p l e room_1 s m #[Value.ref b] below meth c s.heap [] 0 0 (lw_Z below #[Value.ref b] s) (entryFrame m ([Value.ref b] : List Value).toArray 4) := by
  obtain ⟨hx, hb, hr, hml, hown, hts, hX, hbl, hlocks, hgv⟩ := id C0
  obtain ⟨tU, adK, adV, hE⟩ := SE_at hts hgv
  obtain ⟨D, cs, hK⟩ := K_at hts
  have hX7 := X7X_at hts
  have hA : ∀ q : Nat, s.heap.size ≤ q → (fun q : Nat => s.heap.size ≤ q) q := fun _ h => h
  have hbA : ¬ s.heap.size ≤ b := Nat.not_le.mpr hbl
  have E : Ex p s m #[Value.ref b] meth c room_1 R_law code 4 ret 80 1932 D (adX s.heap.size) cs (fun _ _ => False) (fun q => s.heap.size ≤ q) tU adK adV cn0 := ⟨⟨hx, hb, hml, hown, fun w hw => hts w (List.mem_filter.mp hw).1⟩, hK, hE, ⟨fun _ _ _ _ h => h.elim, fun q h => by obtain ⟨_, _, h, _⟩ := h; exact h.elim⟩, hr, hlocks, by decide, by decide, fun _ _ h => absurd h (Nat.not_lt_zero _)⟩
  have EP := E.toP (P := PL) (cn2 := cnL) (wI_PL (fun _ _ h => h)) PqA (fun _ _ h => h)
  have hl := lv_entry ([.ref b]) (n := 4) (Nat.le_of_ble_eq_true rfl)
  rw [lg_entry_eq]
  generalize (lg_sl ([.ref b]) ++ List.replicate (4 - (lg_sl ([.ref b])).length) Slot.unset).toArray = ls at hl ⊢
  have hl : lv_has ls 4 [(0, .ref b)] := hl
  have hh : cH D (adX s.heap.size) cs (fun _ _ => False) [] (fun q => s.heap.size ≤ q) s.heap S0 s.heap [] s.heap.size := ⟨wP.none, fun k q hk => by simp at hk, va_S.rf, rfl, fun _ _ h => h.elim, ⟨fun i j p q hi => by simp at hi, fun k q hk => by simp at hk⟩⟩
  generalize ([] : List Loc) = locs at hh ⊢
  refine c_new (ci := 6) (C := RX7) (T := TX7) (N := 10) (ty0 := tyX7) (fs := [.null, .null, .int 0, .null, .null, .null, .int 0, .null, .null, .null]) E hh rfl inX7 tyX7_ok tb17 tb18 tb1 (by decide +kernel) (by decide) (by decide) dL_law_0 (fun H hh => ?_)
  refine lv_dup hx hb dL_law_3 rfl ?_
  refine c_subK (a := s.heap.size) (fun q hq => hq) (fun _ _ h => h.elim) hh (c_runI (As := []) (rest := [.ref s.heap.size]) (X := X7X) E (fun q hq => hq) X7X_blind (fun U hW => X7X_warm hW hX7) hh (iX7 s.heap.size hpure) kX7_init tb19 ⟨by decide, by decide⟩ rfl hl.1 rfl (Nat.le_of_ble_eq_true rfl) dL_law_4 ⟨by decide, by decide⟩) (fun S1 H locs hw _ hP1 hz hS => ?_)
  refine lv_astore_n (lv' := [(1, .ref s.heap.size), (0, .ref b)]) hx hb dL_law_7 rfl hl (by decide) rfl (fun ls hl => ?_)
  have hh : cH D (adX s.heap.size) cs (fun kd i => i < cnA kd) [] (fun q => s.heap.size ≤ q) s.heap S1 H locs (s.heap.size + 74) := ⟨hP1, fun k q hk => by simp at hk, hS, hz, fun _ _ _ q hq => by simp at hq, ⟨fun i j p q hi => by simp at hi, fun k q hk => by simp at hk⟩⟩
  refine c_new (ci := 7) (C := RX8) (T := TX8) (N := 58) (ty0 := tyX8) (fs := [.int 0, .null, .null, .int 0, .int 0, .null, .int 0, .int 0, .int 0, .null, .null, .null, .null, .null, .null, .null, .int 0, .int 0, .int 0, .int 0, .int 0, .int 0, .int 0, .int 0, .int 0, .int 0, .int 0, .int 0, .long 0, .int 0, .int 0, .int 0, .null, .null, .null, .int 0, .null, .null, .int 0, .int 0, .null, .null, .int 0, .int 0, .null, .null, .null, .null, .null, .null, .int 0, .int 0, .int 0, .int 0, .null, .null, .null, .null]) E hh rfl inX8 tyX8_ok tb725 tb726 tb15 (by decide +kernel) (by decide) (by decide) dL_law_8 (fun H hh => ?_)
  refine lv_dup hx hb dL_law_11 rfl ?_
  refine c_subK (a := adX s.heap.size 40 0) (fun q hq => Nat.le_trans (show s.heap.size ≤ adX s.heap.size 40 0 from Nat.le_add_right _ _) hq) (fun kd i h => ?_) hh (c_runI (As := []) (rest := [.ref (adX s.heap.size 40 0)]) (X := fun _ => True) E (fun q hq => Nat.le_trans (show s.heap.size ≤ adX s.heap.size 40 0 from Nat.le_add_right _ _) hq) (fun _ _ _ _ q => q) (fun _ _ => trivial) hh (iX8 s.heap.size hw) kX8_init tb727 ⟨by decide, by decide⟩ rfl hl.1 rfl (Nat.le_of_ble_eq_true rfl) dL_law_12 ⟨by decide, by decide⟩) (fun S2 H locs hw hP1 hP2 hz hS => ?_)
  · by_cases hk : kd < 32
    · have := offC_A kd hk i (Nat.lt_of_lt_of_le h (cnA_6 kd hk)) h
      show s.heap.size + offC kd i < s.heap.size + 74
      omega
    · rw [cnA_big (by omega)] at h
      omega
  refine lv_astore_n (lv' := [(2, .ref (adX s.heap.size 40 0)), (1, .ref s.heap.size), (0, .ref b)]) hx hb dL_law_15 rfl hl (by decide) rfl (fun ls hl => ?_)
  refine lv_iconst (v := 0) hx hb dL_law_16 (by decide) ?_
  refine lv_istore_n (lv' := [(3, .int 0), (2, .ref (adX s.heap.size 40 0)), (1, .ref s.heap.size), (0, .ref b)]) hx hb dL_law_17 rfl hl (by decide) rfl (fun ls hl => ?_)
  refine W.widen (k := 600000) (n := 7302249) (by decide) (by decide) ?_
  obtain ⟨k, hw⟩ := hw
  exact bL_law_18 EP hX hbl hbA k 0 _ _ _ _ hw ⟨join_wP hP1 hP2, hS, hz⟩ (lv_sub hl [3, 2, 1, 0] rfl)
