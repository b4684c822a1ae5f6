/-! CONSTRUCTORS: every cell's place is known ahead (they're made one behind another); a cell is raw while its constructor runs, then done -/
def offC (kd i : Nat) : Nat := match kd with
  | 0 => 0 | 1 => 1 | 2 => 2 | 3 => 3 | 4 => 4 | 5 => 5
  | 18 => 6 | 19 => 7 | 20 => 8 | 21 => 9 | 22 => 10 | 23 => 11 | 24 => 12 | 25 => 13
  | 26 => 14 | 27 => 15 | 28 => 16 | 29 => 17
  | 6 => 18 + 4 * i | 7 => 19 + 4 * i | 8 => 20 + 4 * i | 9 => 21 + 4 * i
  | 30 => 42 + 2 * i | 31 => 43 + 2 * i
  | 10 => 50 + 8 * i | 11 => 51 + 8 * i | 12 => 52 + 8 * i | 13 => 53 + 8 * i | 14 => 54 + 8 * i | 15 => 55 + 8 * i | 16 => 56 + 8 * i | 17 => 57 + 8 * i
  | kd => 34 + kd
def adX (b kd i : Nat) : Nat := b + offC kd i
def cnL (kd : Nat) : Nat := cnA kd + cnM kd
def PL (kd i : Nat) : Prop := i < cnL kd
/-- the cell at a place -/
def invC (o : Nat) : Nat × Nat :=
  if o < 6 then (o, 0) else if o < 14 then (o + 12, 0) else if o < 17 then (o + 12, 0) else if o = 17 then (29, 0)
  else if o < 42 then (6 + (o - 18) % 4, (o - 18) / 4) else if o < 50 then (30 + (o - 42) % 2, (o - 42) / 2) else if o < 74 then (10 + (o - 50) % 8, (o - 50) / 8) else (o - 34, 0)
theorem cnL_big {kd : Nat} (h : 68 ≤ kd) : cnL kd = 0 := by
  have h1 : cnA kd = 0 := by unfold cnA; split <;> first | rfl | omega
  have h2 : cnM kd = 0 := by unfold cnM; rw [if_neg (by omega)]
  unfold cnL
  omega
theorem invC_ok : ∀ kd, kd < 68 → ∀ i, i < 6 → i < cnL kd → invC (offC kd i) = (kd, i) := by decide +kernel
theorem cnL_6 : ∀ kd, kd < 68 → cnL kd ≤ 6 := by decide +kernel
theorem invC_of {kd i : Nat} (h : PL kd i) : invC (offC kd i) = (kd, i) := by
  unfold PL at h
  by_cases hk : kd < 68
  · exact invC_ok kd hk i (Nat.lt_of_lt_of_le h (cnL_6 kd hk)) h
  · rw [cnL_big (by omega)] at h
    omega
theorem wI_PL {b : Nat} {P : Nat → Nat → Prop} (hP : ∀ kd i, P kd i → PL kd i) : wI (adX b) P := by
  intro kd i kd2 i2 h1 h2 e
  have e : offC kd i = offC kd2 i2 := by unfold adX at e; omega
  have a := invC_of (hP _ _ h1)
  have c := invC_of (hP _ _ h2)
  rw [e, c] at a
  exact ⟨congrArg Prod.fst a, congrArg Prod.snd a⟩
/-- what each cell holds when its constructor has run -/
def S0 : St := (fun kd _ j => match kd with
  | 0 => if j = 2 then 1 else 0
  | 1 => if j = 7 ∨ j = 9 then -1 else 0
  | 12 => -1
  | 15 => 50
  | 16 => 50
  | 30 => if j = 0 then -1 else 0
  | 40 => if j = 50 then -1 else 0
  | _ => 0, 0)
theorem wP.mono {D : va_G} {ad : Nat → Nat → Nat} {cs : Nat → ClassId} {P P2 : Nat → Nat → Prop} {S : St} {H : Heap} (h : wP D ad cs P S H) (hP : ∀ kd i, P2 kd i → P kd i) : wP D ad cs P2 S H := fun kd i q => h kd i (hP kd i q)
theorem wP.or {D : va_G} {ad : Nat → Nat → Nat} {cs : Nat → ClassId} {P1 P2 P : Nat → Nat → Prop} {S : St} {H : Heap} (h1 : wP D ad cs P1 S H) (h2 : wP D ad cs P2 S H) (hP : ∀ kd i, P kd i → P1 kd i ∨ P2 kd i) : wP D ad cs P S H := fun kd i q => (hP kd i q).elim (h1 kd i) (h2 kd i)
theorem wP.kept {D : va_G} {ad : Nat → Nat → Nat} {cs : Nat → ClassId} {P : Nat → Nat → Prop} {S : St} {H H1 : Heap} (h : wP D ad cs P S H) (hq : ∀ kd i, P kd i → H1[ad kd i]? = H[ad kd i]?) : wP D ad cs P S H1 := fun kd i q => (h kd i q).kept (hq kd i q)
theorem wP.lt {D : va_G} {ad : Nat → Nat → Nat} {cs : Nat → ClassId} {P : Nat → Nat → Prop} {S : St} {H : Heap} (h : wP D ad cs P S H) {kd i : Nat} (hp : P kd i) : ad kd i < H.size := (h kd i hp).lt
theorem wP.none {D : va_G} {ad : Nat → Nat → Nat} {cs : Nat → ClassId} {S : St} {H : Heap} : wP D ad cs (fun _ _ => False) S H := fun _ _ h => h.elim
/-- another row of ints that is the same inside the array -/
theorem va_at_arr {D : va_G} {a n : Nat} {cA : ClassId} {f g : Nat → Int32} {H : Heap} (h : va_at D clX (a, .inl (cA, n, .inl f)) H) (hfg : ∀ j, j < n → f j = g j) : va_at D clX (a, .inl (cA, n, .inl g)) H := by
  have h1 : H[a]? = some (vp_cell cA (n, .inl f)) := h
  show H[a]? = some (vp_cell cA (n, .inl g))
  rw [h1, vp_cell_i, vp_cell_i]
  congr 1
  unfold arrV
  congr 1
  congr 1
  funext j
  show Value.int (f j.val) = Value.int (g j.val)
  rw [hfg j.val j.isLt]
/-- one cell more is done -/
def Pq (P : Nat → Nat → Prop) (kd i : Nat) : Nat → Nat → Prop := fun a c => P a c ∨ (a = kd ∧ c = i)
theorem wP.add {D : va_G} {ad : Nat → Nat → Nat} {cs : Nat → ClassId} {P : Nat → Nat → Prop} {S : St} {H : Heap} {kd i : Nat} (h : wP D ad cs P S H) (hn : va_at D clX (ad kd i, lay ad cs kd i (S.1 kd i) (sw S kd i)) H) : wP D ad cs (Pq P kd i) S H := by
  intro a c q
  rcases q with q | ⟨rfl, rfl⟩
  · exact h a c q
  · exact hn
/-- the heap while a constructor runs: done cells, raw cells -/
def cH (D : va_G) (ad : Nat → Nat → Nat) (cs : Nat → ClassId) (P : Nat → Nat → Prop) (ws : va_W) (A : Nat → Prop) (H0 : Heap) (S : St) (H : Heap) (locs : List Loc) (h : Nat) : Prop :=
  wP D ad cs P S H ∧ va_P D clX ws H ∧ va_S A H0 H locs ∧ H.size = h ∧ (∀ kd i, P kd i → ∀ q ∈ ws, q.1 ≠ ad kd i) ∧ va_D (fun _ => True) ws
section CT
variable {p : Program} {l : Launch} {e : Env} {R : Room} {s : State} {m : MethodId} {args : Array Value} {below : List Frame} {meth : Method} {c : Code} {H : Heap} {locs : List Loc} {Q : State → Prop} {own : String} {cc : ByteArray} {nL : Nat} {ret : Option FieldType} {fr lo : Nat} {D : va_G} {ad : Nat → Nat → Nat} {cs : Nat → ClassId} {P P0 : Nat → Nat → Prop} {A : Nat → Prop} {tU : Nat} {adK adV : Nat → Nat} {cn : Nat → Nat} {S : St} {pc nc ns h : Nat} {ls : Array Slot} {rest : List Value} {ws : va_W}
/-- newarray of ints or booleans: the cell (kd, i) is done -/
theorem c_newa {kd i N t : Nat} {atype : ArrayType} {ty : FieldType} {n : Int32} (E : Ex p s m args meth c R own cc nL ret fr lo D ad cs P0 A tU adK adV cn) (hh : cH D ad cs P ws A s.heap S H locs h) (hA : ∀ q, s.heap.size ≤ q → A q) (hty : newarray.typeOf atype = ty) (hdv : defaultValue ty = .int 0) (ht : (tyX cs)[t]? = some (cs t, ty)) (hra : ∀ (U : State) (cA : ClassId), va_RA U cA ty = (U.vm.findClass ("[" ++ ty.toString) = some cA)) (harr : Cond.arrayClass ty ∈ tG) (hn : ¬ n < 0) (hN : n.toNatClampNeg = N) (hbytes : N * componentBytes ty ≤ 536870912) (hcells : nc + 1 ≤ R.cells) (hslots : ns + N ≤ R.slots)
    (hlay : ∀ (f : Nat → Int32) (w : Int64), lay ad cs kd i f w = .inl (cs t, N, .inl f)) (hz : ∀ j, j < N → S.1 kd i j = 0) (had : ad kd i = h) (hd : decode cc pc = .ok (.newarray atype, 2))
    (kk : ∀ H1 : Heap, cH D ad cs (Pq P kd i) ws A s.heap S H1 locs (h + 1) → W p l e R s m args below meth c H1 locs (nc + 1) (ns + N) Q (F0 m (pc + 2) ls (.ref (ad kd i) :: rest))) : W p l e R s m args below meth c H locs nc ns Q (F0 m pc ls (.int n :: rest)) := by
  subst hty
  obtain ⟨h1, h2, h3, h4, h5, h6⟩ := hh
  subst h4
  refine va_newaK E.hx E.hb (E.hts _ harr) rfl hd rfl hn hN hbytes hcells hslots rfl fun H1 cA e1 z1 o1 _ hNm => ?_
  have hcA : cA = cs t := by
    have := (E.hK.2 t _ ht).2
    rw [hra] at this
    exact Option.some.inj (hNm.symm.trans this)
  subst hcA
  have hW := kk H1 ⟨?_, h2.kept (fun k q hq => o1 q.1 ((h2 k q hq).lt)), ⟨by rw [z1]; exact Nat.le_trans h3.1 (Nat.le_succ _), fun q q1 q2 => by rw [o1 q (Nat.lt_of_lt_of_le q1 h3.1)]; exact h3.2.1 q q1 q2, h3.2.2⟩, z1, ?_, h6⟩
  · rw [had] at hW
    exact hW
  · refine (h1.kept (fun a q hq => o1 _ (h1.lt hq))).add ?_
    rw [hlay, had]
    refine va_at_arr (f := fun _ => 0) ?_ (fun j hj => (hz j hj).symm)
    show H1[H.size]? = some (vp_cell _ _)
    rw [e1, vp_cell_i, hdv]
  · intro a q hq w hw
    rcases hq with hq | ⟨rfl, rfl⟩
    · exact h5 a q hq w hw
    · rw [had]
      obtain ⟨k, hk⟩ := List.getElem?_of_mem hw
      exact Nat.ne_of_lt (h2 k w hk).lt
/-- new: a raw object, at the end of the raw ones -/
theorem c_new {ci N idx : Nat} {C : String} {T : u_T} {ty0 : Nat → FieldType} {fs : List Value} (E : Ex p s m args meth c R own cc nL ret fr lo D ad cs P0 A tU adK adV cn) (hh : cH D ad cs P ws A s.heap S H locs h) (hc : clX[ci]? = some (C, T, N)) (hin : ∀ w ∈ u_ws C T N, w ∈ tG) (hty : ∀ k, k < N → parseFieldDescriptor (T k).2.2.1 = some (ty0 k)) (hcl : Cond.classLink own idx C ∈ tG) (hinst : Cond.instantiable C N ∈ tG) (hini : Cond.initialized C ∈ tG) (hfs : ∀ j, j < N → defaultValue (ty0 j) = vp_V fs j) (hcells : nc + 1 ≤ R.cells) (hslots : ns + N ≤ R.slots) (hd : decode cc pc = .ok (.new idx, 3))
    (kk : ∀ H1 : Heap, cH D ad cs P (ws ++ [(h, .inr (ci, fs))]) A s.heap S H1 locs (h + 1) → W p l e R s m args below meth c H1 locs (nc + 1) (ns + N) Q (F0 m (pc + 3) ls (.ref h :: rest))) : W p l e R s m args below meth c H locs nc ns Q (F0 m pc ls rest) := by
  obtain ⟨h1, h2, h3, h4, h5, h6⟩ := hh
  subst h4
  have hKn := E.hK.1 ci _ hc
  refine W.newcK E.hx E.hb E.hown (E.hts _ hcl) (E.hts _ hinst) (E.hts _ hini) rfl hd hcells hslots hKn.2.1 rfl fun H1 kC hkC e1 z1 o1 => ?_
  refine kk H1 ⟨h1.kept (fun a q hq => o1 _ (h1.lt hq)), (h2.kept (fun k q hq => o1 q.1 ((h2 k q hq).lt))).app (va_P1 ?_), ⟨by rw [z1]; exact Nat.le_trans h3.1 (Nat.le_succ _), fun q q1 q2 => by rw [o1 q (Nat.lt_of_lt_of_le q1 h3.1)]; exact h3.2.1 q q1 q2, h3.2.2⟩, z1, ?_, h6.push h2 rfl trivial⟩
  · exact ⟨_, hc, (u_born ty0 E.hts hin hKn hkC e1 hty).to hfs⟩
  · intro a q hq w hw
    rcases List.mem_append.mp hw with hw | hw
    · exact h5 a q hq w hw
    · rw [List.mem_singleton.mp hw]
      exact fun z => Nat.lt_irrefl _ (by have := h1.lt hq; rw [← z] at this; exact this)
/-- a raw row of references -/
theorem c_anew {N t idx : Nat} {C : String} {n : Int32} (E : Ex p s m args meth c R own cc nL ret fr lo D ad cs P0 A tU adK adV cn) (hh : cH D ad cs P ws A s.heap S H locs h) (ht : (tyX cs)[t]? = some (cs t, .object C)) (hcl : Cond.classLink own idx C ∈ tG) (hov : va_AO C s) (hn : ¬ n < 0) (hN : n.toNatClampNeg = N) (hbytes : N * 4 ≤ 536870912) (hcells : nc + 1 ≤ R.cells) (hslots : ns + N ≤ R.slots) (hd : decode cc pc = .ok (.anewarray idx, 3))
    (kk : ∀ H1 : Heap, cH D ad cs P (ws ++ [(h, .inl (cs t, N, .inr (.inr (.inr (.inr (fun _ => none))))))]) A s.heap S H1 locs (h + 1) → W p l e R s m args below meth c H1 locs (nc + 1) (ns + N) Q (F0 m (pc + 3) ls (.ref h :: rest))) : W p l e R s m args below meth c H locs nc ns Q (F0 m pc ls (.int n :: rest)) := by
  obtain ⟨h1, h2, h3, h4, h5, h6⟩ := hh
  subst h4
  subst hN
  refine W.anew E.hx E.hb E.hown (E.hts _ hcl) (va_AO.use hov) rfl hd rfl hn hbytes hcells hslots fun cA kA comp f1 f2 f3 f4 => ?_
  have hcA : cA = cs t := by
    obtain ⟨_, _, _, _, _, q⟩ := (E.hK.2 t _ ht).2
    exact Option.some.inj (f1.symm.trans q)
  subst hcA
  generalize hH1 : H.push ({ cls := cs t, slots := Array.replicate n.toNatClampNeg .null, vm := .none } : Cell) = H1
  have z1 : H1.size = H.size + 1 := by rw [← hH1, Array.size_push]
  have e1 : H1[H.size]? = some (arrV (cs t) n.toNatClampNeg (fun _ => .null)) := by rw [← hH1, Array.getElem?_push_size, ← arrV_new]
  have o1 : ∀ q : Nat, q < H.size → H1[q]? = H[q]? := fun q hq => by rw [← hH1, Array.getElem?_push, if_neg (Nat.ne_of_lt hq)]
  refine kk H1 ⟨h1.kept (fun a q hq => o1 _ (h1.lt hq)), (h2.kept (fun k q hq => o1 q.1 ((h2 k q hq).lt))).app (va_P1 ?_), ⟨by rw [z1]; exact Nat.le_trans h3.1 (Nat.le_succ _), fun q q1 q2 => by rw [o1 q (Nat.lt_of_lt_of_le q1 h3.1)]; exact h3.2.1 q q1 q2, h3.2.2⟩, z1, ?_, h6.push h2 rfl trivial⟩
  · show H1[H.size]? = some (vp_cell _ _)
    rw [vp_cell_q]
    exact e1
  · intro a q hq w hw
    rcases List.mem_append.mp hw with hw | hw
    · exact h5 a q hq w hw
    · rw [List.mem_singleton.mp hw]
      exact fun z => Nat.lt_irrefl _ (by have := h1.lt hq; rw [← z] at this; exact this)
/-- reading a raw object's field -/
theorem c_get {ci k N idx q0 a : Nat} {C : String} {T : u_T} {fs : List Value} {v : Value} (E : Ex p s m args meth c R own cc nL ret fr lo D ad cs P0 A tU adK adV cn) (hh : cH D ad cs P ws A s.heap S H locs h) (he : ws[q0]? = some (a, .inr (ci, fs))) (hc : clX[ci]? = some (C, T, N)) (hin : ∀ w ∈ u_ws C T N, w ∈ tG) (hk : k < N) (hv : fs[k]? = some v) (hl : Cond.fieldLink own idx (T k).1 (T k).2.1 (T k).2.2.1 ∈ tG) (hd : decode cc pc = .ok (.getfield idx, 3)) (kk : W p l e R s m args below meth c H locs nc ns Q (F0 m (pc + 3) ls (v :: rest))) : W p l e R s m args below meth c H locs nc ns Q (F0 m pc ls (.ref a :: rest)) :=
  va_get (D := D) (cl := clX) (tys := tyX cs) E.hx E.hb E.hts hin E.hown E.hK hh.2.1 q0 he hc k hk (E.hts _ hl) (fun _ q => q) hv hd kk
/-- a raw cell gets another content; the heap else as it was -/
theorem cH_set {q0 a k1 : Nat} {e0 e1 : va_E} {H1 : Heap} (hA : A a) (hh : cH D ad cs P ws A s.heap S H locs h) (he : ws[q0]? = some (a, e0)) (hn : va_at D clX (a, e1) H1) (z : H1.size = H.size) (oq : ∀ q : Nat, q ≠ a → H1[q]? = H[q]?) : cH D ad cs P (ws.set q0 (a, e1)) A s.heap S H1 (locs ++ [⟨a, k1⟩]) h := by
  obtain ⟨h1, h2, h3, h4, h5, h6⟩ := hh
  have hm := List.mem_of_getElem? he
  refine ⟨h1.kept (fun kd i hp => oq _ (fun z => h5 kd i hp _ hm z.symm)), h2.set h6 he hn oq, h3.put z oq hA, by rw [z]; exact h4, fun kd i hp w hw => ?_, h6.set he⟩
  obtain ⟨k, hk⟩ := List.getElem?_of_mem hw
  by_cases hkq : k = q0
  · subst hkq
    rw [List.getElem?_set_self (List.getElem?_eq_some_iff.mp he).1] at hk
    cases hk
    exact h5 kd i hp (a, e0) hm
  · rw [List.getElem?_set_ne (Ne.symm hkq)] at hk
    exact h5 kd i hp w (List.mem_of_getElem? hk)
/-- writing a raw object's field: one that is final, in its own constructor -/
theorem c_putF {ci k N idx q0 a : Nat} {C : String} {T : u_T} {fs : List Value} {ty0 : Nat → FieldType} {ty : FieldType} {v : Value} (E : Ex p s m args meth c R own cc nL ret fr lo D ad cs P0 A tU adK adV cn) (hA : A a) (hh : cH D ad cs P ws A s.heap S H locs h) (he : ws[q0]? = some (a, .inr (ci, fs))) (hc : clX[ci]? = some (C, T, N)) (hin : ∀ w ∈ u_ws C T N, w ∈ tG) (hty : ∀ k, k < N → parseFieldDescriptor (T k).2.2.1 = some (ty0 k)) (hnm : ∀ a, a < N → ∀ b, b < N → a ≠ b → (T a).2.1 ≠ (T b).2.1) (hk : k < N) (hfin : (T k).2.2.2 = true) (hin2 : meth.name = "<init>") (hdecl : (T k).1 = own) (hd0 : parseFieldDescriptor (T k).2.2.1 = some ty) (hn : narrow ty v = v) (hfit : fits ty v = true) (hlen : k < fs.length)
    (hl : Cond.fieldLink own idx (T k).1 (T k).2.1 (T k).2.2.1 ∈ tG) (hd : decode cc pc = .ok (.putfield idx, 3))
    (kk : ∀ (H1 : Heap) (locs1 : List Loc), cH D ad cs P (ws.set q0 (a, .inr (ci, fs.set k v))) A s.heap S H1 locs1 h → W p l e R s m args below meth c H1 locs1 nc ns Q (F0 m (pc + 3) ls rest)) : W p l e R s m args below meth c H locs nc ns Q (F0 m pc ls (v :: .ref a :: rest)) := by
  have hap := va_apart (own := own) (D := D) (cl := clX) (ci := ci) (C := C) (T := T) (N := N) E.hts hin ty0 hty hnm E.hK hc
  obtain ⟨r, h1, cell, q1, q2, q3, q4⟩ := hh.2.1 q0 _ he
  have hr : r = (C, T, N) := Option.some.inj (h1.symm.trans hc)
  subst hr
  obtain ⟨hS, hfc, kC, hkC, hkind⟩ := E.hK.1 ci _ hc
  obtain ⟨cf, kf, fi, f, hi, hsl⟩ := hS k hk
  have hlay := E.hts _ (hin _ (u_in_lay hk))
  unfold u_lay at hlay
  rw [if_pos hfin] at hlay
  have hst := (u_facts hfc hkC (u_lays E.hts hin hk) hi).1
  have hcf : m.cls = cf := by
    obtain ⟨_, _, c', _, _, _, -, -, hf', -, -, -, hown2, -⟩ := Cond.laysFinal_spec hlay
    have e1 : c' = cf := by have := hi.symm.trans hf'; simp at this; exact this.1.symm
    rw [hdecl] at hown2
    rw [← e1]; exact Option.some.inj (E.hown.symm.trans hown2)
  have h6 := u_fits hfc hkC hkind (Or.inr hlay) hi hd0 hn hfit
  refine W.putFinK E.hx E.hb E.hown (E.hts _ hl) hi hst hcf hin2 (by rw [q2]; exact h6) q1 q3 (by rw [hsl]; exact k2_hasslot (q4 k hk)) rfl rfl hd fun H' e1 e2 e3 => ?_
  rw [hsl] at e1
  exact kk H' _ (cH_set hA hh he ⟨_, hc, t_OB.to (V := updV (vp_V fs) k v) ⟨_, e1, q2, q3, t_set q4 hap hk v⟩ (fun j _ => vp_updV_set hlen v j)⟩ e2 e3)
theorem c_put {ci k N idx q0 a : Nat} {C : String} {T : u_T} {fs : List Value} {ty0 : Nat → FieldType} {ty : FieldType} {v : Value} (E : Ex p s m args meth c R own cc nL ret fr lo D ad cs P0 A tU adK adV cn) (hA : A a) (hh : cH D ad cs P ws A s.heap S H locs h) (he : ws[q0]? = some (a, .inr (ci, fs))) (hc : clX[ci]? = some (C, T, N)) (hin : ∀ w ∈ u_ws C T N, w ∈ tG) (hty : ∀ k, k < N → parseFieldDescriptor (T k).2.2.1 = some (ty0 k)) (hnm : ∀ a, a < N → ∀ b, b < N → a ≠ b → (T a).2.1 ≠ (T b).2.1) (hk : k < N) (hfin : (T k).2.2.2 = false) (hd0 : parseFieldDescriptor (T k).2.2.1 = some ty) (hn : narrow ty v = v) (hfit : fits ty v = true) (hlen : k < fs.length)
    (hl : Cond.fieldLink own idx (T k).1 (T k).2.1 (T k).2.2.1 ∈ tG) (hd : decode cc pc = .ok (.putfield idx, 3))
    (kk : ∀ (H1 : Heap) (locs1 : List Loc), cH D ad cs P (ws.set q0 (a, .inr (ci, fs.set k v))) A s.heap S H1 locs1 h → W p l e R s m args below meth c H1 locs1 nc ns Q (F0 m (pc + 3) ls rest)) : W p l e R s m args below meth c H locs nc ns Q (F0 m pc ls (v :: .ref a :: rest)) := by
  have hap := va_apart (own := own) (D := D) (cl := clX) (ci := ci) (C := C) (T := T) (N := N) E.hts hin ty0 hty hnm E.hK hc
  obtain ⟨r, h1, cell, q1, q2, q3, q4⟩ := hh.2.1 q0 _ he
  have hr : r = (C, T, N) := Option.some.inj (h1.symm.trans hc)
  subst hr
  obtain ⟨hS, hfc, kC, hkC, hkind⟩ := E.hK.1 ci _ hc
  obtain ⟨cf, kf, fi, f, hi, hsl⟩ := hS k hk
  have hlay := E.hts _ (hin _ (u_in_lay hk))
  unfold u_lay at hlay
  rw [if_neg (by rw [hfin]; decide)] at hlay
  have hst := (u_facts hfc hkC (u_lays E.hts hin hk) hi).1
  have h6 := u_store hfc hkC hkind hlay hi hd0 hn hfit
  refine W.putK E.hx E.hb (f := f) ⟨E.hown, E.hts _ hl, ⟨_, _, _, hi⟩, hst⟩ (by rw [q2]; exact h6) q1 q3 (by rw [hsl]; exact k2_hasslot (q4 k hk)) rfl rfl hd fun H' e1 e2 e3 => ?_
  rw [hsl] at e1
  exact kk H' _ (cH_set hA hh he ⟨_, hc, t_OB.to (V := updV (vp_V fs) k v) ⟨_, e1, q2, q3, t_set q4 hap hk v⟩ (fun j _ => vp_updV_set hlen v j)⟩ e2 e3)
/-- a done object is laid into a raw row of references -/
theorem c_aast {q0 a t n kd i ci : Nat} {r : vw_C} {fs : List Value} {g : Nat → Option Nat} {j : Int32} (E : Ex p s m args meth c R own cc nL ret fr lo D ad cs P0 A tU adK adV cn) (hA : A a) (hh : cH D ad cs P ws A s.heap S H locs h) (he : ws[q0]? = some (a, .inl (cs t, n, .inr (.inr (.inr (.inr g)))))) (ht : (tyX cs)[t]? = some (cs t, .object r.1)) (hp : P kd i) (hce : lay ad cs kd i (S.1 kd i) (sw S kd i) = .inr (ci, fs)) (hc : clX[ci]? = some r) (hin : vp_in j n) (hd : decode cc pc = .ok (.aastore, 1))
    (kk : ∀ (H1 : Heap) (locs1 : List Loc), cH D ad cs P (ws.set q0 (a, .inl (cs t, n, .inr (.inr (.inr (.inr (va_up g j.toNatClampNeg (some (ad kd i)))))))))  A s.heap S H1 locs1 h → W p l e R s m args below meth c H1 locs1 nc ns Q (F0 m (pc + 1) ls rest)) : W p l e R s m args below meth c H locs nc ns Q (F0 m pc ls (.ref (ad kd i) :: .int j :: .ref a :: rest)) := by
  have hlt : j.toNatClampNeg < n := Nat.not_le.mp fun q => hin (Or.inr q)
  have h0 : ¬ j < 0 := fun q => hin (Or.inl q)
  have hv := hh.1 kd i hp
  rw [hce] at hv
  obtain ⟨r', hr', cellV, g1, g2, g3, -⟩ := hv
  have hcls := (E.hK.1 ci r hc).2
  obtain ⟨kA, comp, k1, k2, k3, -⟩ := (E.hK.2 t _ ht).2
  have hcomp : comp = D.1 ci := Option.some.inj (k3.symm.trans hcls.1)
  subst hcomp
  obtain ⟨kC, hkC, -⟩ := hcls.2
  refine W.aast E.hx E.hb (hh.2.1 q0 _ he) (fun q h => by cases h) (fun h => by cases h) k1 k2 rfl hkC ⟨h0, by show _ < (arrV _ _ _).slots.size; rw [arrV_size]; exact hlt⟩ g1 (fun q h => by rw [g3] at h; cases h) (by rw [g2]; exact hkC) (by rw [g2]; exact va_assign hcls) rfl rfl hd fun H1 e z oq => ?_
  refine kk H1 _ (cH_set hA hh he ?_ z oq)
  show H1[a]? = some (vp_cell _ _)
  rw [e]
  rw [vp_cell_q, vp_cell_q, arrV_store]
  congr 2
  funext q
  by_cases hq : q = j.toNatClampNeg
  · subst hq
    simp [updV, va_up, va_rf]
  · simp [updV, va_up, hq]
/-- the first raw cell is done -/
theorem cH_done {kd i a : Nat} {e0 : va_E} {ws1 : va_W} (hh : cH D ad cs P ((a, e0) :: ws1) A s.heap S H locs h) (had : ad kd i = a) (hl : lay ad cs kd i (S.1 kd i) (sw S kd i) = e0) : cH D ad cs (Pq P kd i) ws1 A s.heap S H locs h := by
  obtain ⟨h1, h2, h3, h4, h5, h6⟩ := hh
  refine ⟨h1.add (by rw [had, hl]; exact h2 0 _ rfl), fun k q hq => h2 (k + 1) q hq, h3, h4, ?_, ⟨fun x y u v hx hy huv => ?_, fun _ _ _ => trivial⟩⟩
  · intro x y hq w hw
    rcases hq with hq | ⟨rfl, rfl⟩
    · exact h5 x y hq w (List.mem_cons_of_mem _ hw)
    · rw [had]
      obtain ⟨k, hk⟩ := List.getElem?_of_mem hw
      intro z
      have := h6.1 (k + 1) 0 w (a, e0) hk rfl z
      omega
  · have := h6.1 (x + 1) (y + 1) u v hx hy huv
    omega
end CT
