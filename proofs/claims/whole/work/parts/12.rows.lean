/-! ROWS over the worlds: what stands at a method's entry (Ex), the heap's picture (wH), contracts (MI, MV, ML), and a row an instruction that touches the heap or calls -/
def wP (D : va_G) (ad : Nat → Nat → Nat) (cs : Nat → ClassId) (P : Nat → Nat → Prop) (S : St) (H : Heap) : Prop := ∀ kd i, P kd i → va_at D clX (ad kd i, lay ad cs kd i (S.1 kd i) (sw S kd i)) H
def wA (ad : Nat → Nat → Nat) (P : Nat → Nat → Prop) : Nat → Prop := fun q => ∃ kd i, P kd i ∧ q = ad kd i
def wI (ad : Nat → Nat → Nat) (P : Nat → Nat → Prop) : Prop := ∀ kd i kd2 i2, P kd i → P kd2 i2 → ad kd i = ad kd2 i2 → kd2 = kd ∧ i2 = i
def wH (D : va_G) (ad : Nat → Nat → Nat) (cs : Nat → ClassId) (P : Nat → Nat → Prop) (A : Nat → Prop) (H0 : Heap) (sz : Nat) (S : St) (H : Heap) (locs : List Loc) : Prop := wP D ad cs P S H ∧ va_S A H0 H locs ∧ H.size = sz
theorem va_P1 {D : va_G} {cl : List vw_C} {q : Nat × va_E} {H : Heap} (h : va_at D cl q H) : va_P D cl [q] H := by
  intro k r hk
  match k, hk with
  | 0, hk => cases hk; exact h
/-- constants that nobody writes: the texts of words, the table of KINDS -/
def nJS : Nat := 13
def txJS : Nat → String := fun i => match i with
  | 0 => "like" | 1 => "hers" | 2 => "noes" | 3 => "month" | 4 => "man" | 5 => "maid" | 6 => "takes" | 7 => "worth" | 8 => "wants" | 9 => "or" | 10 => "and" | 11 => "not"
  | _ => "takes 1 ; worth like + hers - 50 ; wants 30 < like ;"
def ixJS : Nat → Nat := fun i => match i with
  | 0 => 105 | 1 => 107 | 2 => 109 | 3 => 111 | 4 => 113 | 5 => 115 | 6 => 117 | 7 => 119 | 8 => 121 | 9 => 123 | 10 => 125 | 11 => 127
  | _ => 54
def owJS : Nat → String := fun i => if i < 12 then RX2 else RX7
def bytJS : List (List Int32) := [[108, 105, 107, 101], [104, 101, 114, 115], [110, 111, 101, 115], [109, 111, 110, 116, 104], [109, 97, 110], [109, 97, 105, 100], [116, 97, 107, 101, 115], [119, 111, 114, 116, 104], [119, 97, 110, 116, 115], [111, 114], [97, 110, 100], [110, 111, 116], [116, 97, 107, 101, 115, 32, 49, 32, 59, 32, 119, 111, 114, 116, 104, 32, 108, 105, 107, 101, 32, 43, 32, 104, 101, 114, 115, 32, 45, 32, 53, 48, 32, 59, 32, 119, 97, 110, 116, 115, 32, 51, 48, 32, 60, 32, 108, 105, 107, 101, 32, 59]]
def lenJS : List Nat := [4, 4, 4, 5, 3, 4, 5, 5, 5, 2, 3, 3, 52]
def undT : Nat → Int32 := fun i => match i with
  | 0 => -1 | 1 => 0 | 2 => 0 | 3 => 2 | 4 => 1 | _ => 0
def SE (tU : Nat) (adK adV : Nat → Nat) (A : Nat → Prop) (U : State) (H : Heap) : Prop :=
  va_Z "java/lang/String" "COMPACT_STRINGS" "Z" (.int 1) A U H ∧ va_Z RX0 "UNDER" "[I" (.ref tU) A U H ∧ va_T .int tU 6 (fun j => .int (undT j)) A U H ∧ vk_S nJS lenJS bytJS adK adV A U H ∧ (∀ i, i < nJS → vk_R (owJS i) (ixJS i) (txJS i) (adK i) U) ∧ va_Zq "jdk/internal/util/Preconditions" "SIOOBE_FORMATTER" "Ljava/util/function/BiFunction;" A U H
theorem SE.go {tU : Nat} {adK adV : Nat → Nat} {A : Nat → Prop} {s U : State} {H H1 : Heap} (h : SE tU adK adV A s H) (hW : s.WarmedH U.vm) (hq : ∀ a : Nat, a < H.size → ¬ A a → H1[a]? = H[a]?) : SE tU adK adV A U H1 :=
  ⟨va_Z.moved hW.alike (h.1.kept hq), va_Z.moved hW.alike (h.2.1.kept hq), va_T.moved hW.alike (h.2.2.1.kept hq), vk_S.moved hW.alike (h.2.2.2.1.kept hq), fun i hi => (h.2.2.2.2.1 i hi).warm hW, va_Zq.moved hW.alike (h.2.2.2.2.2.kept hq)⟩
theorem SE.same {tU : Nat} {adK adV : Nat → Nat} {A : Nat → Prop} {s U : State} {H : Heap} (h : SE tU adK adV A s H) (hv : U.vm = s.vm) : SE tU adK adV A U H := by
  have hal : s.vm.Alike U.vm := by rw [hv]; exact Vm.Alike.refl _
  exact ⟨va_Z.moved hal h.1, va_Z.moved hal h.2.1, va_T.moved hal h.2.2.1, vk_S.moved hal h.2.2.2.1, fun i hi => (h.2.2.2.2.1 i hi).same hv, va_Zq.moved hal h.2.2.2.2.2⟩
theorem SE.narrow {tU : Nat} {adK adV : Nat → Nat} {A B : Nat → Prop} {s : State} {H : Heap} (h : SE tU adK adV A s H) (hAB : ∀ q, B q → A q) : SE tU adK adV B s H :=
  ⟨h.1.narrow hAB, h.2.1.narrow hAB, h.2.2.1.narrow hAB, h.2.2.2.1.narrow hAB, h.2.2.2.2.1, h.2.2.2.2.2.narrow hAB⟩
def PcX (D : va_G) (ad : Nat → Nat → Nat) (cs : Nat → ClassId) (P : Nat → Nat → Prop) (sz tU : Nat) (adK adV : Nat → Nat) (S : St) (U : State) : Prop := (wP D ad cs P S U.heap ∧ U.heap.size = sz) ∧ va_K D clX (tyX cs) U ∧ SE tU adK adV (wA ad P) U U.heap
def QX (D : va_G) (ad : Nat → Nat → Nat) (cs : Nat → ClassId) (P : Nat → Nat → Prop) (sz : Nat) (S : St) (t : State) : Prop := wP D ad cs P S t.heap ∧ t.heap.size = sz
/-- contracts: of an answer that is an int (or boolean), of none, of a long -/
def MI (l : Launch) (y : MethodName) (b : ByteArray) (n : Nat) (r : Option FieldType) (fr lo : Nat) (D : va_G) (ad : Nat → Nat → Nat) (cs : Nat → ClassId) (P : Nat → Nat → Prop) (sz tU : Nat) (adK adV : Nat → Nat) (av : List Value) (S : St) (K : Int32 → St → Prop) : Prop :=
  Met l y (wsO y b n r) { frames := fr, cells := 0, slots := 0, locals := lo } (va_Pc av (PcX D ad cs P sz tU adK adV S)) (va_Qi K (QX D ad cs P sz) (wA ad P)) 0 0 (wA ad P)
def MV (l : Launch) (y : MethodName) (b : ByteArray) (n : Nat) (r : Option FieldType) (fr lo : Nat) (D : va_G) (ad : Nat → Nat → Nat) (cs : Nat → ClassId) (P : Nat → Nat → Prop) (sz tU : Nat) (adK adV : Nat → Nat) (av : List Value) (S : St) (K : St → Prop) : Prop :=
  Met l y (wsO y b n r) { frames := fr, cells := 0, slots := 0, locals := lo } (va_Pc av (PcX D ad cs P sz tU adK adV S)) (va_Qv K (QX D ad cs P sz) (wA ad P)) 0 0 (wA ad P)
def ML (l : Launch) (y : MethodName) (b : ByteArray) (n : Nat) (r : Option FieldType) (fr lo : Nat) (D : va_G) (ad : Nat → Nat → Nat) (cs : Nat → ClassId) (P : Nat → Nat → Prop) (sz tU : Nat) (adK adV : Nat → Nat) (av : List Value) (S : St) (K : Int64 → St → Prop) : Prop :=
  Met l y (wsO y b n r) { frames := fr, cells := 0, slots := 0, locals := lo } (va_Pc av (PcX D ad cs P sz tU adK adV S)) (va_Ql K (QX D ad cs P sz) (wA ad P)) 0 0 (wA ad P)
/-- what stands at a method's entry -/
def Ex (p : Program) (s : State) (m : MethodId) (args : Array Value) (meth : Method) (c : Code) (R : Room) (own : String) (cc : ByteArray) (nL : Nat) (ret : Option FieldType) (fr lo : Nat) (D : va_G) (ad : Nat → Nat → Nat) (cs : Nat → ClassId) (P : Nat → Nat → Prop) (A : Nat → Prop) (tU : Nat) (adK adV : Nat → Nat) (cn : Nat → Nat) : Prop :=
  (p.tables.exec = Jvm.exec ∧ c.code = cc ∧ c.maxLocals = nL ∧ s.vm.findClass own = some m.cls ∧ ∀ w ∈ tG, w.before args s = true) ∧ va_K D clX (tyX cs) s ∧ SE tU adK adV A s s.heap ∧ (wI ad P ∧ ∀ q, wA ad P q → A q) ∧ meth.sig.returnType = ret ∧ meth.locks = false ∧ fr ≤ R.frames ∧ lo ≤ R.locals ∧ ∀ kd i, i < cn kd → P kd i
section RX
variable {p : Program} {l : Launch} {e : Env} {R : Room} {s : State} {m : MethodId} {args : Array Value} {below : List Frame} {meth : Method} {c : Code} {H : Heap} {locs : List Loc} {Q : State → Prop} {own : String} {cc : ByteArray} {nL : Nat} {ret : Option FieldType} {fr lo : Nat} {D : va_G} {ad : Nat → Nat → Nat} {cs : Nat → ClassId} {P : Nat → Nat → Prop} {A : Nat → Prop} {tU : Nat} {adK adV : Nat → Nat} {cn : Nat → Nat} {S : St} {pc nc ns sz : Nat} {ls : Array Slot} {rest : List Value}
theorem Ex.hx (E : Ex p s m args meth c R own cc nL ret fr lo D ad cs P A tU adK adV cn) : p.tables.exec = Jvm.exec := E.1.1
theorem Ex.hb (E : Ex p s m args meth c R own cc nL ret fr lo D ad cs P A tU adK adV cn) : c.code = cc := E.1.2.1
theorem Ex.hml (E : Ex p s m args meth c R own cc nL ret fr lo D ad cs P A tU adK adV cn) : c.maxLocals = nL := E.1.2.2.1
theorem Ex.hown (E : Ex p s m args meth c R own cc nL ret fr lo D ad cs P A tU adK adV cn) : s.vm.findClass own = some m.cls := E.1.2.2.2.1
theorem Ex.hts (E : Ex p s m args meth c R own cc nL ret fr lo D ad cs P A tU adK adV cn) : ∀ w ∈ tG, w.before args s = true := E.1.2.2.2.2
theorem Ex.hK (E : Ex p s m args meth c R own cc nL ret fr lo D ad cs P A tU adK adV cn) : va_K D clX (tyX cs) s := E.2.1
theorem Ex.hE (E : Ex p s m args meth c R own cc nL ret fr lo D ad cs P A tU adK adV cn) : SE tU adK adV A s s.heap := E.2.2.1
theorem Ex.hI (E : Ex p s m args meth c R own cc nL ret fr lo D ad cs P A tU adK adV cn) : wI ad P := E.2.2.2.1.1
theorem Ex.hA (E : Ex p s m args meth c R own cc nL ret fr lo D ad cs P A tU adK adV cn) : ∀ q, wA ad P q → A q := E.2.2.2.1.2
theorem Ex.hr (E : Ex p s m args meth c R own cc nL ret fr lo D ad cs P A tU adK adV cn) : meth.sig.returnType = ret := E.2.2.2.2.1
theorem Ex.hk (E : Ex p s m args meth c R own cc nL ret fr lo D ad cs P A tU adK adV cn) : meth.locks = false := E.2.2.2.2.2.1
theorem Ex.hf (E : Ex p s m args meth c R own cc nL ret fr lo D ad cs P A tU adK adV cn) : fr ≤ R.frames := E.2.2.2.2.2.2.1
theorem Ex.hl (E : Ex p s m args meth c R own cc nL ret fr lo D ad cs P A tU adK adV cn) : lo ≤ R.locals := E.2.2.2.2.2.2.2.1
theorem Ex.hn (E : Ex p s m args meth c R own cc nL ret fr lo D ad cs P A tU adK adV cn) : ∀ kd i, i < cn kd → P kd i := E.2.2.2.2.2.2.2.2
theorem wH_set {H0 H1 : Heap} {kd i k : Nat} {f : Nat → Int32} (hI : wI ad P) (hA : ∀ q, wA ad P q → A q) (h : wH D ad cs P A H0 sz S H locs) (hp : P kd i) (hnew : va_at D clX (ad kd i, lay ad cs kd i f (sw S kd i)) H1) (z : H1.size = H.size) (oq : ∀ q : Nat, q ≠ ad kd i → H1[q]? = H[q]?) : wH D ad cs P A H0 sz (sa S kd i f) H1 (locs ++ [⟨ad kd i, k⟩]) := by
  refine ⟨fun kd2 i2 hp2 => ?_, h.2.1.put z oq (hA _ ⟨kd, i, hp, rfl⟩), z.trans h.2.2⟩
  have e : sw (sa S kd i f) kd2 i2 = sw S kd2 i2 := rfl
  rw [e]
  by_cases hc : kd2 = kd ∧ i2 = i
  · obtain ⟨rfl, rfl⟩ := hc
    rw [sa_eq]
    exact hnew
  · rw [sa_ne hc]
    exact (h.1 kd2 i2 hp2).kept (oq _ (fun q => hc (hI _ _ _ _ hp hp2 q.symm)))
theorem wH_setl {H0 H1 : Heap} {k : Nat} {v : Int64} (hI : wI ad P) (hA : ∀ q, wA ad P q → A q) (h : wH D ad cs P A H0 sz S H locs) (hp : P 40 0) (hnew : va_at D clX (ad 40 0, lay ad cs 40 0 (S.1 40 0) v) H1) (z : H1.size = H.size) (oq : ∀ q : Nat, q ≠ ad 40 0 → H1[q]? = H[q]?) : wH D ad cs P A H0 sz (sl S v) H1 (locs ++ [⟨ad 40 0, k⟩]) := by
  refine ⟨fun kd2 i2 hp2 => ?_, h.2.1.put z oq (hA _ ⟨40, 0, hp, rfl⟩), z.trans h.2.2⟩
  by_cases hc : kd2 = 40 ∧ i2 = 0
  · obtain ⟨rfl, rfl⟩ := hc
    exact hnew
  · have e : sw (sl S v) kd2 i2 = sw S kd2 i2 := by unfold sw; rw [if_neg hc, if_neg hc]
    rw [e]
    exact (h.1 kd2 i2 hp2).kept (oq _ (fun q => hc (hI _ _ _ _ hp hp2 q.symm)))
theorem x_get {ci k N idx kd i : Nat} {C : String} {T : u_T} {fs : List Value} {v : Value} (E : Ex p s m args meth c R own cc nL ret fr lo D ad cs P A tU adK adV cn) (h : wH D ad cs P A s.heap sz S H locs) (hp : P kd i) (hce : lay ad cs kd i (S.1 kd i) (sw S kd i) = .inr (ci, fs)) (hc : clX[ci]? = some (C, T, N)) (hin : ∀ w ∈ u_ws C T N, w ∈ tG) (hk : k < N) (hv : fs[k]? = some v)
    (hl : Cond.fieldLink own idx (T k).1 (T k).2.1 (T k).2.2.1 ∈ tG) (hd : decode cc pc = .ok (.getfield idx, 3)) (kk : W p l e R s m args below meth c H locs nc ns Q (F0 m (pc + 3) ls (v :: rest))) : W p l e R s m args below meth c H locs nc ns Q (F0 m pc ls (.ref (ad kd i) :: rest)) :=
  va_get (D := D) (cl := clX) (ci := ci) (C := C) (T := T) (N := N) (ws := [(ad kd i, .inr (ci, fs))]) (tys := tyX cs) E.hx E.hb E.hts hin E.hown E.hK (va_P1 (by have := h.1 kd i hp; rw [hce] at this; exact this)) 0 rfl hc k hk (E.hts _ hl) (fun _ q => q) hv hd kk
theorem x_putG {ci k N idx kd i : Nat} {C : String} {T : u_T} {fs : List Value} {ty0 : Nat → FieldType} {ty : FieldType} {v : Value} (E : Ex p s m args meth c R own cc nL ret fr lo D ad cs P A tU adK adV cn) (h : wH D ad cs P A s.heap sz S H locs) (hp : P kd i) (hce : lay ad cs kd i (S.1 kd i) (sw S kd i) = .inr (ci, fs)) (hc : clX[ci]? = some (C, T, N)) (hin : ∀ w ∈ u_ws C T N, w ∈ tG) (hty : ∀ k, k < N → parseFieldDescriptor (T k).2.2.1 = some (ty0 k)) (hnm : ∀ a, a < N → ∀ b, b < N → a ≠ b → (T a).2.1 ≠ (T b).2.1) (hk : k < N) (hfin : (T k).2.2.2 = false) (hd0 : parseFieldDescriptor (T k).2.2.1 = some ty) (hn : narrow ty v = v) (hfit : fits ty v = true) (hlen : k < fs.length)
    (hl : Cond.fieldLink own idx (T k).1 (T k).2.1 (T k).2.2.1 ∈ tG) (hd : decode cc pc = .ok (.putfield idx, 3))
    (kk : ∀ (H1 : Heap) (k1 : Nat), va_at D clX (ad kd i, .inr (ci, fs.set k v)) H1 → H1.size = H.size → (∀ q : Nat, q ≠ ad kd i → H1[q]? = H[q]?) → W p l e R s m args below meth c H1 (locs ++ [⟨ad kd i, k1⟩]) nc ns Q (F0 m (pc + 3) ls rest)) : W p l e R s m args below meth c H locs nc ns Q (F0 m pc ls (v :: .ref (ad kd i) :: rest)) := by
  have hap := va_apart (own := own) (D := D) (cl := clX) (ci := ci) (C := C) (T := T) (N := N) E.hts hin ty0 hty hnm E.hK hc
  have h0 := h.1 kd i hp
  rw [hce] at h0
  obtain ⟨r, h1, cell, q1, q2, q3, q4⟩ := h0
  have hr : r = (C, T, N) := Option.some.inj (h1.symm.trans hc)
  subst hr
  obtain ⟨hS, hfc, kC, hkC, hkind⟩ := E.hK.1 ci _ hc
  obtain ⟨cf, kf, fi, f, hi, hsl⟩ := hS k hk
  have hlay := E.hts _ (hin _ (u_in_lay hk))
  unfold u_lay at hlay
  rw [if_neg (by rw [hfin]; decide)] at hlay
  have hst := (u_facts hfc hkC (u_lays E.hts hin hk) hi).1
  have h6 := u_store hfc hkC hkind hlay hi hd0 hn hfit
  refine W.putK E.hx E.hb (f := f) ⟨E.hown, E.hts _ hl, ⟨_, _, _, hi⟩, hst⟩ (by rw [q2]; exact h6) q1 q3 (by rw [hsl]; exact k2_hasslot (q4 k hk)) rfl rfl hd fun H' e1 e2 e3 => ?_
  rw [hsl] at e1
  exact kk H' _ ⟨_, hc, t_OB.to (V := updV (vp_V fs) k v) ⟨_, e1, q2, q3, t_set q4 hap hk v⟩ (fun j _ => vp_updV_set hlen v j)⟩ e2 e3
/-- an int field (or boolean, or a reference that is kept by a number): the world's row changes at its place -/
theorem x_put {ci k N idx kd i : Nat} {C : String} {T : u_T} {fs : List Value} {ty0 : Nat → FieldType} {ty : FieldType} {v : Value} {x : Int32} (E : Ex p s m args meth c R own cc nL ret fr lo D ad cs P A tU adK adV cn) (h : wH D ad cs P A s.heap sz S H locs) (hp : P kd i) (hce : lay ad cs kd i (S.1 kd i) (sw S kd i) = .inr (ci, fs)) (hc : clX[ci]? = some (C, T, N)) (hin : ∀ w ∈ u_ws C T N, w ∈ tG) (hty : ∀ k, k < N → parseFieldDescriptor (T k).2.2.1 = some (ty0 k)) (hnm : ∀ a, a < N → ∀ b, b < N → a ≠ b → (T a).2.1 ≠ (T b).2.1) (hk : k < N) (hfin : (T k).2.2.2 = false) (hd0 : parseFieldDescriptor (T k).2.2.1 = some ty) (hn : narrow ty v = v) (hfit : fits ty v = true) (hlen : k < fs.length)
    (hset : lay ad cs kd i (upd (S.1 kd i) k x) (sw S kd i) = .inr (ci, fs.set k v)) (hl : Cond.fieldLink own idx (T k).1 (T k).2.1 (T k).2.2.1 ∈ tG) (hd : decode cc pc = .ok (.putfield idx, 3))
    (kk : ∀ (S1 : St) (H1 : Heap) (locs1 : List Loc), S1 = su S kd i k x → wH D ad cs P A s.heap sz S1 H1 locs1 → W p l e R s m args below meth c H1 locs1 nc ns Q (F0 m (pc + 3) ls rest)) : W p l e R s m args below meth c H locs nc ns Q (F0 m pc ls (v :: .ref (ad kd i) :: rest)) :=
  x_putG E h hp hce hc hin hty hnm hk hfin hd0 hn hfit hlen hl hd fun H1 k1 a z oq => kk _ H1 _ rfl (wH_set (k := k1) E.hI E.hA h hp (by rw [hset]; exact a) z oq)
theorem x_iald {kd i n : Nat} {j : Int32} (E : Ex p s m args meth c R own cc nL ret fr lo D ad cs P A tU adK adV cn) (h : wH D ad cs P A s.heap sz S H locs) (hp : P kd i) (ha : ∀ (f : Nat → Int32) (w : Int64), lay ad cs kd i f w = .inl (cs 0, n, .inl f)) (hin : vp_in j n) (hd : decode cc pc = .ok (.iaload, 1)) (kk : W p l e R s m args below meth c H locs nc ns Q (F0 m (pc + 1) ls (.int (S.1 kd i j.toNatClampNeg) :: rest))) : W p l e R s m args below meth c H locs nc ns Q (F0 m pc ls (.int j :: .ref (ad kd i) :: rest)) :=
  va_iald (D := D) (cl := clX) (ws := [(ad kd i, .inl (cs 0, n, .inl (S.1 kd i)))]) (tys := tyX cs) E.hx E.hb E.hK (va_P1 (by have := h.1 kd i hp; rw [ha] at this; exact this)) 0 0 rfl rfl hin hd kk
theorem x_zald {kd i n : Nat} {j : Int32} (E : Ex p s m args meth c R own cc nL ret fr lo D ad cs P A tU adK adV cn) (h : wH D ad cs P A s.heap sz S H locs) (hp : P kd i) (ha : ∀ (f : Nat → Int32) (w : Int64), lay ad cs kd i f w = .inl (cs 1, n, .inl f)) (hin : vp_in j n) (hd : decode cc pc = .ok (.baload, 1)) (kk : W p l e R s m args below meth c H locs nc ns Q (F0 m (pc + 1) ls (.int (S.1 kd i j.toNatClampNeg) :: rest))) : W p l e R s m args below meth c H locs nc ns Q (F0 m pc ls (.int j :: .ref (ad kd i) :: rest)) :=
  va_zald (D := D) (cl := clX) (ws := [(ad kd i, .inl (cs 1, n, .inl (S.1 kd i)))]) (tys := tyX cs) E.hx E.hb E.hK (va_P1 (by have := h.1 kd i hp; rw [ha] at this; exact this)) 0 1 rfl rfl hin hd kk
theorem x_alen {kd i n t : Nat} {v : Int32} (E : Ex p s m args meth c R own cc nL ret fr lo D ad cs P A tU adK adV cn) (h : wH D ad cs P A s.heap sz S H locs) (hp : P kd i) (ha : ∀ (f : Nat → Int32) (w : Int64), lay ad cs kd i f w = .inl (cs t, n, .inl f)) (ht : t < 2) (hv : Int32.ofNat n = v) (hd : decode cc pc = .ok (.arraylength, 1)) (kk : W p l e R s m args below meth c H locs nc ns Q (F0 m (pc + 1) ls (.int v :: rest))) : W p l e R s m args below meth c H locs nc ns Q (F0 m pc ls (.ref (ad kd i) :: rest)) := by
  have hP := va_P1 (D := D) (cl := clX) (H := H) (q := (ad kd i, .inl (cs t, n, .inl (S.1 kd i)))) (by have := h.1 kd i hp; rw [ha] at this; exact this)
  match t, ht with
  | 0, _ => exact va_alen (D := D) (cl := clX) (tys := tyX cs) E.hx E.hb E.hK hP 0 0 rfl (ty := .int) rfl hv hd kk
  | 1, _ => exact va_alen (D := D) (cl := clX) (tys := tyX cs) E.hx E.hb E.hK hP 0 1 rfl (ty := .boolean) rfl hv hd kk
/-- a row of references: rules (kind 5), sheets (kind 29) -/
theorem x_aald {kd i n t to : Nat} {C : String} {j : Int32} (E : Ex p s m args meth c R own cc nL ret fr lo D ad cs P A tU adK adV cn) (h : wH D ad cs P A s.heap sz S H locs) (hp : P kd i) (ha : ∀ (f : Nat → Int32) (w : Int64), lay ad cs kd i f w = .inl (cs t, n, .inr (.inr (.inr (.inr (fun j => some (ad to j))))))) (ht : (tyX cs)[t]? = some (cs t, .object C)) (hin : vp_in j n) (hd : decode cc pc = .ok (.aaload, 1)) (kk : W p l e R s m args below meth c H locs nc ns Q (F0 m (pc + 1) ls (.ref (ad to j.toNatClampNeg) :: rest))) : W p l e R s m args below meth c H locs nc ns Q (F0 m pc ls (.int j :: .ref (ad kd i) :: rest)) :=
  va_aldq (D := D) (cl := clX) (ws := [(ad kd i, .inl (cs t, n, .inr (.inr (.inr (.inr (fun j => some (ad to j)))))))]) (tys := tyX cs) E.hx E.hb E.hK (va_P1 (by have := h.1 kd i hp; rw [ha] at this; exact this)) 0 t rfl ht hin hd kk
theorem x_iast {kd i n : Nat} {j x : Int32} (E : Ex p s m args meth c R own cc nL ret fr lo D ad cs P A tU adK adV cn) (h : wH D ad cs P A s.heap sz S H locs) (hp : P kd i) (ha : ∀ (f : Nat → Int32) (w : Int64), lay ad cs kd i f w = .inl (cs 0, n, .inl f)) (hin : vp_in j n) (hd : decode cc pc = .ok (.iastore, 1)) (kk : ∀ (S1 : St) (H1 : Heap) (locs1 : List Loc), S1 = su S kd i j.toNatClampNeg x → wH D ad cs P A s.heap sz S1 H1 locs1 → W p l e R s m args below meth c H1 locs1 nc ns Q (F0 m (pc + 1) ls rest)) : W p l e R s m args below meth c H locs nc ns Q (F0 m pc ls (.int x :: .int j :: .ref (ad kd i) :: rest)) := by
  have h0 := h.1 kd i hp
  rw [ha] at h0
  refine W.iast E.hx E.hb h0 ((E.hK.2 0 (cs 0, .int) rfl).1 n (fun j => .int (S.1 kd i j))) (fun q => by cases q) (by show ¬ (j < 0 ∨ (arrV _ _ _).slots.size ≤ _); rw [arrV_size]; exact hin) rfl rfl hd fun H1 e z oq => ?_
  refine kk _ H1 _ rfl (wH_set E.hI E.hA h hp ?_ z oq)
  rw [ha]
  show H1[ad kd i]? = some (vp_cell _ _)
  rw [e]
  rw [vp_cell_i, vp_cell_i, arrV_store]
  congr 2
  funext q
  by_cases hq : q = j.toNatClampNeg
  · subst hq
    simp [updV, upd]
  · simp [updV, upd, hq]
theorem x_zast {kd i n : Nat} {j x : Int32} (E : Ex p s m args meth c R own cc nL ret fr lo D ad cs P A tU adK adV cn) (h : wH D ad cs P A s.heap sz S H locs) (hp : P kd i) (ha : ∀ (f : Nat → Int32) (w : Int64), lay ad cs kd i f w = .inl (cs 1, n, .inl f)) (hin : vp_in j n) (hd : decode cc pc = .ok (.bastore, 1)) (kk : ∀ (S1 : St) (H1 : Heap) (locs1 : List Loc), S1 = su S kd i j.toNatClampNeg (vp_nar .boolean x) → wH D ad cs P A s.heap sz S1 H1 locs1 → W p l e R s m args below meth c H1 locs1 nc ns Q (F0 m (pc + 1) ls rest)) : W p l e R s m args below meth c H locs nc ns Q (F0 m pc ls (.int x :: .int j :: .ref (ad kd i) :: rest)) := by
  have h0 := h.1 kd i hp
  rw [ha] at h0
  refine W.zast E.hx E.hb h0 ((E.hK.2 1 (cs 1, .boolean) rfl).1 n (fun j => .int (S.1 kd i j))) (fun q => by cases q) (by show ¬ (j < 0 ∨ (arrV _ _ _).slots.size ≤ _); rw [arrV_size]; exact hin) rfl rfl hd fun H1 e z oq => ?_
  refine kk _ H1 _ rfl (wH_set E.hI E.hA h hp ?_ z oq)
  rw [ha]
  show H1[ad kd i]? = some (vp_cell _ _)
  rw [e]
  rw [vp_cell_i, vp_cell_i, arrV_store]
  congr 2
  funext q
  by_cases hq : q = j.toNatClampNeg
  · subst hq
    simp [updV, upd, vp_nar]
    try rfl
  · simp [updV, upd, hq]
/-- returns -/
theorem x_iret {K : Int32 → St → Prop} {v : Int32} (E : Ex p s m args meth c R own cc nL (some .int) fr lo D ad cs P (wA ad P) tU adK adV cn) (h : wH D ad cs P (wA ad P) s.heap sz S H locs) (hk : K v S) (hd : decode cc pc = .ok (.ireturn, 1)) : W p l e R s m args below meth c H locs 0 0 (MQ below (va_Qi K (QX D ad cs P sz) (wA ad P)) args s 0 0 (wA ad P)) (F0 m pc ls [.int v]) :=
  W.iret E.hx E.hb E.hr (fun t ht _ => ⟨⟨v, S, rfl, hk, by show wP D ad cs P S t.heap ∧ t.heap.size = sz; rw [ht]; exact ⟨h.1, h.2.2⟩⟩, h.2.1.F ht⟩) h.2.1.2.2 hd E.hk
theorem x_zret {K : Int32 → St → Prop} {v : Int32} {ty : FieldType} (E : Ex p s m args meth c R own cc nL (some ty) fr lo D ad cs P (wA ad P) tU adK adV cn) (h : wH D ad cs P (wA ad P) s.heap sz S H locs) (hk : K v S) (hz : narrow ty (.int v) = .int v) (hd : decode cc pc = .ok (.ireturn, 1)) : W p l e R s m args below meth c H locs 0 0 (MQ below (va_Qi (fun r S => K r S ∧ narrow ty (.int r) = .int r) (QX D ad cs P sz) (wA ad P)) args s 0 0 (wA ad P)) (F0 m pc ls [.int v]) :=
  W.zret E.hx E.hb E.hr hz (fun t ht _ => ⟨⟨v, S, rfl, ⟨hk, hz⟩, by show wP D ad cs P S t.heap ∧ t.heap.size = sz; rw [ht]; exact ⟨h.1, h.2.2⟩⟩, h.2.1.F ht⟩) h.2.1.2.2 hd E.hk
theorem x_lret {K : Int64 → St → Prop} {v : Int64} (E : Ex p s m args meth c R own cc nL (some .long) fr lo D ad cs P (wA ad P) tU adK adV cn) (h : wH D ad cs P (wA ad P) s.heap sz S H locs) (hk : K v S) (hd : decode cc pc = .ok (.lreturn, 1)) : W p l e R s m args below meth c H locs 0 0 (MQ below (va_Ql K (QX D ad cs P sz) (wA ad P)) args s 0 0 (wA ad P)) (F0 m pc ls [.long v]) :=
  W.lret E.hx E.hb E.hr (fun t ht _ => ⟨⟨v, S, rfl, hk, by show wP D ad cs P S t.heap ∧ t.heap.size = sz; rw [ht]; exact ⟨h.1, h.2.2⟩⟩, h.2.1.F ht⟩) h.2.1.2.2 hd E.hk
theorem x_vret {K : St → Prop} (E : Ex p s m args meth c R own cc nL none fr lo D ad cs P (wA ad P) tU adK adV cn) (h : wH D ad cs P (wA ad P) s.heap sz S H locs) (hk : K S) (hd : decode cc pc = .ok (.return_, 1)) : W p l e R s m args below meth c H locs 0 0 (MQ below (va_Qv K (QX D ad cs P sz) (wA ad P)) args s 0 0 (wA ad P)) (F0 m pc ls []) :=
  W.vret E.hx E.hb E.hr (fun t ht _ => ⟨⟨S, rfl, hk, by show wP D ad cs P S t.heap ∧ t.heap.size = sz; rw [ht]; exact ⟨h.1, h.2.2⟩⟩, h.2.1.F ht⟩) h.2.1.2.2 hd E.hk
/-- the answer is a constant text, by its place -/
def QS (D : va_G) (ad : Nat → Nat → Nat) (cs : Nat → ClassId) (P : Nat → Nat → Prop) (sz : Nat) (adK : Nat → Nat) (u : Nat × St) (a : Nat) (t : State) : Prop := a = adK u.1 ∧ wP D ad cs P u.2 t.heap ∧ t.heap.size = sz
theorem x_sret {K : Nat → St → Prop} {i : Nat} {nm : String} (E : Ex p s m args meth c R own cc nL (some (.object nm)) fr lo D ad cs P (wA ad P) tU adK adV cn) (h : wH D ad cs P (wA ad P) s.heap sz S H locs) (hk : K i S) (hi : i < 13) (hd : decode cc pc = .ok (.areturn, 1)) : W p l e R s m args below meth c H locs 0 0 (MQ below (va_Qr (fun u : Nat × St => K u.1 u.2 ∧ u.1 < 13) (QS D ad cs P sz adK) (wA ad P)) args s 0 0 (wA ad P)) (F0 m pc ls [.ref (adK i)]) :=
  W.aret E.hx E.hb E.hr (Or.inl ⟨_, rfl⟩) (Or.inr ⟨_, rfl⟩) (fun t ht _ => ⟨⟨(i, S), adK i, rfl, ⟨hk, hi⟩, rfl, by show wP D ad cs P S t.heap ∧ t.heap.size = sz; rw [ht]; exact ⟨h.1, h.2.2⟩⟩, h.2.1.F ht⟩) h.2.1.2.2 hd E.hk
end RX
/-- a method's contract out of the walk of its body -/
theorem Met_of {l : Launch} {y : MethodName} {b : ByteArray} {n : Nat} {r : Option FieldType} {fr lo : Nat} {D : va_G} {ad : Nat → Nat → Nat} {cs : Nat → ClassId} {P : Nat → Nat → Prop} {sz tU : Nat} {adK adV : Nat → Nat} {av : List Value} {S : St} {cn : Nat → Nat} {Qc : Array Value → State → Outcome → State → Prop} (hy : plainName y.cls = true) (hlen : (lg_sl av).length ≤ n) (hI : wI ad P) (hn : ∀ kd i, i < cn kd → P kd i)
    (body : ∀ (p : Program) (e : Env) (R : Room) (s : State) (m : MethodId) (args : Array Value) (below : List Frame) (meth : Method) (c : Code) (ls : Array Slot), Ex p s m args meth c R y.cls b n r fr lo D ad cs P (wA ad P) tU adK adV cn → lv_has ls n (lv_args 0 av) → wH D ad cs P (wA ad P) s.heap sz S s.heap [] → W p l e R s m args below meth c s.heap [] 0 0 (MQ below Qc args s 0 0 (wA ad P)) (F0 m 0 ls [])) :
    Met l y (wsO y b n r) { frames := fr, cells := 0, slots := 0, locals := lo } (va_Pc av (PcX D ad cs P sz tU adK adV S)) Qc 0 0 (wA ad P) := by
  refine Met.ofW (cc := b) (maxL := n) (ret := r) hy rfl ?_
  intro p e s m args below meth c s₁ B hml hv
  obtain ⟨rfl, hP, hK, hE⟩ := hv
  have hts := atoms_spec (ws := wsO y b n r) B.pre
  have hl := lv_entry av (n := n) hlen
  rw [lg_entry_eq]
  exact body p e _ s m _ below meth c _ ⟨⟨B.exec, B.bytes, hml, findClass_of_methodNamed B.named, fun w hw => hts w (List.mem_cons_of_mem _ hw)⟩, hK, hE, ⟨hI, fun _ q => q⟩, B.returns, B.notSynchronized, Nat.le_refl _, Nat.le_refl _, hn⟩ hl ⟨hP.1, va_S.rf, hP.2⟩
theorem blindX {D : va_G} {ad : Nat → Nat → Nat} {cs : Nat → ClassId} {P : Nat → Nat → Prop} {sz tU : Nat} {adK adV : Nat → Nat} {av : List Value} {S : St} : FrameBlind (va_Pc av (PcX D ad cs P sz tU adK adV S)) := fun a U g mk q => ⟨q.1, q.2.1, va_K.moved (u := U) (U := U.calling g mk a) (Vm.Alike.refl U.vm) q.2.2.1, SE.same q.2.2.2 rfl⟩
/-- what a call of y needs of the tables, the link apart -/
def kI (y : MethodName) (b : ByteArray) (n : Nat) (r : Option FieldType) (na : Nat) : Prop := Cond.instanceMethod y ∈ tG ∧ Cond.selects y.cls y y ∈ tG ∧ Cond.initialized y.cls ∈ tG ∧ Cond.code y b n r ∈ tG ∧ y.cls ≠ "java/lang/invoke/MethodHandle" ∧ y.cls ≠ "java/lang/invoke/VarHandle" ∧ (parseMethodDescriptor y.desc).map (fun d => d.parameters.length) = some na
def kS (y : MethodName) (b : ByteArray) (n : Nat) (r : Option FieldType) (na : Nat) : Prop := Cond.static y ∈ tG ∧ Cond.initialized y.cls ∈ tG ∧ Cond.code y b n r ∈ tG ∧ y.cls ≠ "java/lang/invoke/MethodHandle" ∧ y.cls ≠ "java/lang/invoke/VarHandle" ∧ (parseMethodDescriptor y.desc).map (fun d => d.parameters.length) = some na
section RC
variable {p : Program} {l : Launch} {e : Env} {R : Room} {s : State} {m : MethodId} {args : Array Value} {below : List Frame} {meth : Method} {c : Code} {H : Heap} {locs : List Loc} {Q : State → Prop} {own : String} {cc : ByteArray} {nL : Nat} {ret : Option FieldType} {fr lo : Nat} {D : va_G} {ad : Nat → Nat → Nat} {cs : Nat → ClassId} {P : Nat → Nat → Prop} {A : Nat → Prop} {tU : Nat} {adK adV : Nat → Nat} {cn : Nat → Nat} {S : St} {pc nc ns sz : Nat} {ls : Array Slot} {rest st0 : List Value}
variable {y : MethodName} {b : ByteArray} {n : Nat} {r : Option FieldType} {f2 l2 na idx kd i : Nat} {As : List Value} {Qc : Array Value → State → Outcome → State → Prop}
theorem x_runV (E : Ex p s m args meth c R own cc nL ret fr lo D ad cs P A tU adK adV cn) (h : wH D ad cs P A s.heap sz S H locs) (hM : Met l y (wsO y b n r) { frames := f2, cells := 0, slots := 0, locals := l2 } (va_Pc (.ref (ad kd i) :: As) (PcX D ad cs P sz tU adK adV S)) Qc 0 0 (wA ad P)) (hk : kI y b n r na) (hlk : Cond.methodLink own idx y ∈ tG) (hp : P kd i) (hrc : ∃ (ci : Nat) (q : vw_C), clX[ci]? = some q ∧ q.1 = y.cls ∧ ∀ (f : Nat → Int32) (w : Int64), ∃ fs, lay ad cs kd i f w = .inr (ci, fs))
    (hR : f2 + 1 ≤ fr ∧ 8 + (n + 11) + l2 ≤ lo) (hn : As.length = na) (hls : ls.size = nL) (hst : st0 = As.reverse ++ .ref (ad kd i) :: rest) (hs : (rest.map fun v => v.category).sum ≤ 8) (hd : decode cc pc = .ok (.invokevirtual idx, 3)) (hcs : nc ≤ R.cells ∧ ns ≤ R.slots) :
    va_Run p l e R s m args below meth c H locs nc ns 0 0 (F0 m pc ls st0) rest (Qc (Value.ref (ad kd i) :: As).toArray) (wA ad P) := by
  obtain ⟨k1, k2, k3, k4, k5⟩ := hk
  have hG : GoodIn tG (wsV own idx y.cls y (wsO y b n r)) := by
    intro w hw
    have key : ∀ w ∈ tG, w ∈ tG ∧ ((w.onTables && w.keeps) = true ∨ ∃ ty, w = .arrayClass ty) := fun w hw => ⟨hw, good_of_word (List.mem_filter.mp hw).2⟩
    unfold wsV at hw
    rcases List.mem_append.mp hw with hw | hw
    · simp only [List.mem_cons, List.not_mem_nil, or_false] at hw
      rcases hw with rfl | rfl | rfl | rfl
      · exact key _ hlk
      · exact key _ k1
      · exact key _ k2
      · exact key _ k3
    · exact gO (fun _ q => q) k4 w hw
  obtain ⟨ci, q, hc, hq, hf⟩ := hrc
  obtain ⟨fs, hfs⟩ := hf (S.1 kd i) (sw S kd i)
  have h0 := h.1 kd i hp
  rw [hfs] at h0
  refine va_runV (As := As) (rest := rest) (C := y.cls) (n := na) ⟨E.hx, E.hb, E.hml, E.hown, E.hts⟩ hM (cwV na E.hts hG rfl rfl rfl ⟨rfl, k5⟩ ⟨Nat.le_trans hR.1 E.hf, Nat.le_trans hR.2 E.hl⟩) ⟨blindX, ?_, fun U hU hW => ⟨rfl, by rw [hU]; exact ⟨h.1, h.2.2⟩, va_K.moved hW.alike E.hK, by rw [hU]; exact (E.hE.go hW h.2.1.2.1).narrow E.hA⟩⟩ rfl hn hls hst (lv_room hs) hd hcs
  have hr := va_recv (s := s) (D := D) (cl := clX) (tys := tyX cs) E.hK (va_P1 h0) hc (q0 := 0) rfl
  rw [hq] at hr
  exact hr
theorem x_runB {bb : Nat} (E : Ex p s m args meth c R own cc nL ret fr lo D ad cs P A tU adK adV cn) (h : wH D ad cs P A s.heap sz S H locs) (hM : Met l y (wsO y b n r) { frames := f2, cells := 0, slots := 0, locals := l2 } (va_Pc (.ref bb :: As) (PcX D ad cs P sz tU adK adV S)) Qc 0 0 (wA ad P)) (hk : kI y b n r na) (hlk : Cond.methodLink own idx y ∈ tG) (hrv : ∃ cellB : Cell, H[bb]? = some cellB ∧ cellB.vm.isStatics = false ∧ s.vm.findClass y.cls = some cellB.cls)
    (hR : f2 + 1 ≤ fr ∧ 8 + (n + 11) + l2 ≤ lo) (hn : As.length = na) (hls : ls.size = nL) (hst : st0 = As.reverse ++ .ref bb :: rest) (hs : (rest.map fun v => v.category).sum ≤ 8) (hd : decode cc pc = .ok (.invokevirtual idx, 3)) (hcs : nc ≤ R.cells ∧ ns ≤ R.slots) :
    va_Run p l e R s m args below meth c H locs nc ns 0 0 (F0 m pc ls st0) rest (Qc (Value.ref bb :: As).toArray) (wA ad P) := by
  obtain ⟨k1, k2, k3, k4, k5⟩ := hk
  have hG : GoodIn tG (wsV own idx y.cls y (wsO y b n r)) := by
    intro w hw
    have key : ∀ w ∈ tG, w ∈ tG ∧ ((w.onTables && w.keeps) = true ∨ ∃ ty, w = .arrayClass ty) := fun w hw => ⟨hw, good_of_word (List.mem_filter.mp hw).2⟩
    unfold wsV at hw
    rcases List.mem_append.mp hw with hw | hw
    · simp only [List.mem_cons, List.not_mem_nil, or_false] at hw
      rcases hw with rfl | rfl | rfl | rfl
      · exact key _ hlk
      · exact key _ k1
      · exact key _ k2
      · exact key _ k3
    · exact gO (fun _ q => q) k4 w hw
  exact va_runV (As := As) (rest := rest) (C := y.cls) (n := na) ⟨E.hx, E.hb, E.hml, E.hown, E.hts⟩ hM (cwV na E.hts hG rfl rfl rfl ⟨rfl, k5⟩ ⟨Nat.le_trans hR.1 E.hf, Nat.le_trans hR.2 E.hl⟩) ⟨blindX, hrv, fun U hU hW => ⟨rfl, by rw [hU]; exact ⟨h.1, h.2.2⟩, va_K.moved hW.alike E.hK, by rw [hU]; exact (E.hE.go hW h.2.1.2.1).narrow E.hA⟩⟩ rfl hn hls hst (lv_room hs) hd hcs
theorem x_runS (E : Ex p s m args meth c R own cc nL ret fr lo D ad cs P A tU adK adV cn) (h : wH D ad cs P A s.heap sz S H locs) (hM : Met l y (wsO y b n r) { frames := f2, cells := 0, slots := 0, locals := l2 } (va_Pc As (PcX D ad cs P sz tU adK adV S)) Qc 0 0 (wA ad P)) (hk : kS y b n r na) (hlk : Cond.methodLink own idx y ∈ tG)
    (hR : f2 + 1 ≤ fr ∧ 8 + (n + 11) + l2 ≤ lo) (hn : As.length = na) (hls : ls.size = nL) (hst : st0 = As.reverse ++ rest) (hs : (rest.map fun v => v.category).sum ≤ 8) (hd : decode cc pc = .ok (.invokestatic idx, 3)) (hcs : nc ≤ R.cells ∧ ns ≤ R.slots) :
    va_Run p l e R s m args below meth c H locs nc ns 0 0 (F0 m pc ls st0) rest (Qc As.toArray) (wA ad P) := by
  obtain ⟨k1, k3, k4, k5⟩ := hk
  have hG : GoodIn tG (va_wsS own idx y (wsO y b n r)) := by
    intro w hw
    have key : ∀ w ∈ tG, w ∈ tG ∧ ((w.onTables && w.keeps) = true ∨ ∃ ty, w = .arrayClass ty) := fun w hw => ⟨hw, good_of_word (List.mem_filter.mp hw).2⟩
    unfold va_wsS at hw
    rcases List.mem_append.mp hw with hw | hw
    · simp only [List.mem_cons, List.not_mem_nil, or_false] at hw
      rcases hw with rfl | rfl | rfl
      · exact key _ hlk
      · exact key _ k1
      · exact key _ k3
    · exact gO (fun _ q => q) k4 w hw
  exact va_runS (As := As) (rest := rest) (n := na) ⟨E.hx, E.hb, E.hml, E.hown, E.hts⟩ hM (va_cwS na E.hts hG rfl rfl rfl k5 ⟨Nat.le_trans hR.1 E.hf, Nat.le_trans hR.2 E.hl⟩) ⟨blindX, fun U hU hW => ⟨rfl, by rw [hU]; exact ⟨h.1, h.2.2⟩, va_K.moved hW.alike E.hK, by rw [hU]; exact (E.hE.go hW h.2.1.2.1).narrow E.hA⟩⟩ rfl hn hls hst (lv_room hs) hd hcs
theorem x_ci {K : Int32 → St → Prop} {a : Array Value} (hA : ∀ q, wA ad P q → A q) (h : wH D ad cs P A s.heap sz S H locs) (hr : va_Run p l e R s m args below meth c H locs nc ns 0 0 (F0 m pc ls st0) rest (va_Qi K (QX D ad cs P sz) (wA ad P) a) (wA ad P)) (kk : ∀ (r : Int32) (S1 : St) (H1 : Heap) (locs1 : List Loc), K r S1 → wH D ad cs P A s.heap sz S1 H1 locs1 → W p l e R s m args below meth c H1 locs1 nc ns Q (F0 m (pc + 3) ls (.int r :: rest))) : W p l e R s m args below meth c H locs nc ns Q (F0 m pc ls st0) :=
  va_calli hr h.2.1 (fun q _ z => hA q z) hA fun r u t H1 locs1 ht _ hp hB _ _ hS => kk r u H1 locs1 hp ⟨by have := hB.1; rw [ht] at this; exact this, hS, by have := hB.2; rw [ht] at this; exact this⟩
theorem x_cl {K : Int64 → St → Prop} {a : Array Value} (hA : ∀ q, wA ad P q → A q) (h : wH D ad cs P A s.heap sz S H locs) (hr : va_Run p l e R s m args below meth c H locs nc ns 0 0 (F0 m pc ls st0) rest (va_Ql K (QX D ad cs P sz) (wA ad P) a) (wA ad P)) (kk : ∀ (r : Int64) (S1 : St) (H1 : Heap) (locs1 : List Loc), K r S1 → wH D ad cs P A s.heap sz S1 H1 locs1 → W p l e R s m args below meth c H1 locs1 nc ns Q (F0 m (pc + 3) ls (.long r :: rest))) : W p l e R s m args below meth c H locs nc ns Q (F0 m pc ls st0) :=
  va_calll hr h.2.1 (fun q _ z => hA q z) hA fun r u t H1 locs1 ht _ hp hB _ _ hS => kk r u H1 locs1 hp ⟨by have := hB.1; rw [ht] at this; exact this, hS, by have := hB.2; rw [ht] at this; exact this⟩
theorem x_cv {K : St → Prop} {a : Array Value} (hA : ∀ q, wA ad P q → A q) (h : wH D ad cs P A s.heap sz S H locs) (hr : va_Run p l e R s m args below meth c H locs nc ns 0 0 (F0 m pc ls st0) rest (va_Qv K (QX D ad cs P sz) (wA ad P) a) (wA ad P)) (kk : ∀ (S1 : St) (H1 : Heap) (locs1 : List Loc), K S1 → wH D ad cs P A s.heap sz S1 H1 locs1 → W p l e R s m args below meth c H1 locs1 nc ns Q (F0 m (pc + 3) ls rest)) : W p l e R s m args below meth c H locs nc ns Q (F0 m pc ls st0) :=
  va_callv hr h.2.1 (fun q _ z => hA q z) hA fun u t H1 locs1 ht _ hp hB _ _ hS => kk u H1 locs1 hp ⟨by have := hB.1; rw [ht] at this; exact this, hS, by have := hB.2; rw [ht] at this; exact this⟩
theorem x_cs {K : Nat → St → Prop} {a : Array Value} (hA : ∀ q, wA ad P q → A q) (h : wH D ad cs P A s.heap sz S H locs) (hr : va_Run p l e R s m args below meth c H locs nc ns 0 0 (F0 m pc ls st0) rest (va_Qr (fun u : Nat × St => K u.1 u.2 ∧ u.1 < 13) (QS D ad cs P sz adK) (wA ad P) a) (wA ad P)) (kk : ∀ (r : Nat) (S1 : St) (H1 : Heap) (locs1 : List Loc), K r S1 → r < 13 → wH D ad cs P A s.heap sz S1 H1 locs1 → W p l e R s m args below meth c H1 locs1 nc ns Q (F0 m (pc + 3) ls (.ref (adK r) :: rest))) : W p l e R s m args below meth c H locs nc ns Q (F0 m pc ls st0) :=
  va_callr hr h.2.1 (fun q _ z => hA q z) hA fun u ra t H1 locs1 ht _ hp hB _ _ hS => by
    obtain ⟨hB1, hB2⟩ := hB
    subst hB1
    exact kk u.1 u.2 H1 locs1 hp.1 hp.2 ⟨by rw [ht] at hB2; exact hB2.1, hS, by rw [ht] at hB2; exact hB2.2⟩
theorem x_runK (E : Ex p s m args meth c R own cc nL ret fr lo D ad cs P A tU adK adV cn) (h : wH D ad cs P A s.heap sz S H locs) (hM : Met l y (wsO y b n r) { frames := f2, cells := 0, slots := 0, locals := l2 } (va_Pc (.ref (adK i) :: As) (PcX D ad cs P sz tU adK adV S)) Qc 0 0 (wA ad P)) (hk : kI y b n r na) (hlk : Cond.methodLink own idx y ∈ tG) (hi : i < nJS) (hy : y.cls = "java/lang/String")
    (hR : f2 + 1 ≤ fr ∧ 8 + (n + 11) + l2 ≤ lo) (hn : As.length = na) (hls : ls.size = nL) (hst : st0 = As.reverse ++ .ref (adK i) :: rest) (hs : (rest.map fun v => v.category).sum ≤ 8) (hd : decode cc pc = .ok (.invokevirtual idx, 3)) (hcs : nc ≤ R.cells ∧ ns ≤ R.slots) :
    va_Run p l e R s m args below meth c H locs nc ns 0 0 (F0 m pc ls st0) rest (Qc (Value.ref (adK i) :: As).toArray) (wA ad P) :=
  x_runB E h hM hk hlk (by rw [hy]; exact vk_recv E.hE.2.2.2.1 hi h.2.1) hR hn hls hst hs hd hcs
end RC
def MS (l : Launch) (y : MethodName) (b : ByteArray) (n : Nat) (r : Option FieldType) (fr lo : Nat) (D : va_G) (ad : Nat → Nat → Nat) (cs : Nat → ClassId) (P : Nat → Nat → Prop) (sz tU : Nat) (adK adV : Nat → Nat) (av : List Value) (S : St) (K : Nat → St → Prop) : Prop :=
  Met l y (wsO y b n r) { frames := fr, cells := 0, slots := 0, locals := lo } (va_Pc av (PcX D ad cs P sz tU adK adV S)) (va_Qr (fun u : Nat × St => K u.1 u.2 ∧ u.1 < 13) (QS D ad cs P sz adK) (wA ad P)) 0 0 (wA ad P)
/-- branches of the statements -/
theorem ifT {c A B : Prop} [Decidable c] (h : if c then A else B) (hc : c) : A := by rw [if_pos hc] at h; exact h
theorem ifF {c A B : Prop} [Decidable c] (h : if c then A else B) (hc : ¬ c) : B := by rw [if_neg hc] at h; exact h
