/-! CONSTRUCTORS: their contracts, the calls -/
def PcC (D : va_G) (cs : Nat → ClassId) (tU : Nat) (adK adV : Nat → Nat) (a ci : Nat) (fs : List Value) (X : State → Prop) (U : State) : Prop := (U.heap.size = a + 1 ∧ va_at D clX (a, .inr (ci, fs)) U.heap) ∧ va_K D clX (tyX cs) U ∧ SE tU adK adV (fun q => a ≤ q) U U.heap ∧ X U
def QC (D : va_G) (ad : Nat → Nat → Nat) (cs : Nat → ClassId) (PC : Nat → Nat → Prop) (h : Nat) (S : St) (t : State) : Prop := t.heap.size = h ∧ wP D ad cs PC S t.heap
def MC (l : Launch) (y : MethodName) (b : ByteArray) (n fr lo mc ms : Nat) (D : va_G) (ad : Nat → Nat → Nat) (cs : Nat → ClassId) (tU : Nat) (adK adV : Nat → Nat) (a ci : Nat) (fs : List Value) (av : List Value) (X : State → Prop) (PC : Nat → Nat → Prop) (h : Nat) (K : St → Prop) : Prop :=
  Met l y (wsO y b n none) { frames := fr, cells := mc, slots := ms, locals := lo } (va_Pc (.ref a :: av) (PcC D cs tU adK adV a ci fs X)) (va_Qv K (QC D ad cs PC h) (fun q => a ≤ q)) mc ms (fun q => a ≤ q)
theorem MC_of {l : Launch} {y : MethodName} {b : ByteArray} {n fr lo mc ms : Nat} {D : va_G} {ad : Nat → Nat → Nat} {cs : Nat → ClassId} {tU : Nat} {adK adV : Nat → Nat} {a ci : Nat} {fs : List Value} {av : List Value} {X : State → Prop} {PC : Nat → Nat → Prop} {h : Nat} {K : St → Prop} (S : St) (hy : plainName y.cls = true) (hy2 : y.name = "<init>") (hlen : (lg_sl (.ref a :: av)).length ≤ n)
    (body : ∀ (p : Program) (e : Env) (R : Room) (s : State) (m : MethodId) (args : Array Value) (below : List Frame) (meth : Method) (c : Code) (ls : Array Slot), Ex p s m args meth c R y.cls b n none fr lo D ad cs (fun _ _ => False) (fun q => a ≤ q) tU adK adV cn0 → meth.name = "<init>" → X s → R.cells = mc ∧ R.slots = ms → lv_has ls n (lv_args 0 (.ref a :: av)) → cH D ad cs (fun _ _ => False) [(a, .inr (ci, fs))] (fun q => a ≤ q) s.heap S s.heap [] (a + 1) → W p l e R s m args below meth c s.heap [] 0 0 (MQ below (va_Qv K (QC D ad cs PC h) (fun q => a ≤ q)) args s mc ms (fun q => a ≤ q)) (F0 m 0 ls [])) :
    MC l y b n fr lo mc ms D ad cs tU adK adV a ci fs av X PC h K := by
  refine Met.ofW (cc := b) (maxL := n) (ret := none) hy rfl ?_
  intro p e s m args below meth c s₁ B hml hv
  obtain ⟨rfl, ⟨hsz, hat⟩, hK, hE, hX⟩ := hv
  have hts := atoms_spec (ws := wsO y b n none) B.pre
  have hl := lv_entry (.ref a :: av) (n := n) hlen
  rw [lg_entry_eq]
  refine body p e _ s m _ below meth c _ ⟨⟨B.exec, B.bytes, hml, findClass_of_methodNamed B.named, fun w hw => hts w (List.mem_cons_of_mem _ hw)⟩, hK, hE, ⟨fun _ _ _ _ h => h.elim, fun q h => ?_⟩, B.returns, B.notSynchronized, Nat.le_refl _, Nat.le_refl _, fun _ _ h => absurd h (Nat.not_lt_zero _)⟩ (by rw [← hy2]; exact (name_of_methodNamed B.named B.method).1) hX ⟨rfl, rfl⟩ hl ⟨wP.none, va_P1 hat, va_S.rf, hsz, fun _ _ h => h.elim, ⟨?_, fun _ _ _ => trivial⟩⟩
  · obtain ⟨_, _, h, _⟩ := h
    exact h.elim
  · intro i j u v hi hj _
    match i, j, hi, hj with
    | 0, 0, _, _ => rfl
    | 0, j + 1, _, hj => simp at hj
    | i + 1, _, hi, _ => simp at hi
theorem blindC {D : va_G} {cs : Nat → ClassId} {tU : Nat} {adK adV : Nat → Nat} {a ci : Nat} {fs av : List Value} {X : State → Prop} (hX : ∀ (U : State) (g : JFrame) (mk : MethodId) (a : Array Value), X U → X (U.calling g mk a)) : FrameBlind (va_Pc av (PcC D cs tU adK adV a ci fs X)) := fun x U g mk q => ⟨q.1, q.2.1, va_K.moved (u := U) (U := U.calling g mk x) (Vm.Alike.refl U.vm) q.2.2.1, SE.same q.2.2.2.1 rfl, hX _ _ _ _ q.2.2.2.2⟩
theorem Ex.toP {p : Program} {s : State} {m : MethodId} {args : Array Value} {meth : Method} {c : Code} {R : Room} {own : String} {cc : ByteArray} {nL : Nat} {ret : Option FieldType} {fr lo : Nat} {D : va_G} {ad : Nat → Nat → Nat} {cs : Nat → ClassId} {P0 P : Nat → Nat → Prop} {A : Nat → Prop} {tU : Nat} {adK adV : Nat → Nat} {cn cn2 : Nat → Nat} (E : Ex p s m args meth c R own cc nL ret fr lo D ad cs P0 A tU adK adV cn) (hI : wI ad P) (hA : ∀ q, wA ad P q → A q) (hn : ∀ kd i, i < cn2 kd → P kd i) : Ex p s m args meth c R own cc nL ret fr lo D ad cs P A tU adK adV cn2 := ⟨E.1, E.2.1, E.2.2.1, ⟨hI, hA⟩, E.2.2.2.2.1, E.2.2.2.2.2.1, E.2.2.2.2.2.2.1, E.2.2.2.2.2.2.2.1, hn⟩
section CT2
variable {p : Program} {l : Launch} {e : Env} {R : Room} {s : State} {m : MethodId} {args : Array Value} {below : List Frame} {meth : Method} {c : Code} {H : Heap} {locs : List Loc} {Q : State → Prop} {own : String} {cc : ByteArray} {nL : Nat} {ret : Option FieldType} {fr lo : Nat} {D : va_G} {ad : Nat → Nat → Nat} {cs : Nat → ClassId} {P P0 : Nat → Nat → Prop} {A : Nat → Prop} {tU : Nat} {adK adV : Nat → Nat} {cn : Nat → Nat} {S : St} {pc nc ns h : Nat} {ls : Array Slot} {rest st0 : List Value} {ws : va_W}
/-- the raw cells, fewer or in another order -/
theorem cH_sub {ws1 : va_W} (hh : cH D ad cs P ws A s.heap S H locs h) (is : List Nat) (hn : va_nd is = true) (hs : is.map (fun i => ws[i]?) = ws1.map some) : cH D ad cs P ws1 A s.heap S H locs h := by
  obtain ⟨h1, h2, h3, h4, h5, h6⟩ := hh
  have key : ∀ (k : Nat) (q : Nat × va_E), ws1[k]? = some q → ∃ i : Nat, ws[i]? = some q := by
    intro k q hk
    have h1 : (is.map (fun i => ws[i]?))[k]? = some (some q) := by rw [hs, List.getElem?_map, hk]; rfl
    rw [List.getElem?_map] at h1
    cases hi : is[k]? with
    | none => rw [hi] at h1; cases h1
    | some i => rw [hi] at h1; exact ⟨i, Option.some.inj h1⟩
  refine ⟨h1, fun k q hk => ?_, h3, h4, fun kd i hp w hw => ?_, h6.sub is hn hs⟩
  · obtain ⟨i, hi⟩ := key k q hk
    exact h2 i q hi
  · obtain ⟨k, hk⟩ := List.getElem?_of_mem hw
    obtain ⟨i2, hi2⟩ := key k w hk
    exact h5 kd i hp w (List.mem_of_getElem? hi2)
theorem cH_mono {P2 : Nat → Nat → Prop} (hh : cH D ad cs P ws A s.heap S H locs h) (hP : ∀ kd i, P2 kd i → P kd i) : cH D ad cs P2 ws A s.heap S H locs h := ⟨hh.1.mono hP, hh.2.1, hh.2.2.1, hh.2.2.2.1, fun kd i hp => hh.2.2.2.2.1 kd i (hP kd i hp), hh.2.2.2.2.2⟩
theorem cH_wH (hh : cH D ad cs P ws A s.heap S H locs h) : wH D ad cs P A s.heap h S H locs := ⟨hh.1, hh.2.2.1, hh.2.2.2.1⟩
/-- the constructor's end -/
theorem c_vret {a : Nat} {PC : Nat → Nat → Prop} {K : St → Prop} (E : Ex p s m args meth c R own cc nL none fr lo D ad cs P0 (fun q => a ≤ q) tU adK adV cn) (hh : cH D ad cs P [] (fun q => a ≤ q) s.heap S H locs h) (hP : ∀ kd i, PC kd i → P kd i) (hk : K S) (hd : decode cc pc = .ok (.return_, 1)) : W p l e R s m args below meth c H locs nc ns (MQ below (va_Qv K (QC D ad cs PC h) (fun q => a ≤ q)) args s nc ns (fun q => a ≤ q)) (F0 m pc ls []) :=
  W.vret E.hx E.hb E.hr (fun t ht _ => ⟨⟨S, rfl, hk, by show t.heap.size = h ∧ _; rw [ht]; exact ⟨hh.2.2.2.1, hh.1.mono hP⟩⟩, hh.2.2.1.F ht⟩) hh.2.2.1.2.2 hd E.hk
variable {y : MethodName} {b : ByteArray} {n f2 l2 na idx mc ms : Nat} {As : List Value} {X : State → Prop} {a ci h2 : Nat} {fs : List Value} {PC : Nat → Nat → Prop} {K : St → Prop}
/-- what a call of a constructor needs of the tables, the link apart -/
def kC (y : MethodName) (b : ByteArray) (n na : Nat) : Prop := y.name = "<init>" ∧ Cond.instanceMethod y ∈ tG ∧ Cond.initialized y.cls ∈ tG ∧ Cond.code y b n none ∈ tG ∧ y.cls ≠ "java/lang/invoke/MethodHandle" ∧ y.cls ≠ "java/lang/invoke/VarHandle" ∧ (parseMethodDescriptor y.desc).map (fun d => d.parameters.length) = some na
theorem preC (E : Ex p s m args meth c R own cc nL ret fr lo D ad cs P0 A tU adK adV cn) (hA2 : ∀ q, a ≤ q → A q) (hX : ∀ (U : State) (g : JFrame) (mk : MethodId) (a : Array Value), X U → X (U.calling g mk a)) (hX2 : ∀ U : State, s.WarmedH U.vm → X U) {ws1 : va_W} (hh : cH D ad cs P ((a, .inr (ci, fs)) :: ws1) A s.heap S H locs (a + 1)) : PreS s H (va_Pc (.ref a :: As) (PcC D cs tU adK adV a ci fs X)) (.ref a :: As) :=
  ⟨blindC hX, fun U hU hW => ⟨rfl, by rw [hU]; exact ⟨hh.2.2.2.1, hh.2.1 0 _ rfl⟩, va_K.moved hW.alike E.hK, by rw [hU]; exact (E.hE.go hW hh.2.2.1.2.1).narrow hA2, hX2 U hW⟩⟩
theorem c_runI {ws1 : va_W} (E : Ex p s m args meth c R own cc nL ret fr lo D ad cs P0 A tU adK adV cn) (hA2 : ∀ q, a ≤ q → A q) (hX : ∀ (U : State) (g : JFrame) (mk : MethodId) (a : Array Value), X U → X (U.calling g mk a)) (hX2 : ∀ U : State, s.WarmedH U.vm → X U) (hh : cH D ad cs P ((a, .inr (ci, fs)) :: ws1) A s.heap S H locs (a + 1)) (hM : MC l y b n f2 l2 mc ms D ad cs tU adK adV a ci fs As X PC h2 K) (hk : kC y b n na) (hlk : Cond.methodLink own idx y ∈ tG)
    (hR : f2 + 1 ≤ fr ∧ 8 + (n + 11) + l2 ≤ lo) (hn : As.length = na) (hls : ls.size = nL) (hst : st0 = As.reverse ++ .ref a :: rest) (hs : (rest.map fun v => v.category).sum ≤ 8) (hd : decode cc pc = .ok (.invokespecial idx, 3)) (hcs : nc + mc ≤ R.cells ∧ ns + ms ≤ R.slots) :
    va_Run p l e R s m args below meth c H locs nc ns mc ms (F0 m pc ls st0) rest (va_Qv K (QC D ad cs PC h2) (fun q => a ≤ q) (Value.ref a :: As).toArray) (fun q => a ≤ q) := by
  obtain ⟨k0, k1, k3, k4, k5⟩ := hk
  exact va_runI (As := As) (rest := rest) (n := na) ⟨E.hx, E.hb, E.hml, E.hown, E.hts⟩ hM (cwI na E.hts (gO (fun _ q => q) k4) rfl rfl rfl (E.hts _ k3) (E.hts _ hlk) (E.hts _ k1) k0 k5 ⟨Nat.le_trans hR.1 E.hf, Nat.le_trans hR.2 E.hl⟩) (preC E hA2 hX hX2 hh) rfl hn hls hst (lv_room hs) hd hcs
theorem c_runIN {ws1 : va_W} {host : String} (E : Ex p s m args meth c R own cc nL ret fr lo D ad cs P0 A tU adK adV cn) (hA2 : ∀ q, a ≤ q → A q) (hX : ∀ (U : State) (g : JFrame) (mk : MethodId) (a : Array Value), X U → X (U.calling g mk a)) (hX2 : ∀ U : State, s.WarmedH U.vm → X U) (hh : cH D ad cs P ((a, .inr (ci, fs)) :: ws1) A s.heap S H locs (a + 1)) (hM : MC l y b n f2 l2 mc ms D ad cs tU adK adV a ci fs As X PC h2 K) (hk : kC y b n na) (hlk : va_Nw (.methodLinkNest own idx y host) s)
    (hR : f2 + 1 ≤ fr ∧ 8 + (n + 11) + l2 ≤ lo) (hn : As.length = na) (hls : ls.size = nL) (hst : st0 = As.reverse ++ .ref a :: rest) (hs : (rest.map fun v => v.category).sum ≤ 8) (hd : decode cc pc = .ok (.invokespecial idx, 3)) (hcs : nc + mc ≤ R.cells ∧ ns + ms ≤ R.slots) :
    va_Run p l e R s m args below meth c H locs nc ns mc ms (F0 m pc ls st0) rest (va_Qv K (QC D ad cs PC h2) (fun q => a ≤ q) (Value.ref a :: As).toArray) (fun q => a ≤ q) := by
  obtain ⟨k0, k1, k3, k4, k5⟩ := hk
  exact va_runIN (As := As) (rest := rest) (n := na) ⟨E.hx, E.hb, E.hml, E.hown, E.hts⟩ hM ⟨va_cnB na E.hts (gO (fun _ q => q) k4) rfl rfl rfl hlk (E.hts _ k3) k5 ⟨Nat.le_trans hR.1 E.hf, Nat.le_trans hR.2 E.hl⟩, k0, E.hts _ k1⟩ (preC E hA2 hX hX2 hh) rfl hn hls hst (lv_room hs) hd hcs
/-- behind the call of a constructor: its cells are done -/
theorem c_sub {ws1 : va_W} {av : Array Value} (hA2 : ∀ q, a ≤ q → A q) (hPC : ∀ kd i, PC kd i → a ≤ ad kd i) (hh : cH D ad cs P ((a, .inr (ci, fs)) :: ws1) A s.heap S H locs (a + 1)) (hr : va_Run p l e R s m args below meth c H locs nc ns mc ms (F0 m pc ls st0) rest (va_Qv (fun S1 => S1 = S) (QC D ad cs PC h2) (fun q => a ≤ q) av) (fun q => a ≤ q))
    (kk : ∀ (H1 : Heap) (locs1 : List Loc), cH D ad cs (fun kd i => P kd i ∨ PC kd i) ws1 A s.heap S H1 locs1 h2 → W p l e R s m args below meth c H1 locs1 (nc + mc) (ns + ms) Q (F0 m (pc + 3) ls rest)) : W p l e R s m args below meth c H locs nc ns Q (F0 m pc ls st0) := by
  refine va_callv hr hh.2.2.1 (fun q _ z => hA2 q z) hA2 fun u t H1 locs1 ht _ hp hB _ hq hS => ?_
  obtain ⟨h1, hP, h3, h4, h5, h6⟩ := hh
  have hp : u = S := hp
  subst hp
  obtain ⟨hB1, hB2⟩ := hB
  rw [ht] at hB1 hB2
  have hw : ∀ w ∈ ws1, w.1 < a := by
    intro w hw
    obtain ⟨k, hk⟩ := List.getElem?_of_mem hw
    have h8 := (hP (k + 1) w hk).lt
    rw [h4] at h8
    have h9 : w.1 ≠ a := fun z => by
      have := h6.1 (k + 1) 0 w (a, .inr (ci, fs)) hk rfl z
      omega
    omega
  have hPa : ∀ kd i, P kd i → ad kd i < a := by
    intro kd i hp
    have h8 := h1.lt hp
    rw [h4] at h8
    have h9 := h5 kd i hp (a, .inr (ci, fs)) List.mem_cons_self
    dsimp only at h9
    omega
  refine kk H1 locs1 ⟨wP.or (h1.kept (fun kd i hp => hq _ (h1.lt hp) (by have := hPa kd i hp; omega))) hB2 (fun _ _ q => q), fun k q hk => ?_, hS, hB1, ?_, ⟨fun x y u v hx hy huv => ?_, fun _ _ _ => trivial⟩⟩
  · have h8 := hw q (List.mem_of_getElem? hk)
    exact (hP (k + 1) q hk).kept (hq _ (by rw [h4]; omega) (by omega))
  · intro kd i hp w hw2
    rcases hp with hp | hp
    · exact h5 kd i hp w (List.mem_cons_of_mem _ hw2)
    · have h8 := hw w hw2
      have h9 := hPC kd i hp
      omega
  · have := h6.1 (x + 1) (y + 1) u v hx hy huv
    omega
/-- behind a call of a method over the done cells: the raw ones are as they were -/
theorem c_keep {S1 : St} {H1 : Heap} {locs1 : List Loc} (hh : cH D ad cs P ws A s.heap S H locs h) (hB : wP D ad cs P S1 H1) (hz : H1.size = h) (hq : ∀ q : Nat, q < H.size → ¬ wA ad P q → H1[q]? = H[q]?) (hS : va_S A s.heap H1 locs1) : cH D ad cs P ws A s.heap S1 H1 locs1 h := by
  obtain ⟨h1, h2, h3, h4, h5, h6⟩ := hh
  refine ⟨hB, fun k q hk => (h2 k q hk).kept (hq _ (h2 k q hk).lt (fun z => ?_)), hS, hz, h5, h6⟩
  obtain ⟨kd, i, hp, e⟩ := z
  exact h5 kd i hp q (List.mem_of_getElem? hk) e
theorem c_cv {av : Array Value} (hA : ∀ q, wA ad P q → A q) (hh : cH D ad cs P ws A s.heap S H locs h) (hr : va_Run p l e R s m args below meth c H locs nc ns 0 0 (F0 m pc ls st0) rest (va_Qv K (QX D ad cs P h) (wA ad P) av) (wA ad P)) (kk : ∀ (S1 : St) (H1 : Heap) (locs1 : List Loc), K S1 → cH D ad cs P ws A s.heap S1 H1 locs1 h → W p l e R s m args below meth c H1 locs1 nc ns Q (F0 m (pc + 3) ls rest)) : W p l e R s m args below meth c H locs nc ns Q (F0 m pc ls st0) :=
  va_callv hr hh.2.2.1 (fun q _ z => hA q z) hA fun u t H1 locs1 ht _ hp hB _ hq hS => kk u H1 locs1 hp (c_keep hh (by have := hB.1; rw [ht] at this; exact this) (by have := hB.2; rw [ht] at this; exact this) hq hS)
theorem c_ci {av : Array Value} {K : Int32 → St → Prop} (hA : ∀ q, wA ad P q → A q) (hh : cH D ad cs P ws A s.heap S H locs h) (hr : va_Run p l e R s m args below meth c H locs nc ns 0 0 (F0 m pc ls st0) rest (va_Qi K (QX D ad cs P h) (wA ad P) av) (wA ad P)) (kk : ∀ (r : Int32) (S1 : St) (H1 : Heap) (locs1 : List Loc), K r S1 → cH D ad cs P ws A s.heap S1 H1 locs1 h → W p l e R s m args below meth c H1 locs1 nc ns Q (F0 m (pc + 3) ls (.int r :: rest))) : W p l e R s m args below meth c H locs nc ns Q (F0 m pc ls st0) :=
  va_calli hr hh.2.2.1 (fun q _ z => hA q z) hA fun r u t H1 locs1 ht _ hp hB _ hq hS => kk r u H1 locs1 hp (c_keep hh (by have := hB.1; rw [ht] at this; exact this) (by have := hB.2; rw [ht] at this; exact this) hq hS)
end CT2
/-- Arrays.fill -/
theorem fill_loop {kd u n : Nat} {x : Int32} {K : St → Prop} (hn : n < 2 ^ 31) : ∀ (k i : Nat) (S : St), i + k = n → K (sa S kd u (fun j => if i ≤ j ∧ j < n then x else S.1 kd u j)) → wbJ7_fill_53178_5 kd u n K x (Int32.ofNat n) (k + 1) (nI i) S := by
  intro k
  induction k with
  | zero =>
    intro i S hi hK
    have hi : i = n := by omega
    subst hi
    show if nI i ≤ nI i then K S else _
    rw [if_pos (by exact Int32.le_refl _)]
    have e : sa S kd u (fun j => if i ≤ j ∧ j < i then x else S.1 kd u j) = S := by
      have : (fun j => if i ≤ j ∧ j < i then x else S.1 kd u j) = S.1 kd u := by
        funext j
        rw [if_neg (by omega)]
      rw [this]
      unfold sa
      have : (fun a b => if a = kd ∧ b = u then S.1 kd u else S.1 a b) = S.1 := by
        funext a b
        split
        · rename_i h; rw [h.1, h.2]
        · rfl
      rw [this]
    rw [e] at hK
    exact hK
  | succ k ih =>
    intro i S hi hK
    show if nI n ≤ nI i then K S else _
    rw [if_neg (nI_ge (by omega) hn)]
    refine ⟨vp_in_nI (by omega) hn, fun S2 e => ?_⟩
    rw [nI_1]
    refine ih (i + 1) S2 (by omega) ?_
    have e2 : sa S2 kd u (fun j => if i + 1 ≤ j ∧ j < n then x else S2.1 kd u j) = sa S kd u (fun j => if i ≤ j ∧ j < n then x else S.1 kd u j) := by
      rw [e, nI_clamp (by omega)]
      unfold su
      rw [sa_eq]
      unfold sa
      congr 1
      funext a b
      by_cases h : a = kd ∧ b = u
      · simp only [if_pos h]
        funext j
        unfold upd
        by_cases h1 : j = i
        · subst h1
          rw [if_neg (by omega), if_pos rfl, if_pos (by omega)]
        · rw [if_neg h1]
          by_cases h2 : i ≤ j ∧ j < n
          · rw [if_pos h2, if_pos (by omega)]
          · rw [if_neg h2, if_neg (by omega)]
      · simp only [if_neg h]
    rw [e2]
    exact hK
theorem sp_fill {kd u n : Nat} {x : Int32} {S : St} {K : St → Prop} (hn : n < 2 ^ 31) (hK : K (sa S kd u (fun j => if j < n then x else S.1 kd u j))) : wpJ7_fill_53178 kd u n x S K := by
  refine ⟨n + 1, ?_⟩
  have h := fill_loop (kd := kd) (u := u) (x := x) (K := K) hn n 0 S (by omega) (by simpa using hK)
  rw [nI_0] at h
  exact h
