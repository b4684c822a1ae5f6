/-! walks of the constructors of the class and of the reference, written by wip/whole/tools/ctor7.py -/
/-- the cells that are done, by how far the making has come -/
def PS (k kd i : Nat) : Prop := PL kd i ∧ kd ≠ 0 ∧ kd ≠ 5 ∧ kd ≠ 29 ∧ offC kd i < k
theorem PS_PL {k : Nat} : ∀ kd i, PS k kd i → PL kd i := fun _ _ h => h.1
theorem PS_0 : ∀ kd i, ¬ PS 1 kd i := by
  intro kd i h
  have e := invC_of h.1
  have : offC kd i = 0 := by have := h.2.2.2.2; omega
  rw [this] at e
  exact h.2.1 (congrArg Prod.fst e).symm
theorem PS_step {PC : Nat → Nat → Prop} (o k : Nat) (h : ∀ v, o ≤ v → v < k → (invC v).1 ≠ 0 → (invC v).1 ≠ 5 → (invC v).1 ≠ 29 → PC (invC v).1 (invC v).2) : ∀ kd i, PS k kd i → PS o kd i ∨ PC kd i := by
  intro kd i hp
  by_cases ho : offC kd i < o
  · exact Or.inl ⟨hp.1, hp.2.1, hp.2.2.1, hp.2.2.2.1, ho⟩
  · have e := invC_of hp.1
    have h1 := h (offC kd i) (by omega) hp.2.2.2.2
    rw [e] at h1
    exact Or.inr (h1 hp.2.1 hp.2.2.1 hp.2.2.2.1)
/-- the towns and the object itself as their constructors leave them, all else by the state -/
def mix (S : St) : St := (fun kd i => if kd = 0 ∨ (10 ≤ kd ∧ kd ≤ 17) then S0.1 kd i else S.1 kd i, S.2)
theorem offC_A : ∀ kd, kd < 32 → ∀ i, i < 6 → i < cnA kd → offC kd i < 74 := by decide +kernel
theorem offC_B : ∀ kd, kd < 32 → ∀ i, i < 6 → i < cnB kd → offC kd i < 50 := by decide +kernel
theorem cnB_n {kd i : Nat} (h : i < cnB kd) : kd ≠ 0 ∧ kd ≠ 5 ∧ kd ≠ 29 := by
  refine ⟨?_, ?_, ?_⟩ <;> (intro e; subst e; exact absurd h (Nat.not_lt_zero _))
theorem cnA_6 : ∀ kd, kd < 32 → cnA kd ≤ 6 := by decide +kernel
theorem cnA_big {kd : Nat} (h : 32 ≤ kd) : cnA kd = 0 := by unfold cnA; split <;> first | rfl | omega
theorem cnA_L (kd : Nat) : cnA kd ≤ cnL kd := Nat.le_add_right _ _
theorem offC_T : ∀ kd, kd < 68 → ∀ i, i < 6 → i < cnL kd → (10 ≤ kd ∧ kd ≤ 17) → 50 ≤ offC kd i := by decide +kernel
theorem PS_town {kd i : Nat} (h : PS 50 kd i) : ¬ (kd = 0 ∨ (10 ≤ kd ∧ kd ≤ 17)) := by
  intro hk
  rcases hk with hk | hk
  · exact h.2.1 hk
  · by_cases h8 : kd < 68
    · have := offC_T kd h8 i (Nat.lt_of_lt_of_le h.1 (cnL_6 kd h8)) h.1 hk
      have := h.2.2.2.2
      omega
    · omega
theorem PS_B : ∀ kd i, i < cnB kd → PS 50 kd i := by
  intro kd i h
  have hA := Nat.lt_of_lt_of_le h (cnBA kd)
  by_cases hk : kd < 32
  · have a := offC_B kd hk i (Nat.lt_of_lt_of_le hA (cnA_6 kd hk)) h
    obtain ⟨b, c, d⟩ := cnB_n h
    exact ⟨Nat.lt_of_lt_of_le hA (cnA_L kd), b, c, d, a⟩
  · rw [cnA_big (by omega)] at hA
    omega
theorem PS_all : ∀ kd i, i < cnA kd → Pq (Pq (Pq (PS 74) 5 0) 29 0) 0 0 kd i := by
  intro kd i h
  by_cases hk : kd < 32
  · have ho := offC_A kd hk i (Nat.lt_of_lt_of_le h (cnA_6 kd hk)) h
    by_cases h0 : kd = 0
    · subst h0
      exact Or.inr ⟨rfl, Nat.lt_one_iff.mp h⟩
    · by_cases h1 : kd = 29
      · subst h1
        exact Or.inl (Or.inr ⟨rfl, Nat.lt_one_iff.mp h⟩)
      · by_cases h2 : kd = 5
        · subst h2
          exact Or.inl (Or.inl (Or.inr ⟨rfl, Nat.lt_one_iff.mp h⟩))
        · exact Or.inl (Or.inl (Or.inl ⟨Nat.lt_of_lt_of_le h (cnA_L kd), h0, h2, h1, ho⟩))
  · rw [cnA_big (by omega)] at h
    omega
theorem cH_congr {D : va_G} {ad : Nat → Nat → Nat} {cs : Nat → ClassId} {P : Nat → Nat → Prop} {ws : va_W} {A : Nat → Prop} {s : State} {S S1 : St} {H : Heap} {locs : List Loc} {h : Nat} (hh : cH D ad cs P ws A s.heap S H locs h) (hc : ∀ kd i, P kd i → S.1 kd i = S1.1 kd i ∧ sw S kd i = sw S1 kd i) : cH D ad cs P ws A s.heap S1 H locs h := ⟨hh.1.congr (fun kd i hp => Or.inl (hc kd i hp)), hh.2⟩
theorem wH_cH {D : va_G} {ad : Nat → Nat → Nat} {cs : Nat → ClassId} {P : Nat → Nat → Prop} {A : Nat → Prop} {s : State} {S : St} {H : Heap} {locs : List Loc} {h : Nat} (hh : wH D ad cs P A s.heap h S H locs) : cH D ad cs P [] A s.heap S H locs h := ⟨hh.1, fun k q hk => by simp at hk, hh.2.1, hh.2.2, fun _ _ _ q hq => by simp at hq, ⟨fun i j p q hi => by simp at hi, fun k q hk => by simp at hk⟩⟩
section CT3
variable {p : Program} {l : Launch} {e : Env} {R : Room} {s : State} {m : MethodId} {args : Array Value} {below : List Frame} {meth : Method} {c : Code} {H : Heap} {locs : List Loc} {Q : State → Prop} {D : va_G} {ad : Nat → Nat → Nat} {cs : Nat → ClassId} {P : Nat → Nat → Prop} {A : Nat → Prop} {S S2 : St} {pc nc ns : Nat} {ls : Array Slot} {rest st0 : List Value} {mc ms a ci h2 : Nat} {fs : List Value} {PC : Nat → Nat → Prop} {K : St → Prop}
/-- as c_sub, where the constructor leaves its cells as the state S already has them -/
theorem c_sub2 {ws1 : va_W} {av : Array Value} (hSS : ∀ kd i, PC kd i → S2.1 kd i = S.1 kd i ∧ sw S2 kd i = sw S kd i) (hA2 : ∀ q, a ≤ q → A q) (hPC : ∀ kd i, PC kd i → a ≤ ad kd i) (hh : cH D ad cs P ((a, .inr (ci, fs)) :: ws1) A s.heap S H locs (a + 1)) (hr : va_Run p l e R s m args below meth c H locs nc ns mc ms (F0 m pc ls st0) rest (va_Qv (fun S1 => S1 = S2) (QC D ad cs PC h2) (fun q => a ≤ q) av) (fun q => a ≤ q))
    (kk : ∀ (H1 : Heap) (locs1 : List Loc), cH D ad cs (fun kd i => P kd i ∨ PC kd i) ws1 A s.heap S H1 locs1 h2 → W p l e R s m args below meth c H1 locs1 (nc + mc) (ns + ms) Q (F0 m (pc + 3) ls rest)) : W p l e R s m args below meth c H locs nc ns Q (F0 m pc ls st0) := by
  refine c_sub (S := S) (av := av) hA2 hPC hh ?_ kk
  intro T hT X
  obtain ⟨v, st₀, t, T', L, h0, X', hL, e1, e2, ⟨⟨u, hv, hp, hB1, hB2⟩, hF⟩, hG⟩ := hr T hT X
  refine ⟨v, st₀, t, T', L, h0, X', hL, e1, e2, ⟨⟨S, hv, rfl, hB1, ?_⟩, hF⟩, hG⟩
  have hp : u = S2 := hp
  subst hp
  exact hB2.congr (fun kd i hp => Or.inl (hSS kd i hp))
end CT3
/-- both rows of references are full: they are done -/
theorem rows_up {ad : Nat → Nat → Nat} {to n : Nat} {g : Nat → Option Nat} {cA : ClassId} {D : va_G} {a : Nat} {H : Heap} (h : va_at D clX (a, .inl (cA, n, .inr (.inr (.inr (.inr g))))) H) (hg : ∀ j, j < n → g j = some (ad to j)) : va_at D clX (a, .inl (cA, n, .inr (.inr (.inr (.inr (fun j => some (ad to j))))))) H := by
  have h1 : H[a]? = some (vp_cell cA (n, .inr (.inr (.inr (.inr g))))) := h
  show H[a]? = some (vp_cell cA (n, .inr (.inr (.inr (.inr (fun j => some (ad to j)))))))
  rw [h1, vp_cell_q, vp_cell_q]
  congr 1
  unfold arrV
  congr 1
  congr 1
  funext j
  show va_rf (g j.val) = va_rf (some (ad to j.val))
  rw [hg j.val j.isLt]
theorem rowsX7 {D : va_G} {b : Nat} {cs : Nat → ClassId} {A : Nat → Prop} {s : State} {H : Heap} {locs : List Loc} {h : Nat} {f : va_E} (hh : cH D (adX b) cs (PS 50) [(b, f), (adX b 5 0, .inl (cs 2, 6, .inr (.inr (.inr (.inr (va_up (va_up (va_up (va_up (va_up (va_up (fun _ => none) (0 : Int32).toNatClampNeg (some (adX b 6 0))) (1 : Int32).toNatClampNeg (some (adX b 6 1))) (2 : Int32).toNatClampNeg (some (adX b 6 2))) (3 : Int32).toNatClampNeg (some (adX b 6 3))) (4 : Int32).toNatClampNeg (some (adX b 6 4))) (5 : Int32).toNatClampNeg (some (adX b 6 5)))))))), (adX b 29 0, .inl (cs 3, 4, .inr (.inr (.inr (.inr (va_up (va_up (va_up (va_up (fun _ => none) (0 : Int32).toNatClampNeg (some (adX b 30 0))) (1 : Int32).toNatClampNeg (some (adX b 30 1))) (2 : Int32).toNatClampNeg (some (adX b 30 2))) (3 : Int32).toNatClampNeg (some (adX b 30 3))))))))] A s.heap S0 H locs h) : cH D (adX b) cs (Pq (Pq (PS 50) 5 0) 29 0) [(b, f)] A s.heap S0 H locs h := by
  obtain ⟨h1, h2, h3, h4, h5, h6⟩ := hh
  have a5 := rows_up (ad := adX b) (to := 6) (h2 1 _ rfl) (by intro j hj; match j, hj with | 0, _ => rfl | 1, _ => rfl | 2, _ => rfl | 3, _ => rfl | 4, _ => rfl | 5, _ => rfl)
  have a29 := rows_up (ad := adX b) (to := 30) (h2 2 _ rfl) (by intro j hj; match j, hj with | 0, _ => rfl | 1, _ => rfl | 2, _ => rfl | 3, _ => rfl)
  refine ⟨(h1.add a5).add a29, va_P1 (h2 0 _ rfl), h3, h4, ?_, ⟨?_, fun _ _ _ => trivial⟩⟩
  · intro kd i hp w hw
    rw [List.mem_singleton.mp hw]
    rcases hp with (hp | ⟨rfl, rfl⟩) | ⟨rfl, rfl⟩
    · exact h5 kd i hp (b, f) List.mem_cons_self
    · exact fun z => by have := h6.1 0 1 _ _ rfl rfl z; omega
    · exact fun z => by have := h6.1 0 2 _ _ rfl rfl z; omega
  · intro i j u v hi hj _
    match i, j, hi, hj with
    | 0, 0, _, _ => rfl
    | 0, j + 1, _, hj => simp at hj
    | i + 1, _, hi, _ => simp at hi
theorem PS_le {k k2 kd i : Nat} (hk : k ≤ k2) (h : PS k kd i) : PS k2 kd i := ⟨h.1, h.2.1, h.2.2.1, h.2.2.2.1, Nat.lt_of_lt_of_le h.2.2.2.2 hk⟩
theorem mixX7 {S : St} : ∀ kd i, (Pq (Pq (PS 50) 5 0) 29 0) kd i → S.1 kd i = (mix S).1 kd i ∧ sw S kd i = sw (mix S) kd i := by
  intro kd i hp
  have : ¬ (kd = 0 ∨ (10 ≤ kd ∧ kd ≤ 17)) := by
    rcases hp with (hp | ⟨rfl, rfl⟩) | ⟨rfl, rfl⟩
    · exact PS_town hp
    · omega
    · omega
  refine ⟨?_, rfl⟩
  show _ = if _ then _ else _
  rw [if_neg this]
theorem PqPL {k : Nat} : ∀ kd i, (Pq (Pq (PS k) 5 0) 29 0) kd i → PL kd i := PLq (PLq PS_PL (by decide : 0 < cnL 5)) (by decide : 0 < cnL 29)
theorem PqA {b : Nat} {P : Nat → Nat → Prop} : ∀ q, wA (adX b) P q → b ≤ q := fun q h => by obtain ⟨kd, j, _, rfl⟩ := h; exact Nat.le_add_right _ _
section CT4
variable {p : Program} {l : Launch} {e : Env} {R : Room} {s : State} {m : MethodId} {args : Array Value} {below : List Frame} {meth : Method} {c : Code} {H : Heap} {locs : List Loc} {Q : State → Prop} {own : String} {cc : ByteArray} {nL : Nat} {ret : Option FieldType} {fr lo : Nat} {D : va_G} {ad : Nat → Nat → Nat} {cs : Nat → ClassId} {P : Nat → Nat → Prop} {A : Nat → Prop} {tU : Nat} {adK adV : Nat → Nat} {S : St} {pc nc ns h : Nat} {ls : Array Slot} {rest : List Value} {ws : va_W}
/-- the reader's size is written from outside, while raw cells are there -/
theorem c_put2 {idx : Nat} {x : Int32} (E : Ex p s m args meth c R own cc nL ret fr lo D ad cs P A tU adK adV cnB) (hh : cH D ad cs P ws A s.heap S H locs h) (hl : Cond.fieldLink own idx "RefusedMayAsk$Reader" "size" "I" ∈ tG) (hd : decode cc pc = .ok (.putfield idx, 3)) (kk : ∀ (S1 : St) (H1 : Heap) (locs1 : List Loc), S1 = su S 1 0 2 x → cH D ad cs P ws A s.heap S1 H1 locs1 h → W p l e R s m args below meth c H1 locs1 nc ns Q (F0 m (pc + 3) ls rest)) : W p l e R s m args below meth c H locs nc ns Q (F0 m pc ls (.int x :: .ref (ad 1 0) :: rest)) :=
  x_putG (ci := 1) (C := RX2) (T := TX2) (N := 10) (k := 2) (v := .int x) E (cH_wH hh) (E.hn 1 0 (by decide)) rfl rfl inX2 tyX2_ok nmX2 (by decide) rfl (ty := .int) rfl rfl rfl (show 2 < 10 by decide) hl hd fun H1 k1 a z oq => by
    have hw := wH_set (k := k1) (f := upd (S.1 1 0) 2 x) E.hI E.hA (cH_wH hh) (E.hn 1 0 (by decide)) a z oq
    refine kk _ H1 _ rfl (c_keep hh hw.1 hw.2.2 (fun q _ h2 => oq q (fun e => h2 ⟨1, 0, E.hn 1 0 (by decide), e⟩)) hw.2.1)
end CT4
def X7X (U : State) : Prop := va_Nw (.methodLinkNest RX7 9 yX2_init "RefusedMayAsk") U ∧ va_Nw (.methodLinkNest RX7 32 yX1_init "RefusedMayAsk") U ∧ va_Nw (.methodLinkNest RX7 39 yX6_init "RefusedMayAsk") U ∧ va_Nw (.methodLinkNest RX7 53 yX4_init "RefusedMayAsk") U ∧ va_AO RX3 U ∧ va_AO RX4 U
def wbX7_init (K : St → Prop) : Nat → Int32 → St → Prop
  | 0, _, _ => False
  | n + 1, x1, S => wpJ0_length_8abf5 12 S (fun r1 S1 => if r1 ≤ x1 then wpX2_read S1 (fun _ S2 => wpX3_adopt 0 S2 (fun S3 => ∀ S4, S4 = su S3 1 0 2 0 → K (mix S4))) else wpJ0_charAt_5068e 12 x1 S1 (fun r2 S2 => wpX2_append r2 S2 (fun _ S3 => wbX7_init K n (x1 + 1) S3)))
def wpX7_init (K : St → Prop) : Prop := ∃ k, wbX7_init K k 0 S0
set_option maxRecDepth 4000 in
theorem bX7_init3 {p : Program} {l : Launch} {e : Env} {R : Room} {s : State} {m : MethodId} {args : Array Value} {below : List Frame} {meth : Method} {c : Code} {D : va_G} {b : Nat} {cs : Nat → ClassId} {tU : Nat} {adK adV : Nat → Nat} {K : St → Prop} {S : St} {H : Heap} {locs : List Loc} {ls : Array Slot} {v1 : Int32} (E : Ex p s m args meth c R RX7 cX7_init 2 none 72 1796 D (adX b) cs (fun _ _ => False) (fun q => b ≤ q) tU adK adV cn0) (hin : meth.name = "<init>") (hRc : R.cells = 73 ∧ R.slots = 2753) (hx : p.tables.exec = Jvm.exec) (hb : c.code = cX7_init) (hw : K (mix S)) (hh : cH D (adX b) cs (Pq (Pq (PS 50) 5 0) 29 0) [(b, .inr (6, [.ref (adX b 1 0), .ref (adX b 5 0), .int 1, .null, .null, .null, .int 0, .ref (adX b 18 0), .ref (adX b 26 0), .ref (adX b 29 0)]))] (fun q => b ≤ q) s.heap (mix S) H locs (b + 50)) (hl : lv_has ls 2 [(1, .int v1), (0, .ref b)]) : W p l e R s m args below meth c H locs 49 2549 (MQ below (va_Qv K (QC D (adX b) cs (fun kd i => i < cnA kd) (b + 74)) (fun q => b ≤ q)) args s 73 2753 (fun q => b ≤ q)) (F0 m 188 ls []) := by
  have hPL0 : ∀ kd i, (Pq (Pq (PS 50) 5 0) 29 0) kd i → PL kd i := PqPL
  have hAP0 : ∀ q, wA (adX b) (Pq (Pq (PS 50) 5 0) 29 0) q → b ≤ q := PqA
  have hST0 : ∀ kd i, (Pq (Pq (Pq (Pq (Pq (Pq (Pq (Pq (fun _ _ => False) 11 0) 12 0) 13 0) 14 0) 15 0) 16 0) 17 0) 10 0) kd i → S0.1 kd i = (mix S).1 kd i ∧ sw S0 kd i = sw (mix S) kd i := Pq_all (Pq_all (Pq_all (Pq_all (Pq_all (Pq_all (Pq_all (Pq_all (fun _ _ h => False.elim h) ⟨rfl, rfl⟩) ⟨rfl, rfl⟩) ⟨rfl, rfl⟩) ⟨rfl, rfl⟩) ⟨rfl, rfl⟩) ⟨rfl, rfl⟩) ⟨rfl, rfl⟩) ⟨rfl, rfl⟩
  have hPL1 : ∀ kd i, (Pq (Pq (PS 58) 5 0) 29 0) kd i → PL kd i := PqPL
  have hAP1 : ∀ q, wA (adX b) (Pq (Pq (PS 58) 5 0) 29 0) q → b ≤ q := PqA
  have hST1 : ∀ kd i, (Pq (Pq (Pq (Pq (Pq (Pq (Pq (Pq (fun _ _ => False) 11 1) 12 1) 13 1) 14 1) 15 1) 16 1) 17 1) 10 1) kd i → S0.1 kd i = (mix S).1 kd i ∧ sw S0 kd i = sw (mix S) kd i := Pq_all (Pq_all (Pq_all (Pq_all (Pq_all (Pq_all (Pq_all (Pq_all (fun _ _ h => False.elim h) ⟨rfl, rfl⟩) ⟨rfl, rfl⟩) ⟨rfl, rfl⟩) ⟨rfl, rfl⟩) ⟨rfl, rfl⟩) ⟨rfl, rfl⟩) ⟨rfl, rfl⟩) ⟨rfl, rfl⟩
  have hPL2 : ∀ kd i, (Pq (Pq (PS 66) 5 0) 29 0) kd i → PL kd i := PqPL
  have hAP2 : ∀ q, wA (adX b) (Pq (Pq (PS 66) 5 0) 29 0) q → b ≤ q := PqA
  have hST2 : ∀ kd i, (Pq (Pq (Pq (Pq (Pq (Pq (Pq (Pq (fun _ _ => False) 11 2) 12 2) 13 2) 14 2) 15 2) 16 2) 17 2) 10 2) kd i → S0.1 kd i = (mix S).1 kd i ∧ sw S0 kd i = sw (mix S) kd i := Pq_all (Pq_all (Pq_all (Pq_all (Pq_all (Pq_all (Pq_all (Pq_all (fun _ _ h => False.elim h) ⟨rfl, rfl⟩) ⟨rfl, rfl⟩) ⟨rfl, rfl⟩) ⟨rfl, rfl⟩) ⟨rfl, rfl⟩) ⟨rfl, rfl⟩) ⟨rfl, rfl⟩) ⟨rfl, rfl⟩
  refine lv_aload_n hx hb dX7_init_188 rfl (lv_at hl 1 rfl) ?_
  refine c_new (ci := 4) (C := RX5) (T := TX5) (N := 13) (ty0 := tyX5) (fs := [.int 0, .int 0, .int 0, .null, .int 0, .int 0, .null, .null, .null, .null, .null, .null, .null]) E hh rfl inX5 tyX5_ok tb300 tb301 tb13 (fun j hj => by match j, hj with | 0, _ => rfl | 1, _ => rfl | 2, _ => rfl | 3, _ => rfl | 4, _ => rfl | 5, _ => rfl | 6, _ => rfl | 7, _ => rfl | 8, _ => rfl | 9, _ => rfl | 10, _ => rfl | 11, _ => rfl | 12, _ => rfl) (by rw [hRc.1]; decide) (by rw [hRc.2]; decide) dX7_init_189 (fun H hh => ?_)
  refine lv_dup hx hb dX7_init_192 rfl ?_
  refine lv_aload_n hx hb dX7_init_193 rfl (lv_at hl 1 rfl) ?_
  refine c_get (ci := 6) (k := 1) (q0 := 0) (C := RX7) (T := TX7) (N := 10) E hh rfl rfl inX7 (by decide) rfl tb371 dX7_init_194 ?_
  refine lv_iconst (v := 0) hx hb dX7_init_197 (by decide) ?_
  refine x_aald (kd := 5) (i := 0) (to := 6) (E.toP (cn2 := cn0) (wI_PL hPL0) (hAP0) (fun _ _ h => absurd h (Nat.not_lt_zero _))) (cH_wH hh) (Or.inl (Or.inr ⟨rfl, rfl⟩)) (fun _ _ => rfl) rfl (by unfold vp_in; decide) dX7_init_198 ?_
  have hh := cH_sub (ws1 := [((adX b 10 0), .inr (4, [.int 0, .int 0, .int 0, .null, .int 0, .int 0, .null, .null, .null, .null, .null, .null, .null])), (b, .inr (6, [.ref (adX b 1 0), .ref (adX b 5 0), .int 1, .null, .null, .null, .int 0, .ref (adX b 18 0), .ref (adX b 26 0), .ref (adX b 29 0)]))]) hh [1, 0] (by decide) rfl
  have hh : cH D (adX b) cs (Pq (Pq (PS 50) 5 0) 29 0) [((adX b 10 0), .inr (4, [.int 0, .int 0, .int 0, .null, .int 0, .int 0, .null, .null, .null, .null, .null, .null, .null])), (b, .inr (6, [.ref (adX b 1 0), .ref (adX b 5 0), .int 1, .null, .null, .null, .int 0, .ref (adX b 18 0), .ref (adX b 26 0), .ref (adX b 29 0)]))] (fun q => b ≤ q) s.heap (mix S) H locs ((adX b 10 0) + 1) := hh
  refine c_sub2 (S2 := S0) hST0 (a := (adX b 10 0)) (fun q hq => Nat.le_trans (show b ≤ (adX b 10 0) from Nat.le_add_right _ _) hq) (iX5_ge b 0) hh (c_runI (As := [.ref (adX b 6 0)]) (rest := [.ref (adX b 10 0), .ref b]) (X := fun _ => True) E (fun q hq => Nat.le_trans (show b ≤ (adX b 10 0) from Nat.le_add_right _ _) hq) (fun _ _ _ _ q => q) (fun _ _ => trivial) hh (iX5 b 0 (by decide)) kX5_init tb302 ⟨by decide, by decide⟩ rfl hl.1 rfl (Nat.le_of_ble_eq_true rfl) dX7_init_199 ⟨(by rw [hRc.1]; decide), (by rw [hRc.2]; decide)⟩) (fun H locs hh => ?_)
  have hh := cH_mono (P2 := (Pq (Pq (PS 58) 5 0) 29 0)) hh (by intro kd j hp; exact Or.elim hp (fun hp => Or.elim hp (fun hp => (PS_step (PC := (Pq (Pq (Pq (Pq (Pq (Pq (Pq (Pq (fun _ _ => False) 11 0) 12 0) 13 0) 14 0) 15 0) 16 0) 17 0) 10 0)) 50 58 (by intro v h1 h2 h3 h4 h5; rcases (show v = 50 ∨ v = 51 ∨ v = 52 ∨ v = 53 ∨ v = 54 ∨ v = 55 ∨ v = 56 ∨ v = 57 by omega) with rfl | rfl | rfl | rfl | rfl | rfl | rfl | rfl <;> first | exact absurd rfl h3 | exact absurd rfl h4 | exact absurd rfl h5 | (unfold Pq; simp [invC])) kd j hp).imp (fun h => Or.inl (Or.inl (PS_le (by decide) h))) id) (fun hp => Or.inl (Or.inl (Or.inr hp)))) (fun hp => Or.inl (Or.inr hp)))
  have hh : cH D (adX b) cs (Pq (Pq (PS 58) 5 0) 29 0) [(b, .inr (6, [.ref (adX b 1 0), .ref (adX b 5 0), .int 1, .null, .null, .null, .int 0, .ref (adX b 18 0), .ref (adX b 26 0), .ref (adX b 29 0)]))] (fun q => b ≤ q) s.heap (mix S) H locs (b + 58) := hh
  refine c_putF (ci := 6) (k := 3) (q0 := 0) (C := RX7) (T := TX7) (N := 10) (ty := .object RX5) (v := .ref (adX b 10 0)) E (Nat.le_refl _) hh rfl rfl inX7 tyX7_ok nmX7 (by decide) rfl hin rfl rfl rfl rfl (show 3 < 10 by decide) tb373 dX7_init_202 (fun H locs hh => ?_)
  have hh : cH D (adX b) cs (Pq (Pq (PS 58) 5 0) 29 0) [(b, .inr (6, [.ref (adX b 1 0), .ref (adX b 5 0), .int 1, .ref (adX b 10 0), .null, .null, .int 0, .ref (adX b 18 0), .ref (adX b 26 0), .ref (adX b 29 0)]))] (fun q => b ≤ q) s.heap (mix S) H locs (b + 58) := hh
  refine lv_aload_n hx hb dX7_init_205 rfl (lv_at hl 1 rfl) ?_
  refine c_new (ci := 4) (C := RX5) (T := TX5) (N := 13) (ty0 := tyX5) (fs := [.int 0, .int 0, .int 0, .null, .int 0, .int 0, .null, .null, .null, .null, .null, .null, .null]) E hh rfl inX5 tyX5_ok tb300 tb301 tb13 (fun j hj => by match j, hj with | 0, _ => rfl | 1, _ => rfl | 2, _ => rfl | 3, _ => rfl | 4, _ => rfl | 5, _ => rfl | 6, _ => rfl | 7, _ => rfl | 8, _ => rfl | 9, _ => rfl | 10, _ => rfl | 11, _ => rfl | 12, _ => rfl) (by rw [hRc.1]; decide) (by rw [hRc.2]; decide) dX7_init_206 (fun H hh => ?_)
  refine lv_dup hx hb dX7_init_209 rfl ?_
  refine lv_aload_n hx hb dX7_init_210 rfl (lv_at hl 1 rfl) ?_
  refine c_get (ci := 6) (k := 1) (q0 := 0) (C := RX7) (T := TX7) (N := 10) E hh rfl rfl inX7 (by decide) rfl tb371 dX7_init_211 ?_
  refine lv_iconst (v := 0) hx hb dX7_init_214 (by decide) ?_
  refine x_aald (kd := 5) (i := 0) (to := 6) (E.toP (cn2 := cn0) (wI_PL hPL1) (hAP1) (fun _ _ h => absurd h (Nat.not_lt_zero _))) (cH_wH hh) (Or.inl (Or.inr ⟨rfl, rfl⟩)) (fun _ _ => rfl) rfl (by unfold vp_in; decide) dX7_init_215 ?_
  have hh := cH_sub (ws1 := [((adX b 10 1), .inr (4, [.int 0, .int 0, .int 0, .null, .int 0, .int 0, .null, .null, .null, .null, .null, .null, .null])), (b, .inr (6, [.ref (adX b 1 0), .ref (adX b 5 0), .int 1, .ref (adX b 10 0), .null, .null, .int 0, .ref (adX b 18 0), .ref (adX b 26 0), .ref (adX b 29 0)]))]) hh [1, 0] (by decide) rfl
  have hh : cH D (adX b) cs (Pq (Pq (PS 58) 5 0) 29 0) [((adX b 10 1), .inr (4, [.int 0, .int 0, .int 0, .null, .int 0, .int 0, .null, .null, .null, .null, .null, .null, .null])), (b, .inr (6, [.ref (adX b 1 0), .ref (adX b 5 0), .int 1, .ref (adX b 10 0), .null, .null, .int 0, .ref (adX b 18 0), .ref (adX b 26 0), .ref (adX b 29 0)]))] (fun q => b ≤ q) s.heap (mix S) H locs ((adX b 10 1) + 1) := hh
  refine c_sub2 (S2 := S0) hST1 (a := (adX b 10 1)) (fun q hq => Nat.le_trans (show b ≤ (adX b 10 1) from Nat.le_add_right _ _) hq) (iX5_ge b 1) hh (c_runI (As := [.ref (adX b 6 0)]) (rest := [.ref (adX b 10 1), .ref b]) (X := fun _ => True) E (fun q hq => Nat.le_trans (show b ≤ (adX b 10 1) from Nat.le_add_right _ _) hq) (fun _ _ _ _ q => q) (fun _ _ => trivial) hh (iX5 b 1 (by decide)) kX5_init tb302 ⟨by decide, by decide⟩ rfl hl.1 rfl (Nat.le_of_ble_eq_true rfl) dX7_init_216 ⟨(by rw [hRc.1]; decide), (by rw [hRc.2]; decide)⟩) (fun H locs hh => ?_)
  have hh := cH_mono (P2 := (Pq (Pq (PS 66) 5 0) 29 0)) hh (by intro kd j hp; exact Or.elim hp (fun hp => Or.elim hp (fun hp => (PS_step (PC := (Pq (Pq (Pq (Pq (Pq (Pq (Pq (Pq (fun _ _ => False) 11 1) 12 1) 13 1) 14 1) 15 1) 16 1) 17 1) 10 1)) 58 66 (by intro v h1 h2 h3 h4 h5; rcases (show v = 58 ∨ v = 59 ∨ v = 60 ∨ v = 61 ∨ v = 62 ∨ v = 63 ∨ v = 64 ∨ v = 65 by omega) with rfl | rfl | rfl | rfl | rfl | rfl | rfl | rfl <;> first | exact absurd rfl h3 | exact absurd rfl h4 | exact absurd rfl h5 | (unfold Pq; simp [invC])) kd j hp).imp (fun h => Or.inl (Or.inl (PS_le (by decide) h))) id) (fun hp => Or.inl (Or.inl (Or.inr hp)))) (fun hp => Or.inl (Or.inr hp)))
  have hh : cH D (adX b) cs (Pq (Pq (PS 66) 5 0) 29 0) [(b, .inr (6, [.ref (adX b 1 0), .ref (adX b 5 0), .int 1, .ref (adX b 10 0), .null, .null, .int 0, .ref (adX b 18 0), .ref (adX b 26 0), .ref (adX b 29 0)]))] (fun q => b ≤ q) s.heap (mix S) H locs (b + 66) := hh
  refine c_putF (ci := 6) (k := 4) (q0 := 0) (C := RX7) (T := TX7) (N := 10) (ty := .object RX5) (v := .ref (adX b 10 1)) E (Nat.le_refl _) hh rfl rfl inX7 tyX7_ok nmX7 (by decide) rfl hin rfl rfl rfl rfl (show 4 < 10 by decide) tb374 dX7_init_219 (fun H locs hh => ?_)
  have hh : cH D (adX b) cs (Pq (Pq (PS 66) 5 0) 29 0) [(b, .inr (6, [.ref (adX b 1 0), .ref (adX b 5 0), .int 1, .ref (adX b 10 0), .ref (adX b 10 1), .null, .int 0, .ref (adX b 18 0), .ref (adX b 26 0), .ref (adX b 29 0)]))] (fun q => b ≤ q) s.heap (mix S) H locs (b + 66) := hh
  refine lv_aload_n hx hb dX7_init_222 rfl (lv_at hl 1 rfl) ?_
  refine c_new (ci := 4) (C := RX5) (T := TX5) (N := 13) (ty0 := tyX5) (fs := [.int 0, .int 0, .int 0, .null, .int 0, .int 0, .null, .null, .null, .null, .null, .null, .null]) E hh rfl inX5 tyX5_ok tb300 tb301 tb13 (fun j hj => by match j, hj with | 0, _ => rfl | 1, _ => rfl | 2, _ => rfl | 3, _ => rfl | 4, _ => rfl | 5, _ => rfl | 6, _ => rfl | 7, _ => rfl | 8, _ => rfl | 9, _ => rfl | 10, _ => rfl | 11, _ => rfl | 12, _ => rfl) (by rw [hRc.1]; decide) (by rw [hRc.2]; decide) dX7_init_223 (fun H hh => ?_)
  refine lv_dup hx hb dX7_init_226 rfl ?_
  refine lv_aload_n hx hb dX7_init_227 rfl (lv_at hl 1 rfl) ?_
  refine c_get (ci := 6) (k := 1) (q0 := 0) (C := RX7) (T := TX7) (N := 10) E hh rfl rfl inX7 (by decide) rfl tb371 dX7_init_228 ?_
  refine lv_iconst (v := 0) hx hb dX7_init_231 (by decide) ?_
  refine x_aald (kd := 5) (i := 0) (to := 6) (E.toP (cn2 := cn0) (wI_PL hPL2) (hAP2) (fun _ _ h => absurd h (Nat.not_lt_zero _))) (cH_wH hh) (Or.inl (Or.inr ⟨rfl, rfl⟩)) (fun _ _ => rfl) rfl (by unfold vp_in; decide) dX7_init_232 ?_
  have hh := cH_sub (ws1 := [((adX b 10 2), .inr (4, [.int 0, .int 0, .int 0, .null, .int 0, .int 0, .null, .null, .null, .null, .null, .null, .null])), (b, .inr (6, [.ref (adX b 1 0), .ref (adX b 5 0), .int 1, .ref (adX b 10 0), .ref (adX b 10 1), .null, .int 0, .ref (adX b 18 0), .ref (adX b 26 0), .ref (adX b 29 0)]))]) hh [1, 0] (by decide) rfl
  have hh : cH D (adX b) cs (Pq (Pq (PS 66) 5 0) 29 0) [((adX b 10 2), .inr (4, [.int 0, .int 0, .int 0, .null, .int 0, .int 0, .null, .null, .null, .null, .null, .null, .null])), (b, .inr (6, [.ref (adX b 1 0), .ref (adX b 5 0), .int 1, .ref (adX b 10 0), .ref (adX b 10 1), .null, .int 0, .ref (adX b 18 0), .ref (adX b 26 0), .ref (adX b 29 0)]))] (fun q => b ≤ q) s.heap (mix S) H locs ((adX b 10 2) + 1) := hh
  refine c_sub2 (S2 := S0) hST2 (a := (adX b 10 2)) (fun q hq => Nat.le_trans (show b ≤ (adX b 10 2) from Nat.le_add_right _ _) hq) (iX5_ge b 2) hh (c_runI (As := [.ref (adX b 6 0)]) (rest := [.ref (adX b 10 2), .ref b]) (X := fun _ => True) E (fun q hq => Nat.le_trans (show b ≤ (adX b 10 2) from Nat.le_add_right _ _) hq) (fun _ _ _ _ q => q) (fun _ _ => trivial) hh (iX5 b 2 (by decide)) kX5_init tb302 ⟨by decide, by decide⟩ rfl hl.1 rfl (Nat.le_of_ble_eq_true rfl) dX7_init_233 ⟨(by rw [hRc.1]; decide), (by rw [hRc.2]; decide)⟩) (fun H locs hh => ?_)
  have hh := cH_mono (P2 := (Pq (Pq (PS 74) 5 0) 29 0)) hh (by intro kd j hp; exact Or.elim hp (fun hp => Or.elim hp (fun hp => (PS_step (PC := (Pq (Pq (Pq (Pq (Pq (Pq (Pq (Pq (fun _ _ => False) 11 2) 12 2) 13 2) 14 2) 15 2) 16 2) 17 2) 10 2)) 66 74 (by intro v h1 h2 h3 h4 h5; rcases (show v = 66 ∨ v = 67 ∨ v = 68 ∨ v = 69 ∨ v = 70 ∨ v = 71 ∨ v = 72 ∨ v = 73 by omega) with rfl | rfl | rfl | rfl | rfl | rfl | rfl | rfl <;> first | exact absurd rfl h3 | exact absurd rfl h4 | exact absurd rfl h5 | (unfold Pq; simp [invC])) kd j hp).imp (fun h => Or.inl (Or.inl (PS_le (by decide) h))) id) (fun hp => Or.inl (Or.inl (Or.inr hp)))) (fun hp => Or.inl (Or.inr hp)))
  have hh : cH D (adX b) cs (Pq (Pq (PS 74) 5 0) 29 0) [(b, .inr (6, [.ref (adX b 1 0), .ref (adX b 5 0), .int 1, .ref (adX b 10 0), .ref (adX b 10 1), .null, .int 0, .ref (adX b 18 0), .ref (adX b 26 0), .ref (adX b 29 0)]))] (fun q => b ≤ q) s.heap (mix S) H locs (b + 74) := hh
  refine c_putF (ci := 6) (k := 5) (q0 := 0) (C := RX7) (T := TX7) (N := 10) (ty := .object RX5) (v := .ref (adX b 10 2)) E (Nat.le_refl _) hh rfl rfl inX7 tyX7_ok nmX7 (by decide) rfl hin rfl rfl rfl rfl (show 5 < 10 by decide) tb375 dX7_init_236 (fun H locs hh => ?_)
  have hh : cH D (adX b) cs (Pq (Pq (PS 74) 5 0) 29 0) [(b, .inr (6, [.ref (adX b 1 0), .ref (adX b 5 0), .int 1, .ref (adX b 10 0), .ref (adX b 10 1), .ref (adX b 10 2), .int 0, .ref (adX b 18 0), .ref (adX b 26 0), .ref (adX b 29 0)]))] (fun q => b ≤ q) s.heap (mix S) H locs (b + 74) := hh
  have hh := cH_done (kd := 0) (i := 0) hh rfl rfl
  exact c_vret E hh PS_all hw dX7_init_239
set_option maxRecDepth 4000 in
theorem bX7_init2 {p : Program} {l : Launch} {e : Env} {R : Room} {s : State} {m : MethodId} {args : Array Value} {below : List Frame} {meth : Method} {c : Code} {D : va_G} {b : Nat} {cs : Nat → ClassId} {tU : Nat} {adK adV : Nat → Nat} {K : St → Prop} (E : Ex p s m args meth c R RX7 cX7_init 2 none 72 1796 D (adX b) cs (fun _ _ => False) (fun q => b ≤ q) tU adK adV cn0) (hin : meth.name = "<init>") (hRc : R.cells = 73 ∧ R.slots = 2753) (hx : p.tables.exec = Jvm.exec) (hb : c.code = cX7_init) : ∀ (n : Nat) (x1 : Int32) (S : St) (H : Heap) (locs : List Loc) (ls : Array Slot), wbX7_init K n x1 S → cH D (adX b) cs (Pq (Pq (PS 50) 5 0) 29 0) [(b, .inr (6, [.ref (adX b 1 0), .ref (adX b 5 0), .int 1, .null, .null, .null, .int 0, .ref (adX b 18 0), .ref (adX b 26 0), .ref (adX b 29 0)]))] (fun q => b ≤ q) s.heap S H locs (b + 50) → lv_has ls 2 [(1, .int x1), (0, .ref b)] → W p l e R s m args below meth c H locs 49 2549 (MQ below (va_Qv K (QC D (adX b) cs (fun kd i => i < cnA kd) (b + 74)) (fun q => b ≤ q)) args s 73 2753 (fun q => b ≤ q)) (F0 m 120 ls []) := by
  have EP := E.toP (P := (Pq (Pq (PS 50) 5 0) 29 0)) (cn2 := cnB) (wI_PL PqPL) PqA (fun kd i h => Or.inl (Or.inl (PS_B kd i h)))
  intro n
  induction n with
  | zero => intro x1 S H locs ls hw hh hl; exact hw.elim
  | succ n ih =>
    intro x1 S H locs ls hw hh hl
    refine lv_iload_n hx hb dX7_init_120 rfl (lv_at hl 0 rfl) ?_
    refine va_ldcS hx hb E.hown (E.hE.2.2.2.2.1 12 (by decide)) dX7_init_121 ?_
    refine c_ci EP.hA hh (x_runK (i := 12) (As := []) (rest := [.int x1]) EP (cH_wH hh) (mJ0_length_8abf5 EP.hI (fun _ _ h => absurd h (Nat.not_lt_zero _)) (by decide) hw) kJ0_length_8abf5 tb165 (by decide) rfl ⟨by decide, by decide⟩ rfl hl.1 rfl (Nat.le_of_ble_eq_true rfl) dX7_init_123 ⟨by rw [hRc.1]; decide, by rw [hRc.2]; decide⟩) (fun r1 S1 H locs hw hh => ?_)
    refine lv_icmp_ge (tgt := 149) hx hb dX7_init_126 (by decide) (fun c1 => ?_) (fun c1 => ?_)
    · have hw := ifT hw c1
      refine lv_aload_n hx hb dX7_init_149 rfl (lv_at hl 1 rfl) ?_
      refine c_get (ci := 6) (k := 0) (q0 := 0) (C := RX7) (T := TX7) (N := 10) E hh rfl rfl inX7 (by decide) rfl tb370 dX7_init_150 ?_
      refine c_ci EP.hA hh (x_runV (kd := 1) (i := 0) (As := []) (rest := []) EP (cH_wH hh) (mX2_read EP.hI EP.hn hw) kX2_read tb217 (EP.hn 1 0 (by decide)) rv_1 ⟨by decide, by decide⟩ rfl hl.1 rfl (Nat.le_of_ble_eq_true rfl) dX7_init_153 ⟨by rw [hRc.1]; decide, by rw [hRc.2]; decide⟩) (fun r2 S2 H locs hw hh => ?_)
      refine lv_pop hx hb dX7_init_156 rfl ?_
      refine lv_aload_n hx hb dX7_init_157 rfl (lv_at hl 1 rfl) ?_
      refine c_get (ci := 6) (k := 1) (q0 := 0) (C := RX7) (T := TX7) (N := 10) E hh rfl rfl inX7 (by decide) rfl tb371 dX7_init_158 ?_
      refine lv_iconst (v := 0) hx hb dX7_init_161 (by decide) ?_
      refine x_aald (kd := 5) (i := 0) (to := 6) EP (cH_wH hh) (Or.inl (Or.inr ⟨rfl, rfl⟩)) (fun _ _ => rfl) rfl (by unfold vp_in; decide) dX7_init_162 ?_
      refine lv_aload_n hx hb dX7_init_163 rfl (lv_at hl 1 rfl) ?_
      refine c_get (ci := 6) (k := 0) (q0 := 0) (C := RX7) (T := TX7) (N := 10) E hh rfl rfl inX7 (by decide) rfl tb370 dX7_init_164 ?_
      refine g_1_0 EP (cH_wH hh) tb32 (EP.hn 1 0 (by decide)) dX7_init_167 ?_
      refine lv_aload_n hx hb dX7_init_170 rfl (lv_at hl 1 rfl) ?_
      refine c_get (ci := 6) (k := 0) (q0 := 0) (C := RX7) (T := TX7) (N := 10) E hh rfl rfl inX7 (by decide) rfl tb370 dX7_init_171 ?_
      refine g_1_1 EP (cH_wH hh) tb34 (EP.hn 1 0 (by decide)) dX7_init_174 ?_
      refine c_cv EP.hA hh (x_runV (kd := 6) (i := 0) (As := [.ref (adX b 2 0), .ref (adX b 3 0)]) (rest := []) EP (cH_wH hh) (mX3_adopt EP.hI EP.hn (by decide) hw) kX3_adopt tb290 (EP.hn 6 0 (by decide)) rv_6 ⟨by decide, by decide⟩ rfl hl.1 rfl (Nat.le_of_ble_eq_true rfl) dX7_init_177 ⟨by rw [hRc.1]; decide, by rw [hRc.2]; decide⟩) (fun S3 H locs hw hh => ?_)
      refine lv_aload_n hx hb dX7_init_180 rfl (lv_at hl 1 rfl) ?_
      refine c_get (ci := 6) (k := 0) (q0 := 0) (C := RX7) (T := TX7) (N := 10) E hh rfl rfl inX7 (by decide) rfl tb370 dX7_init_181 ?_
      refine lv_iconst (v := 0) hx hb dX7_init_184 (by decide) ?_
      refine c_put2 (x := 0) EP hh tb36 dX7_init_185 (fun S4 H locs e4 hh => ?_)
      have hw := hw S4 e4
      have hh := cH_congr (S1 := mix S4) hh mixX7
      exact bX7_init3 E hin hRc hx hb hw hh hl
    · have hw := ifF hw c1
      refine lv_aload_n hx hb dX7_init_129 rfl (lv_at hl 1 rfl) ?_
      refine c_get (ci := 6) (k := 0) (q0 := 0) (C := RX7) (T := TX7) (N := 10) E hh rfl rfl inX7 (by decide) rfl tb370 dX7_init_130 ?_
      refine va_ldcS hx hb E.hown (E.hE.2.2.2.2.1 12 (by decide)) dX7_init_133 ?_
      refine lv_iload_n hx hb dX7_init_135 rfl (lv_at hl 0 rfl) ?_
      refine c_ci EP.hA hh (x_runK (i := 12) (As := [.int x1]) (rest := [.ref (adX b 1 0)]) EP (cH_wH hh) (mJ0_charAt_5068e EP.hI (fun _ _ h => absurd h (Nat.not_lt_zero _)) (by decide) hw) kJ0_charAt_5068e tb175 (by decide) rfl ⟨by decide, by decide⟩ rfl hl.1 rfl (Nat.le_of_ble_eq_true rfl) dX7_init_136 ⟨by rw [hRc.1]; decide, by rw [hRc.2]; decide⟩) (fun r2 S2 H locs hw hh => ?_)
      have hw := hw.1
      refine c_ci EP.hA hh (x_runV (kd := 1) (i := 0) (As := [.int r2]) (rest := []) EP (cH_wH hh) (mX2_append EP.hI EP.hn hw) kX2_append tb213 (EP.hn 1 0 (by decide)) rv_1 ⟨by decide, by decide⟩ rfl hl.1 rfl (Nat.le_of_ble_eq_true rfl) dX7_init_139 ⟨by rw [hRc.1]; decide, by rw [hRc.2]; decide⟩) (fun r3 S3 H locs hw hh => ?_)
      have hw := hw.1
      refine lv_pop hx hb dX7_init_142 rfl ?_
      refine lv_iinc (k := 0) (v := x1 + 1) (lv' := [(1, .int (x1 + 1)), (0, .ref b)]) hx hb dX7_init_143 hl rfl rfl (by decide) rfl (fun ls hl => ?_)
      refine lv_goto (tgt := 120) hx hb dX7_init_146 (by decide) ?_
      exact ih _ _ _ _ _ hw hh hl
set_option maxRecDepth 8000 in
theorem iX7 {l : Launch} {D : va_G} {cs : Nat → ClassId} {tU : Nat} {adK adV : Nat → Nat} {K : St → Prop} (b : Nat) (hw : wpX7_init K) : MC l yX7_init cX7_init 2 72 1796 73 2753 D (adX b) cs tU adK adV b 6 [.null, .null, .int 0, .null, .null, .null, .int 0, .null, .null, .null] [] X7X (fun kd i => i < cnA kd) (b + 74) K := by
  refine MC_of S0 (by decide) rfl (Nat.le_of_ble_eq_true rfl) ?_
  intro p e R s m args below meth c ls E hin hX hRc hl hh
  have hx := E.hx
  have hb := E.hb
  have hl := lv_sub hl [0] rfl
  have hh := cH_mono (P2 := PS 1) hh (fun kd i h => PS_0 kd i h)
  generalize ([] : List Loc) = locs at hh ⊢
  refine lv_aload_n hx hb dX7_init_0 rfl (lv_at hl 0 rfl) ?_
  refine W.objInit hx hb E.hown (E.hts _ tb22) (E.hts _ tb23) (E.hts _ tb24) rfl (by rw [E.hml]; exact hl.1) rfl dX7_init_1 (Nat.le_trans (by decide) E.hf) (Nat.le_trans (Nat.le_of_ble_eq_true rfl) E.hl) ?_
  refine W.eq (g2 := F0 m 4 ls []) rfl ?_
  refine lv_aload_n hx hb dX7_init_4 rfl (lv_at hl 0 rfl) ?_
  refine c_new (ci := 1) (C := RX2) (T := TX2) (N := 10) (ty0 := tyX2) (fs := [.null, .null, .int 0, .null, .int 0, .int 0, .int 0, .int 0, .int 0, .int 0]) E hh rfl inX2 tyX2_ok tb25 tb26 tb2 (fun j hj => by match j, hj with | 0, _ => rfl | 1, _ => rfl | 2, _ => rfl | 3, _ => rfl | 4, _ => rfl | 5, _ => rfl | 6, _ => rfl | 7, _ => rfl | 8, _ => rfl | 9, _ => rfl) (by rw [hRc.1]; decide) (by rw [hRc.2]; decide) dX7_init_5 (fun H hh => ?_)
  refine lv_dup hx hb dX7_init_8 rfl ?_
  have hh := cH_sub (ws1 := [((adX b 1 0), .inr (1, [.null, .null, .int 0, .null, .int 0, .int 0, .int 0, .int 0, .int 0, .int 0])), (b, .inr (6, [.null, .null, .int 0, .null, .null, .null, .int 0, .null, .null, .null]))]) hh [1, 0] (by decide) rfl
  have hh : cH D (adX b) cs (PS 1) [((adX b 1 0), .inr (1, [.null, .null, .int 0, .null, .int 0, .int 0, .int 0, .int 0, .int 0, .int 0])), (b, .inr (6, [.null, .null, .int 0, .null, .null, .null, .int 0, .null, .null, .null]))] (fun q => b ≤ q) s.heap S0 H locs ((adX b 1 0) + 1) := hh
  refine c_sub (a := (adX b 1 0)) (fun q hq => Nat.le_trans (show b ≤ (adX b 1 0) from Nat.le_add_right _ _) hq) (iX2_ge b) hh (c_runIN (host := "RefusedMayAsk") (As := []) (rest := [.ref (adX b 1 0), .ref b]) (X := fun _ => True) E (fun q hq => Nat.le_trans (show b ≤ (adX b 1 0) from Nat.le_add_right _ _) hq) (fun _ _ _ _ q => q) (fun _ _ => trivial) hh (iX2 b) kX2_init hX.1 ⟨by decide, by decide⟩ rfl hl.1 rfl (Nat.le_of_ble_eq_true rfl) dX7_init_9 ⟨(by rw [hRc.1]; decide), (by rw [hRc.2]; decide)⟩) (fun H locs hh => ?_)
  have hh := cH_mono (P2 := (PS 5)) hh (by intro kd j hp; exact (PS_step (PC := (Pq (Pq (Pq (Pq (fun _ _ => False) 2 0) 3 0) 4 0) 1 0)) 1 5 (by intro v h1 h2 h3 h4 h5; rcases (show v = 1 ∨ v = 2 ∨ v = 3 ∨ v = 4 by omega) with rfl | rfl | rfl | rfl <;> first | exact absurd rfl h3 | exact absurd rfl h4 | exact absurd rfl h5 | (unfold Pq; simp [invC])) kd j hp).imp (fun h => PS_le (by decide) h) id)
  have hh : cH D (adX b) cs (PS 5) [(b, .inr (6, [.null, .null, .int 0, .null, .null, .null, .int 0, .null, .null, .null]))] (fun q => b ≤ q) s.heap S0 H locs (b + 5) := hh
  refine c_putF (ci := 6) (k := 0) (q0 := 0) (C := RX7) (T := TX7) (N := 10) (ty := .object RX2) (v := .ref (adX b 1 0)) E (Nat.le_refl _) hh rfl rfl inX7 tyX7_ok nmX7 (by decide) rfl hin rfl rfl rfl rfl (show 0 < 10 by decide) tb370 dX7_init_12 (fun H locs hh => ?_)
  have hh : cH D (adX b) cs (PS 5) [(b, .inr (6, [.ref (adX b 1 0), .null, .int 0, .null, .null, .null, .int 0, .null, .null, .null]))] (fun q => b ≤ q) s.heap S0 H locs (b + 5) := hh
  refine lv_aload_n hx hb dX7_init_15 rfl (lv_at hl 0 rfl) ?_
  refine lv_bipush (v := 6) hx hb dX7_init_16 (by decide) ?_
  refine c_anew (t := 2) (C := RX3) (N := 6) E hh rfl tb66 hX.2.2.2.2.1 (by decide) rfl (by decide) (by rw [hRc.1]; decide) (by rw [hRc.2]; decide) dX7_init_18 (fun H hh => ?_)
  have hh : cH D (adX b) cs (PS 5) [(b, .inr (6, [.ref (adX b 1 0), .null, .int 0, .null, .null, .null, .int 0, .null, .null, .null])), ((adX b 5 0), .inl (cs 2, 6, .inr (.inr (.inr (.inr (fun _ => none))))))] (fun q => b ≤ q) s.heap S0 H locs (b + 6) := hh
  refine c_putF (ci := 6) (k := 1) (q0 := 0) (C := RX7) (T := TX7) (N := 10) (ty := .array (.object RX3)) (v := .ref (adX b 5 0)) E (Nat.le_refl _) hh rfl rfl inX7 tyX7_ok nmX7 (by decide) rfl hin rfl rfl rfl rfl (show 1 < 10 by decide) tb371 dX7_init_21 (fun H locs hh => ?_)
  have hh : cH D (adX b) cs (PS 5) [(b, .inr (6, [.ref (adX b 1 0), .ref (adX b 5 0), .int 0, .null, .null, .null, .int 0, .null, .null, .null])), ((adX b 5 0), .inl (cs 2, 6, .inr (.inr (.inr (.inr (fun _ => none))))))] (fun q => b ≤ q) s.heap S0 H locs (b + 6) := hh
  refine lv_aload_n hx hb dX7_init_24 rfl (lv_at hl 0 rfl) ?_
  refine lv_iconst (v := 1) hx hb dX7_init_25 (by decide) ?_
  refine c_put (ci := 6) (k := 2) (q0 := 0) (C := RX7) (T := TX7) (N := 10) (ty := .int) (v := .int 1) E (Nat.le_refl _) hh rfl rfl inX7 tyX7_ok nmX7 (by decide) rfl rfl rfl rfl (show 2 < 10 by decide) tb372 dX7_init_26 (fun H locs hh => ?_)
  have hh : cH D (adX b) cs (PS 5) [(b, .inr (6, [.ref (adX b 1 0), .ref (adX b 5 0), .int 1, .null, .null, .null, .int 0, .null, .null, .null])), ((adX b 5 0), .inl (cs 2, 6, .inr (.inr (.inr (.inr (fun _ => none))))))] (fun q => b ≤ q) s.heap S0 H locs (b + 6) := hh
  refine lv_aload_n hx hb dX7_init_29 rfl (lv_at hl 0 rfl) ?_
  refine lv_iconst (v := 0) hx hb dX7_init_30 (by decide) ?_
  refine c_put (ci := 6) (k := 6) (q0 := 0) (C := RX7) (T := TX7) (N := 10) (ty := .boolean) (v := .int 0) E (Nat.le_refl _) hh rfl rfl inX7 tyX7_ok nmX7 (by decide) rfl rfl rfl rfl (show 6 < 10 by decide) tb376 dX7_init_31 (fun H locs hh => ?_)
  have hh : cH D (adX b) cs (PS 5) [(b, .inr (6, [.ref (adX b 1 0), .ref (adX b 5 0), .int 1, .null, .null, .null, .int 0, .null, .null, .null])), ((adX b 5 0), .inl (cs 2, 6, .inr (.inr (.inr (.inr (fun _ => none))))))] (fun q => b ≤ q) s.heap S0 H locs (b + 6) := hh
  refine lv_aload_n hx hb dX7_init_34 rfl (lv_at hl 0 rfl) ?_
  refine c_new (ci := 0) (C := RX1) (T := TX1) (N := 7) (ty0 := tyX1) (fs := [.null, .null, .null, .null, .null, .null, .null]) E hh rfl inX1 tyX1_ok tb68 tb69 tb3 (fun j hj => by match j, hj with | 0, _ => rfl | 1, _ => rfl | 2, _ => rfl | 3, _ => rfl | 4, _ => rfl | 5, _ => rfl | 6, _ => rfl) (by rw [hRc.1]; decide) (by rw [hRc.2]; decide) dX7_init_35 (fun H hh => ?_)
  refine lv_dup hx hb dX7_init_38 rfl ?_
  have hh := cH_sub (ws1 := [((adX b 18 0), .inr (0, [.null, .null, .null, .null, .null, .null, .null])), (b, .inr (6, [.ref (adX b 1 0), .ref (adX b 5 0), .int 1, .null, .null, .null, .int 0, .null, .null, .null])), ((adX b 5 0), .inl (cs 2, 6, .inr (.inr (.inr (.inr (fun _ => none))))))]) hh [2, 0, 1] (by decide) rfl
  have hh : cH D (adX b) cs (PS 5) [((adX b 18 0), .inr (0, [.null, .null, .null, .null, .null, .null, .null])), (b, .inr (6, [.ref (adX b 1 0), .ref (adX b 5 0), .int 1, .null, .null, .null, .int 0, .null, .null, .null])), ((adX b 5 0), .inl (cs 2, 6, .inr (.inr (.inr (.inr (fun _ => none))))))] (fun q => b ≤ q) s.heap S0 H locs ((adX b 18 0) + 1) := hh
  refine c_sub (a := (adX b 18 0)) (fun q hq => Nat.le_trans (show b ≤ (adX b 18 0) from Nat.le_add_right _ _) hq) (iX1_ge b) hh (c_runIN (host := "RefusedMayAsk") (As := []) (rest := [.ref (adX b 18 0), .ref b]) (X := fun _ => True) E (fun q hq => Nat.le_trans (show b ≤ (adX b 18 0) from Nat.le_add_right _ _) hq) (fun _ _ _ _ q => q) (fun _ _ => trivial) hh (iX1 b) kX1_init hX.2.1 ⟨by decide, by decide⟩ rfl hl.1 rfl (Nat.le_of_ble_eq_true rfl) dX7_init_39 ⟨(by rw [hRc.1]; decide), (by rw [hRc.2]; decide)⟩) (fun H locs hh => ?_)
  have hh := cH_mono (P2 := (PS 14)) hh (by intro kd j hp; exact (PS_step (PC := (Pq (Pq (Pq (Pq (Pq (Pq (Pq (Pq (fun _ _ => False) 19 0) 20 0) 21 0) 22 0) 23 0) 24 0) 25 0) 18 0)) 5 14 (by intro v h1 h2 h3 h4 h5; rcases (show v = 5 ∨ v = 6 ∨ v = 7 ∨ v = 8 ∨ v = 9 ∨ v = 10 ∨ v = 11 ∨ v = 12 ∨ v = 13 by omega) with rfl | rfl | rfl | rfl | rfl | rfl | rfl | rfl | rfl <;> first | exact absurd rfl h3 | exact absurd rfl h4 | exact absurd rfl h5 | (unfold Pq; simp [invC])) kd j hp).imp (fun h => PS_le (by decide) h) id)
  have hh : cH D (adX b) cs (PS 14) [(b, .inr (6, [.ref (adX b 1 0), .ref (adX b 5 0), .int 1, .null, .null, .null, .int 0, .null, .null, .null])), ((adX b 5 0), .inl (cs 2, 6, .inr (.inr (.inr (.inr (fun _ => none))))))] (fun q => b ≤ q) s.heap S0 H locs (b + 14) := hh
  refine c_putF (ci := 6) (k := 7) (q0 := 0) (C := RX7) (T := TX7) (N := 10) (ty := .object RX1) (v := .ref (adX b 18 0)) E (Nat.le_refl _) hh rfl rfl inX7 tyX7_ok nmX7 (by decide) rfl hin rfl rfl rfl rfl (show 7 < 10 by decide) tb377 dX7_init_42 (fun H locs hh => ?_)
  have hh : cH D (adX b) cs (PS 14) [(b, .inr (6, [.ref (adX b 1 0), .ref (adX b 5 0), .int 1, .null, .null, .null, .int 0, .ref (adX b 18 0), .null, .null])), ((adX b 5 0), .inl (cs 2, 6, .inr (.inr (.inr (.inr (fun _ => none))))))] (fun q => b ≤ q) s.heap S0 H locs (b + 14) := hh
  refine lv_aload_n hx hb dX7_init_45 rfl (lv_at hl 0 rfl) ?_
  refine c_new (ci := 5) (C := RX6) (T := TX6) (N := 5) (ty0 := tyX6) (fs := [.null, .int 0, .int 0, .int 0, .null]) E hh rfl inX6 tyX6_ok tb99 tb100 tb4 (fun j hj => by match j, hj with | 0, _ => rfl | 1, _ => rfl | 2, _ => rfl | 3, _ => rfl | 4, _ => rfl) (by rw [hRc.1]; decide) (by rw [hRc.2]; decide) dX7_init_46 (fun H hh => ?_)
  refine lv_dup hx hb dX7_init_49 rfl ?_
  have hh := cH_sub (ws1 := [((adX b 26 0), .inr (5, [.null, .int 0, .int 0, .int 0, .null])), (b, .inr (6, [.ref (adX b 1 0), .ref (adX b 5 0), .int 1, .null, .null, .null, .int 0, .ref (adX b 18 0), .null, .null])), ((adX b 5 0), .inl (cs 2, 6, .inr (.inr (.inr (.inr (fun _ => none))))))]) hh [2, 0, 1] (by decide) rfl
  have hh : cH D (adX b) cs (PS 14) [((adX b 26 0), .inr (5, [.null, .int 0, .int 0, .int 0, .null])), (b, .inr (6, [.ref (adX b 1 0), .ref (adX b 5 0), .int 1, .null, .null, .null, .int 0, .ref (adX b 18 0), .null, .null])), ((adX b 5 0), .inl (cs 2, 6, .inr (.inr (.inr (.inr (fun _ => none))))))] (fun q => b ≤ q) s.heap S0 H locs ((adX b 26 0) + 1) := hh
  refine c_sub (a := (adX b 26 0)) (fun q hq => Nat.le_trans (show b ≤ (adX b 26 0) from Nat.le_add_right _ _) hq) (iX6_ge b) hh (c_runIN (host := "RefusedMayAsk") (As := []) (rest := [.ref (adX b 26 0), .ref b]) (X := fun _ => True) E (fun q hq => Nat.le_trans (show b ≤ (adX b 26 0) from Nat.le_add_right _ _) hq) (fun _ _ _ _ q => q) (fun _ _ => trivial) hh (iX6 b) kX6_init hX.2.2.1 ⟨by decide, by decide⟩ rfl hl.1 rfl (Nat.le_of_ble_eq_true rfl) dX7_init_50 ⟨(by rw [hRc.1]; decide), (by rw [hRc.2]; decide)⟩) (fun H locs hh => ?_)
  have hh := cH_mono (P2 := (PS 17)) hh (by intro kd j hp; exact (PS_step (PC := (Pq (Pq (Pq (fun _ _ => False) 27 0) 28 0) 26 0)) 14 17 (by intro v h1 h2 h3 h4 h5; rcases (show v = 14 ∨ v = 15 ∨ v = 16 by omega) with rfl | rfl | rfl <;> first | exact absurd rfl h3 | exact absurd rfl h4 | exact absurd rfl h5 | (unfold Pq; simp [invC])) kd j hp).imp (fun h => PS_le (by decide) h) id)
  have hh : cH D (adX b) cs (PS 17) [(b, .inr (6, [.ref (adX b 1 0), .ref (adX b 5 0), .int 1, .null, .null, .null, .int 0, .ref (adX b 18 0), .null, .null])), ((adX b 5 0), .inl (cs 2, 6, .inr (.inr (.inr (.inr (fun _ => none))))))] (fun q => b ≤ q) s.heap S0 H locs (b + 17) := hh
  refine c_putF (ci := 6) (k := 8) (q0 := 0) (C := RX7) (T := TX7) (N := 10) (ty := .object RX6) (v := .ref (adX b 26 0)) E (Nat.le_refl _) hh rfl rfl inX7 tyX7_ok nmX7 (by decide) rfl hin rfl rfl rfl rfl (show 8 < 10 by decide) tb378 dX7_init_53 (fun H locs hh => ?_)
  have hh : cH D (adX b) cs (PS 17) [(b, .inr (6, [.ref (adX b 1 0), .ref (adX b 5 0), .int 1, .null, .null, .null, .int 0, .ref (adX b 18 0), .ref (adX b 26 0), .null])), ((adX b 5 0), .inl (cs 2, 6, .inr (.inr (.inr (.inr (fun _ => none))))))] (fun q => b ≤ q) s.heap S0 H locs (b + 17) := hh
  refine lv_aload_n hx hb dX7_init_56 rfl (lv_at hl 0 rfl) ?_
  refine lv_iconst (v := 4) hx hb dX7_init_57 (by decide) ?_
  refine c_anew (t := 3) (C := RX4) (N := 4) E hh rfl tb125 hX.2.2.2.2.2 (by decide) rfl (by decide) (by rw [hRc.1]; decide) (by rw [hRc.2]; decide) dX7_init_58 (fun H hh => ?_)
  have hh : cH D (adX b) cs (PS 17) [(b, .inr (6, [.ref (adX b 1 0), .ref (adX b 5 0), .int 1, .null, .null, .null, .int 0, .ref (adX b 18 0), .ref (adX b 26 0), .null])), ((adX b 5 0), .inl (cs 2, 6, .inr (.inr (.inr (.inr (fun _ => none)))))), ((adX b 29 0), .inl (cs 3, 4, .inr (.inr (.inr (.inr (fun _ => none))))))] (fun q => b ≤ q) s.heap S0 H locs (b + 18) := hh
  refine c_putF (ci := 6) (k := 9) (q0 := 0) (C := RX7) (T := TX7) (N := 10) (ty := .array (.object RX4)) (v := .ref (adX b 29 0)) E (Nat.le_refl _) hh rfl rfl inX7 tyX7_ok nmX7 (by decide) rfl hin rfl rfl rfl rfl (show 9 < 10 by decide) tb379 dX7_init_61 (fun H locs hh => ?_)
  have hh : cH D (adX b) cs (PS 17) [(b, .inr (6, [.ref (adX b 1 0), .ref (adX b 5 0), .int 1, .null, .null, .null, .int 0, .ref (adX b 18 0), .ref (adX b 26 0), .ref (adX b 29 0)])), ((adX b 5 0), .inl (cs 2, 6, .inr (.inr (.inr (.inr (fun _ => none)))))), ((adX b 29 0), .inl (cs 3, 4, .inr (.inr (.inr (.inr (fun _ => none))))))] (fun q => b ≤ q) s.heap S0 H locs (b + 18) := hh
  refine lv_iconst (v := 0) hx hb dX7_init_64 (by decide) ?_
  refine lv_istore_n (lv' := [(1, .int 0), (0, .ref b)]) hx hb dX7_init_65 rfl hl (by decide) rfl (fun ls hl => ?_)
  refine lv_iload_n hx hb dX7_init_66 rfl (lv_at hl 0 rfl) ?_
  refine lv_bipush (v := 6) hx hb dX7_init_67 (by decide) ?_
  refine lv_icmp_ge (tgt := 92) hx hb dX7_init_69 (by decide) (fun c1 => absurd c1 (by decide)) (fun _ => ?_)
  refine lv_aload_n hx hb dX7_init_72 rfl (lv_at hl 1 rfl) ?_
  refine c_get (ci := 6) (k := 1) (q0 := 0) (C := RX7) (T := TX7) (N := 10) E hh rfl rfl inX7 (by decide) rfl tb371 dX7_init_73 ?_
  refine lv_iload_n hx hb dX7_init_76 rfl (lv_at hl 0 rfl) ?_
  refine c_new (ci := 2) (C := RX3) (T := TX3) (N := 4) (ty0 := tyX3) (fs := [.int 0, .null, .null, .null]) E hh rfl inX3 tyX3_ok tb66 tb127 tb5 (fun j hj => by match j, hj with | 0, _ => rfl | 1, _ => rfl | 2, _ => rfl | 3, _ => rfl) (by rw [hRc.1]; decide) (by rw [hRc.2]; decide) dX7_init_77 (fun H hh => ?_)
  refine lv_dup hx hb dX7_init_80 rfl ?_
  refine lv_iload_n hx hb dX7_init_81 rfl (lv_at hl 0 rfl) ?_
  have hh := cH_sub (ws1 := [((adX b 6 0), .inr (2, [.int 0, .null, .null, .null])), (b, .inr (6, [.ref (adX b 1 0), .ref (adX b 5 0), .int 1, .null, .null, .null, .int 0, .ref (adX b 18 0), .ref (adX b 26 0), .ref (adX b 29 0)])), ((adX b 5 0), .inl (cs 2, 6, .inr (.inr (.inr (.inr (fun _ => none)))))), ((adX b 29 0), .inl (cs 3, 4, .inr (.inr (.inr (.inr (fun _ => none))))))]) hh [3, 0, 1, 2] (by decide) rfl
  have hh : cH D (adX b) cs (PS 17) [((adX b 6 0), .inr (2, [.int 0, .null, .null, .null])), (b, .inr (6, [.ref (adX b 1 0), .ref (adX b 5 0), .int 1, .null, .null, .null, .int 0, .ref (adX b 18 0), .ref (adX b 26 0), .ref (adX b 29 0)])), ((adX b 5 0), .inl (cs 2, 6, .inr (.inr (.inr (.inr (fun _ => none)))))), ((adX b 29 0), .inl (cs 3, 4, .inr (.inr (.inr (.inr (fun _ => none))))))] (fun q => b ≤ q) s.heap S0 H locs ((adX b 6 0) + 1) := hh
  refine c_sub (a := (adX b 6 0)) (fun q hq => Nat.le_trans (show b ≤ (adX b 6 0) from Nat.le_add_right _ _) hq) (iX3_ge b 0) hh (c_runI (As := [.int (nI 0)]) (rest := [.ref (adX b 6 0), .int 0, .ref (adX b 5 0)]) (X := fun _ => True) E (fun q hq => Nat.le_trans (show b ≤ (adX b 6 0) from Nat.le_add_right _ _) hq) (fun _ _ _ _ q => q) (fun _ _ => trivial) hh (iX3 b 0) kX3_init tb128 ⟨by decide, by decide⟩ rfl hl.1 rfl (Nat.le_of_ble_eq_true rfl) dX7_init_82 ⟨(by rw [hRc.1]; decide), (by rw [hRc.2]; decide)⟩) (fun H locs hh => ?_)
  have hh := cH_mono (P2 := (PS 22)) hh (by intro kd j hp; exact (PS_step (PC := (Pq (Pq (Pq (Pq (fun _ _ => False) 7 0) 8 0) 9 0) 6 0)) 17 22 (by intro v h1 h2 h3 h4 h5; rcases (show v = 17 ∨ v = 18 ∨ v = 19 ∨ v = 20 ∨ v = 21 by omega) with rfl | rfl | rfl | rfl | rfl <;> first | exact absurd rfl h3 | exact absurd rfl h4 | exact absurd rfl h5 | (unfold Pq; simp [invC])) kd j hp).imp (fun h => PS_le (by decide) h) id)
  have hh : cH D (adX b) cs (PS 22) [(b, .inr (6, [.ref (adX b 1 0), .ref (adX b 5 0), .int 1, .null, .null, .null, .int 0, .ref (adX b 18 0), .ref (adX b 26 0), .ref (adX b 29 0)])), ((adX b 5 0), .inl (cs 2, 6, .inr (.inr (.inr (.inr (fun _ => none)))))), ((adX b 29 0), .inl (cs 3, 4, .inr (.inr (.inr (.inr (fun _ => none))))))] (fun q => b ≤ q) s.heap S0 H locs (b + 22) := hh
  refine c_aast (q0 := 1) (t := 2) (n := 6) (kd := 6) (i := 0) (ci := 2) (r := (RX3, TX3, 4)) (g := (fun _ => none)) (j := 0) E (show b ≤ adX b 5 0 from Nat.le_add_right _ _) hh rfl rfl (show PS 22 6 0 from ⟨(by decide : 0 < cnL 6), by decide, by decide, by decide, (by decide : offC 6 0 < 22)⟩) rfl rfl (by unfold vp_in; decide) dX7_init_85 (fun H locs hh => ?_)
  have hh : cH D (adX b) cs (PS 22) [(b, .inr (6, [.ref (adX b 1 0), .ref (adX b 5 0), .int 1, .null, .null, .null, .int 0, .ref (adX b 18 0), .ref (adX b 26 0), .ref (adX b 29 0)])), ((adX b 5 0), .inl (cs 2, 6, .inr (.inr (.inr (.inr (va_up (fun _ => none) (0 : Int32).toNatClampNeg (some (adX b 6 0)))))))), ((adX b 29 0), .inl (cs 3, 4, .inr (.inr (.inr (.inr (fun _ => none))))))] (fun q => b ≤ q) s.heap S0 H locs (b + 22) := hh
  refine lv_iinc (k := 0) (v := 1) (lv' := [(1, .int 1), (0, .ref b)]) hx hb dX7_init_86 hl rfl (by decide) (by decide) rfl (fun ls hl => ?_)
  refine lv_goto (tgt := 66) hx hb dX7_init_89 (by decide) ?_
  refine lv_iload_n hx hb dX7_init_66 rfl (lv_at hl 0 rfl) ?_
  refine lv_bipush (v := 6) hx hb dX7_init_67 (by decide) ?_
  refine lv_icmp_ge (tgt := 92) hx hb dX7_init_69 (by decide) (fun c1 => absurd c1 (by decide)) (fun _ => ?_)
  refine lv_aload_n hx hb dX7_init_72 rfl (lv_at hl 1 rfl) ?_
  refine c_get (ci := 6) (k := 1) (q0 := 0) (C := RX7) (T := TX7) (N := 10) E hh rfl rfl inX7 (by decide) rfl tb371 dX7_init_73 ?_
  refine lv_iload_n hx hb dX7_init_76 rfl (lv_at hl 0 rfl) ?_
  refine c_new (ci := 2) (C := RX3) (T := TX3) (N := 4) (ty0 := tyX3) (fs := [.int 0, .null, .null, .null]) E hh rfl inX3 tyX3_ok tb66 tb127 tb5 (fun j hj => by match j, hj with | 0, _ => rfl | 1, _ => rfl | 2, _ => rfl | 3, _ => rfl) (by rw [hRc.1]; decide) (by rw [hRc.2]; decide) dX7_init_77 (fun H hh => ?_)
  refine lv_dup hx hb dX7_init_80 rfl ?_
  refine lv_iload_n hx hb dX7_init_81 rfl (lv_at hl 0 rfl) ?_
  have hh := cH_sub (ws1 := [((adX b 6 1), .inr (2, [.int 0, .null, .null, .null])), (b, .inr (6, [.ref (adX b 1 0), .ref (adX b 5 0), .int 1, .null, .null, .null, .int 0, .ref (adX b 18 0), .ref (adX b 26 0), .ref (adX b 29 0)])), ((adX b 5 0), .inl (cs 2, 6, .inr (.inr (.inr (.inr (va_up (fun _ => none) (0 : Int32).toNatClampNeg (some (adX b 6 0)))))))), ((adX b 29 0), .inl (cs 3, 4, .inr (.inr (.inr (.inr (fun _ => none))))))]) hh [3, 0, 1, 2] (by decide) rfl
  have hh : cH D (adX b) cs (PS 22) [((adX b 6 1), .inr (2, [.int 0, .null, .null, .null])), (b, .inr (6, [.ref (adX b 1 0), .ref (adX b 5 0), .int 1, .null, .null, .null, .int 0, .ref (adX b 18 0), .ref (adX b 26 0), .ref (adX b 29 0)])), ((adX b 5 0), .inl (cs 2, 6, .inr (.inr (.inr (.inr (va_up (fun _ => none) (0 : Int32).toNatClampNeg (some (adX b 6 0)))))))), ((adX b 29 0), .inl (cs 3, 4, .inr (.inr (.inr (.inr (fun _ => none))))))] (fun q => b ≤ q) s.heap S0 H locs ((adX b 6 1) + 1) := hh
  refine c_sub (a := (adX b 6 1)) (fun q hq => Nat.le_trans (show b ≤ (adX b 6 1) from Nat.le_add_right _ _) hq) (iX3_ge b 1) hh (c_runI (As := [.int (nI 1)]) (rest := [.ref (adX b 6 1), .int 1, .ref (adX b 5 0)]) (X := fun _ => True) E (fun q hq => Nat.le_trans (show b ≤ (adX b 6 1) from Nat.le_add_right _ _) hq) (fun _ _ _ _ q => q) (fun _ _ => trivial) hh (iX3 b 1) kX3_init tb128 ⟨by decide, by decide⟩ rfl hl.1 rfl (Nat.le_of_ble_eq_true rfl) dX7_init_82 ⟨(by rw [hRc.1]; decide), (by rw [hRc.2]; decide)⟩) (fun H locs hh => ?_)
  have hh := cH_mono (P2 := (PS 26)) hh (by intro kd j hp; exact (PS_step (PC := (Pq (Pq (Pq (Pq (fun _ _ => False) 7 1) 8 1) 9 1) 6 1)) 22 26 (by intro v h1 h2 h3 h4 h5; rcases (show v = 22 ∨ v = 23 ∨ v = 24 ∨ v = 25 by omega) with rfl | rfl | rfl | rfl <;> first | exact absurd rfl h3 | exact absurd rfl h4 | exact absurd rfl h5 | (unfold Pq; simp [invC])) kd j hp).imp (fun h => PS_le (by decide) h) id)
  have hh : cH D (adX b) cs (PS 26) [(b, .inr (6, [.ref (adX b 1 0), .ref (adX b 5 0), .int 1, .null, .null, .null, .int 0, .ref (adX b 18 0), .ref (adX b 26 0), .ref (adX b 29 0)])), ((adX b 5 0), .inl (cs 2, 6, .inr (.inr (.inr (.inr (va_up (fun _ => none) (0 : Int32).toNatClampNeg (some (adX b 6 0)))))))), ((adX b 29 0), .inl (cs 3, 4, .inr (.inr (.inr (.inr (fun _ => none))))))] (fun q => b ≤ q) s.heap S0 H locs (b + 26) := hh
  refine c_aast (q0 := 1) (t := 2) (n := 6) (kd := 6) (i := 1) (ci := 2) (r := (RX3, TX3, 4)) (g := (va_up (fun _ => none) (0 : Int32).toNatClampNeg (some (adX b 6 0)))) (j := 1) E (show b ≤ adX b 5 0 from Nat.le_add_right _ _) hh rfl rfl (show PS 26 6 1 from ⟨(by decide : 1 < cnL 6), by decide, by decide, by decide, (by decide : offC 6 1 < 26)⟩) rfl rfl (by unfold vp_in; decide) dX7_init_85 (fun H locs hh => ?_)
  have hh : cH D (adX b) cs (PS 26) [(b, .inr (6, [.ref (adX b 1 0), .ref (adX b 5 0), .int 1, .null, .null, .null, .int 0, .ref (adX b 18 0), .ref (adX b 26 0), .ref (adX b 29 0)])), ((adX b 5 0), .inl (cs 2, 6, .inr (.inr (.inr (.inr (va_up (va_up (fun _ => none) (0 : Int32).toNatClampNeg (some (adX b 6 0))) (1 : Int32).toNatClampNeg (some (adX b 6 1)))))))), ((adX b 29 0), .inl (cs 3, 4, .inr (.inr (.inr (.inr (fun _ => none))))))] (fun q => b ≤ q) s.heap S0 H locs (b + 26) := hh
  refine lv_iinc (k := 0) (v := 2) (lv' := [(1, .int 2), (0, .ref b)]) hx hb dX7_init_86 hl rfl (by decide) (by decide) rfl (fun ls hl => ?_)
  refine lv_goto (tgt := 66) hx hb dX7_init_89 (by decide) ?_
  refine lv_iload_n hx hb dX7_init_66 rfl (lv_at hl 0 rfl) ?_
  refine lv_bipush (v := 6) hx hb dX7_init_67 (by decide) ?_
  refine lv_icmp_ge (tgt := 92) hx hb dX7_init_69 (by decide) (fun c1 => absurd c1 (by decide)) (fun _ => ?_)
  refine lv_aload_n hx hb dX7_init_72 rfl (lv_at hl 1 rfl) ?_
  refine c_get (ci := 6) (k := 1) (q0 := 0) (C := RX7) (T := TX7) (N := 10) E hh rfl rfl inX7 (by decide) rfl tb371 dX7_init_73 ?_
  refine lv_iload_n hx hb dX7_init_76 rfl (lv_at hl 0 rfl) ?_
  refine c_new (ci := 2) (C := RX3) (T := TX3) (N := 4) (ty0 := tyX3) (fs := [.int 0, .null, .null, .null]) E hh rfl inX3 tyX3_ok tb66 tb127 tb5 (fun j hj => by match j, hj with | 0, _ => rfl | 1, _ => rfl | 2, _ => rfl | 3, _ => rfl) (by rw [hRc.1]; decide) (by rw [hRc.2]; decide) dX7_init_77 (fun H hh => ?_)
  refine lv_dup hx hb dX7_init_80 rfl ?_
  refine lv_iload_n hx hb dX7_init_81 rfl (lv_at hl 0 rfl) ?_
  have hh := cH_sub (ws1 := [((adX b 6 2), .inr (2, [.int 0, .null, .null, .null])), (b, .inr (6, [.ref (adX b 1 0), .ref (adX b 5 0), .int 1, .null, .null, .null, .int 0, .ref (adX b 18 0), .ref (adX b 26 0), .ref (adX b 29 0)])), ((adX b 5 0), .inl (cs 2, 6, .inr (.inr (.inr (.inr (va_up (va_up (fun _ => none) (0 : Int32).toNatClampNeg (some (adX b 6 0))) (1 : Int32).toNatClampNeg (some (adX b 6 1)))))))), ((adX b 29 0), .inl (cs 3, 4, .inr (.inr (.inr (.inr (fun _ => none))))))]) hh [3, 0, 1, 2] (by decide) rfl
  have hh : cH D (adX b) cs (PS 26) [((adX b 6 2), .inr (2, [.int 0, .null, .null, .null])), (b, .inr (6, [.ref (adX b 1 0), .ref (adX b 5 0), .int 1, .null, .null, .null, .int 0, .ref (adX b 18 0), .ref (adX b 26 0), .ref (adX b 29 0)])), ((adX b 5 0), .inl (cs 2, 6, .inr (.inr (.inr (.inr (va_up (va_up (fun _ => none) (0 : Int32).toNatClampNeg (some (adX b 6 0))) (1 : Int32).toNatClampNeg (some (adX b 6 1)))))))), ((adX b 29 0), .inl (cs 3, 4, .inr (.inr (.inr (.inr (fun _ => none))))))] (fun q => b ≤ q) s.heap S0 H locs ((adX b 6 2) + 1) := hh
  refine c_sub (a := (adX b 6 2)) (fun q hq => Nat.le_trans (show b ≤ (adX b 6 2) from Nat.le_add_right _ _) hq) (iX3_ge b 2) hh (c_runI (As := [.int (nI 2)]) (rest := [.ref (adX b 6 2), .int 2, .ref (adX b 5 0)]) (X := fun _ => True) E (fun q hq => Nat.le_trans (show b ≤ (adX b 6 2) from Nat.le_add_right _ _) hq) (fun _ _ _ _ q => q) (fun _ _ => trivial) hh (iX3 b 2) kX3_init tb128 ⟨by decide, by decide⟩ rfl hl.1 rfl (Nat.le_of_ble_eq_true rfl) dX7_init_82 ⟨(by rw [hRc.1]; decide), (by rw [hRc.2]; decide)⟩) (fun H locs hh => ?_)
  have hh := cH_mono (P2 := (PS 30)) hh (by intro kd j hp; exact (PS_step (PC := (Pq (Pq (Pq (Pq (fun _ _ => False) 7 2) 8 2) 9 2) 6 2)) 26 30 (by intro v h1 h2 h3 h4 h5; rcases (show v = 26 ∨ v = 27 ∨ v = 28 ∨ v = 29 by omega) with rfl | rfl | rfl | rfl <;> first | exact absurd rfl h3 | exact absurd rfl h4 | exact absurd rfl h5 | (unfold Pq; simp [invC])) kd j hp).imp (fun h => PS_le (by decide) h) id)
  have hh : cH D (adX b) cs (PS 30) [(b, .inr (6, [.ref (adX b 1 0), .ref (adX b 5 0), .int 1, .null, .null, .null, .int 0, .ref (adX b 18 0), .ref (adX b 26 0), .ref (adX b 29 0)])), ((adX b 5 0), .inl (cs 2, 6, .inr (.inr (.inr (.inr (va_up (va_up (fun _ => none) (0 : Int32).toNatClampNeg (some (adX b 6 0))) (1 : Int32).toNatClampNeg (some (adX b 6 1)))))))), ((adX b 29 0), .inl (cs 3, 4, .inr (.inr (.inr (.inr (fun _ => none))))))] (fun q => b ≤ q) s.heap S0 H locs (b + 30) := hh
  refine c_aast (q0 := 1) (t := 2) (n := 6) (kd := 6) (i := 2) (ci := 2) (r := (RX3, TX3, 4)) (g := (va_up (va_up (fun _ => none) (0 : Int32).toNatClampNeg (some (adX b 6 0))) (1 : Int32).toNatClampNeg (some (adX b 6 1)))) (j := 2) E (show b ≤ adX b 5 0 from Nat.le_add_right _ _) hh rfl rfl (show PS 30 6 2 from ⟨(by decide : 2 < cnL 6), by decide, by decide, by decide, (by decide : offC 6 2 < 30)⟩) rfl rfl (by unfold vp_in; decide) dX7_init_85 (fun H locs hh => ?_)
  have hh : cH D (adX b) cs (PS 30) [(b, .inr (6, [.ref (adX b 1 0), .ref (adX b 5 0), .int 1, .null, .null, .null, .int 0, .ref (adX b 18 0), .ref (adX b 26 0), .ref (adX b 29 0)])), ((adX b 5 0), .inl (cs 2, 6, .inr (.inr (.inr (.inr (va_up (va_up (va_up (fun _ => none) (0 : Int32).toNatClampNeg (some (adX b 6 0))) (1 : Int32).toNatClampNeg (some (adX b 6 1))) (2 : Int32).toNatClampNeg (some (adX b 6 2)))))))), ((adX b 29 0), .inl (cs 3, 4, .inr (.inr (.inr (.inr (fun _ => none))))))] (fun q => b ≤ q) s.heap S0 H locs (b + 30) := hh
  refine lv_iinc (k := 0) (v := 3) (lv' := [(1, .int 3), (0, .ref b)]) hx hb dX7_init_86 hl rfl (by decide) (by decide) rfl (fun ls hl => ?_)
  refine lv_goto (tgt := 66) hx hb dX7_init_89 (by decide) ?_
  refine lv_iload_n hx hb dX7_init_66 rfl (lv_at hl 0 rfl) ?_
  refine lv_bipush (v := 6) hx hb dX7_init_67 (by decide) ?_
  refine lv_icmp_ge (tgt := 92) hx hb dX7_init_69 (by decide) (fun c1 => absurd c1 (by decide)) (fun _ => ?_)
  refine lv_aload_n hx hb dX7_init_72 rfl (lv_at hl 1 rfl) ?_
  refine c_get (ci := 6) (k := 1) (q0 := 0) (C := RX7) (T := TX7) (N := 10) E hh rfl rfl inX7 (by decide) rfl tb371 dX7_init_73 ?_
  refine lv_iload_n hx hb dX7_init_76 rfl (lv_at hl 0 rfl) ?_
  refine c_new (ci := 2) (C := RX3) (T := TX3) (N := 4) (ty0 := tyX3) (fs := [.int 0, .null, .null, .null]) E hh rfl inX3 tyX3_ok tb66 tb127 tb5 (fun j hj => by match j, hj with | 0, _ => rfl | 1, _ => rfl | 2, _ => rfl | 3, _ => rfl) (by rw [hRc.1]; decide) (by rw [hRc.2]; decide) dX7_init_77 (fun H hh => ?_)
  refine lv_dup hx hb dX7_init_80 rfl ?_
  refine lv_iload_n hx hb dX7_init_81 rfl (lv_at hl 0 rfl) ?_
  have hh := cH_sub (ws1 := [((adX b 6 3), .inr (2, [.int 0, .null, .null, .null])), (b, .inr (6, [.ref (adX b 1 0), .ref (adX b 5 0), .int 1, .null, .null, .null, .int 0, .ref (adX b 18 0), .ref (adX b 26 0), .ref (adX b 29 0)])), ((adX b 5 0), .inl (cs 2, 6, .inr (.inr (.inr (.inr (va_up (va_up (va_up (fun _ => none) (0 : Int32).toNatClampNeg (some (adX b 6 0))) (1 : Int32).toNatClampNeg (some (adX b 6 1))) (2 : Int32).toNatClampNeg (some (adX b 6 2)))))))), ((adX b 29 0), .inl (cs 3, 4, .inr (.inr (.inr (.inr (fun _ => none))))))]) hh [3, 0, 1, 2] (by decide) rfl
  have hh : cH D (adX b) cs (PS 30) [((adX b 6 3), .inr (2, [.int 0, .null, .null, .null])), (b, .inr (6, [.ref (adX b 1 0), .ref (adX b 5 0), .int 1, .null, .null, .null, .int 0, .ref (adX b 18 0), .ref (adX b 26 0), .ref (adX b 29 0)])), ((adX b 5 0), .inl (cs 2, 6, .inr (.inr (.inr (.inr (va_up (va_up (va_up (fun _ => none) (0 : Int32).toNatClampNeg (some (adX b 6 0))) (1 : Int32).toNatClampNeg (some (adX b 6 1))) (2 : Int32).toNatClampNeg (some (adX b 6 2)))))))), ((adX b 29 0), .inl (cs 3, 4, .inr (.inr (.inr (.inr (fun _ => none))))))] (fun q => b ≤ q) s.heap S0 H locs ((adX b 6 3) + 1) := hh
  refine c_sub (a := (adX b 6 3)) (fun q hq => Nat.le_trans (show b ≤ (adX b 6 3) from Nat.le_add_right _ _) hq) (iX3_ge b 3) hh (c_runI (As := [.int (nI 3)]) (rest := [.ref (adX b 6 3), .int 3, .ref (adX b 5 0)]) (X := fun _ => True) E (fun q hq => Nat.le_trans (show b ≤ (adX b 6 3) from Nat.le_add_right _ _) hq) (fun _ _ _ _ q => q) (fun _ _ => trivial) hh (iX3 b 3) kX3_init tb128 ⟨by decide, by decide⟩ rfl hl.1 rfl (Nat.le_of_ble_eq_true rfl) dX7_init_82 ⟨(by rw [hRc.1]; decide), (by rw [hRc.2]; decide)⟩) (fun H locs hh => ?_)
  have hh := cH_mono (P2 := (PS 34)) hh (by intro kd j hp; exact (PS_step (PC := (Pq (Pq (Pq (Pq (fun _ _ => False) 7 3) 8 3) 9 3) 6 3)) 30 34 (by intro v h1 h2 h3 h4 h5; rcases (show v = 30 ∨ v = 31 ∨ v = 32 ∨ v = 33 by omega) with rfl | rfl | rfl | rfl <;> first | exact absurd rfl h3 | exact absurd rfl h4 | exact absurd rfl h5 | (unfold Pq; simp [invC])) kd j hp).imp (fun h => PS_le (by decide) h) id)
  have hh : cH D (adX b) cs (PS 34) [(b, .inr (6, [.ref (adX b 1 0), .ref (adX b 5 0), .int 1, .null, .null, .null, .int 0, .ref (adX b 18 0), .ref (adX b 26 0), .ref (adX b 29 0)])), ((adX b 5 0), .inl (cs 2, 6, .inr (.inr (.inr (.inr (va_up (va_up (va_up (fun _ => none) (0 : Int32).toNatClampNeg (some (adX b 6 0))) (1 : Int32).toNatClampNeg (some (adX b 6 1))) (2 : Int32).toNatClampNeg (some (adX b 6 2)))))))), ((adX b 29 0), .inl (cs 3, 4, .inr (.inr (.inr (.inr (fun _ => none))))))] (fun q => b ≤ q) s.heap S0 H locs (b + 34) := hh
  refine c_aast (q0 := 1) (t := 2) (n := 6) (kd := 6) (i := 3) (ci := 2) (r := (RX3, TX3, 4)) (g := (va_up (va_up (va_up (fun _ => none) (0 : Int32).toNatClampNeg (some (adX b 6 0))) (1 : Int32).toNatClampNeg (some (adX b 6 1))) (2 : Int32).toNatClampNeg (some (adX b 6 2)))) (j := 3) E (show b ≤ adX b 5 0 from Nat.le_add_right _ _) hh rfl rfl (show PS 34 6 3 from ⟨(by decide : 3 < cnL 6), by decide, by decide, by decide, (by decide : offC 6 3 < 34)⟩) rfl rfl (by unfold vp_in; decide) dX7_init_85 (fun H locs hh => ?_)
  have hh : cH D (adX b) cs (PS 34) [(b, .inr (6, [.ref (adX b 1 0), .ref (adX b 5 0), .int 1, .null, .null, .null, .int 0, .ref (adX b 18 0), .ref (adX b 26 0), .ref (adX b 29 0)])), ((adX b 5 0), .inl (cs 2, 6, .inr (.inr (.inr (.inr (va_up (va_up (va_up (va_up (fun _ => none) (0 : Int32).toNatClampNeg (some (adX b 6 0))) (1 : Int32).toNatClampNeg (some (adX b 6 1))) (2 : Int32).toNatClampNeg (some (adX b 6 2))) (3 : Int32).toNatClampNeg (some (adX b 6 3)))))))), ((adX b 29 0), .inl (cs 3, 4, .inr (.inr (.inr (.inr (fun _ => none))))))] (fun q => b ≤ q) s.heap S0 H locs (b + 34) := hh
  refine lv_iinc (k := 0) (v := 4) (lv' := [(1, .int 4), (0, .ref b)]) hx hb dX7_init_86 hl rfl (by decide) (by decide) rfl (fun ls hl => ?_)
  refine lv_goto (tgt := 66) hx hb dX7_init_89 (by decide) ?_
  refine lv_iload_n hx hb dX7_init_66 rfl (lv_at hl 0 rfl) ?_
  refine lv_bipush (v := 6) hx hb dX7_init_67 (by decide) ?_
  refine lv_icmp_ge (tgt := 92) hx hb dX7_init_69 (by decide) (fun c1 => absurd c1 (by decide)) (fun _ => ?_)
  refine lv_aload_n hx hb dX7_init_72 rfl (lv_at hl 1 rfl) ?_
  refine c_get (ci := 6) (k := 1) (q0 := 0) (C := RX7) (T := TX7) (N := 10) E hh rfl rfl inX7 (by decide) rfl tb371 dX7_init_73 ?_
  refine lv_iload_n hx hb dX7_init_76 rfl (lv_at hl 0 rfl) ?_
  refine c_new (ci := 2) (C := RX3) (T := TX3) (N := 4) (ty0 := tyX3) (fs := [.int 0, .null, .null, .null]) E hh rfl inX3 tyX3_ok tb66 tb127 tb5 (fun j hj => by match j, hj with | 0, _ => rfl | 1, _ => rfl | 2, _ => rfl | 3, _ => rfl) (by rw [hRc.1]; decide) (by rw [hRc.2]; decide) dX7_init_77 (fun H hh => ?_)
  refine lv_dup hx hb dX7_init_80 rfl ?_
  refine lv_iload_n hx hb dX7_init_81 rfl (lv_at hl 0 rfl) ?_
  have hh := cH_sub (ws1 := [((adX b 6 4), .inr (2, [.int 0, .null, .null, .null])), (b, .inr (6, [.ref (adX b 1 0), .ref (adX b 5 0), .int 1, .null, .null, .null, .int 0, .ref (adX b 18 0), .ref (adX b 26 0), .ref (adX b 29 0)])), ((adX b 5 0), .inl (cs 2, 6, .inr (.inr (.inr (.inr (va_up (va_up (va_up (va_up (fun _ => none) (0 : Int32).toNatClampNeg (some (adX b 6 0))) (1 : Int32).toNatClampNeg (some (adX b 6 1))) (2 : Int32).toNatClampNeg (some (adX b 6 2))) (3 : Int32).toNatClampNeg (some (adX b 6 3)))))))), ((adX b 29 0), .inl (cs 3, 4, .inr (.inr (.inr (.inr (fun _ => none))))))]) hh [3, 0, 1, 2] (by decide) rfl
  have hh : cH D (adX b) cs (PS 34) [((adX b 6 4), .inr (2, [.int 0, .null, .null, .null])), (b, .inr (6, [.ref (adX b 1 0), .ref (adX b 5 0), .int 1, .null, .null, .null, .int 0, .ref (adX b 18 0), .ref (adX b 26 0), .ref (adX b 29 0)])), ((adX b 5 0), .inl (cs 2, 6, .inr (.inr (.inr (.inr (va_up (va_up (va_up (va_up (fun _ => none) (0 : Int32).toNatClampNeg (some (adX b 6 0))) (1 : Int32).toNatClampNeg (some (adX b 6 1))) (2 : Int32).toNatClampNeg (some (adX b 6 2))) (3 : Int32).toNatClampNeg (some (adX b 6 3)))))))), ((adX b 29 0), .inl (cs 3, 4, .inr (.inr (.inr (.inr (fun _ => none))))))] (fun q => b ≤ q) s.heap S0 H locs ((adX b 6 4) + 1) := hh
  refine c_sub (a := (adX b 6 4)) (fun q hq => Nat.le_trans (show b ≤ (adX b 6 4) from Nat.le_add_right _ _) hq) (iX3_ge b 4) hh (c_runI (As := [.int (nI 4)]) (rest := [.ref (adX b 6 4), .int 4, .ref (adX b 5 0)]) (X := fun _ => True) E (fun q hq => Nat.le_trans (show b ≤ (adX b 6 4) from Nat.le_add_right _ _) hq) (fun _ _ _ _ q => q) (fun _ _ => trivial) hh (iX3 b 4) kX3_init tb128 ⟨by decide, by decide⟩ rfl hl.1 rfl (Nat.le_of_ble_eq_true rfl) dX7_init_82 ⟨(by rw [hRc.1]; decide), (by rw [hRc.2]; decide)⟩) (fun H locs hh => ?_)
  have hh := cH_mono (P2 := (PS 38)) hh (by intro kd j hp; exact (PS_step (PC := (Pq (Pq (Pq (Pq (fun _ _ => False) 7 4) 8 4) 9 4) 6 4)) 34 38 (by intro v h1 h2 h3 h4 h5; rcases (show v = 34 ∨ v = 35 ∨ v = 36 ∨ v = 37 by omega) with rfl | rfl | rfl | rfl <;> first | exact absurd rfl h3 | exact absurd rfl h4 | exact absurd rfl h5 | (unfold Pq; simp [invC])) kd j hp).imp (fun h => PS_le (by decide) h) id)
  have hh : cH D (adX b) cs (PS 38) [(b, .inr (6, [.ref (adX b 1 0), .ref (adX b 5 0), .int 1, .null, .null, .null, .int 0, .ref (adX b 18 0), .ref (adX b 26 0), .ref (adX b 29 0)])), ((adX b 5 0), .inl (cs 2, 6, .inr (.inr (.inr (.inr (va_up (va_up (va_up (va_up (fun _ => none) (0 : Int32).toNatClampNeg (some (adX b 6 0))) (1 : Int32).toNatClampNeg (some (adX b 6 1))) (2 : Int32).toNatClampNeg (some (adX b 6 2))) (3 : Int32).toNatClampNeg (some (adX b 6 3)))))))), ((adX b 29 0), .inl (cs 3, 4, .inr (.inr (.inr (.inr (fun _ => none))))))] (fun q => b ≤ q) s.heap S0 H locs (b + 38) := hh
  refine c_aast (q0 := 1) (t := 2) (n := 6) (kd := 6) (i := 4) (ci := 2) (r := (RX3, TX3, 4)) (g := (va_up (va_up (va_up (va_up (fun _ => none) (0 : Int32).toNatClampNeg (some (adX b 6 0))) (1 : Int32).toNatClampNeg (some (adX b 6 1))) (2 : Int32).toNatClampNeg (some (adX b 6 2))) (3 : Int32).toNatClampNeg (some (adX b 6 3)))) (j := 4) E (show b ≤ adX b 5 0 from Nat.le_add_right _ _) hh rfl rfl (show PS 38 6 4 from ⟨(by decide : 4 < cnL 6), by decide, by decide, by decide, (by decide : offC 6 4 < 38)⟩) rfl rfl (by unfold vp_in; decide) dX7_init_85 (fun H locs hh => ?_)
  have hh : cH D (adX b) cs (PS 38) [(b, .inr (6, [.ref (adX b 1 0), .ref (adX b 5 0), .int 1, .null, .null, .null, .int 0, .ref (adX b 18 0), .ref (adX b 26 0), .ref (adX b 29 0)])), ((adX b 5 0), .inl (cs 2, 6, .inr (.inr (.inr (.inr (va_up (va_up (va_up (va_up (va_up (fun _ => none) (0 : Int32).toNatClampNeg (some (adX b 6 0))) (1 : Int32).toNatClampNeg (some (adX b 6 1))) (2 : Int32).toNatClampNeg (some (adX b 6 2))) (3 : Int32).toNatClampNeg (some (adX b 6 3))) (4 : Int32).toNatClampNeg (some (adX b 6 4)))))))), ((adX b 29 0), .inl (cs 3, 4, .inr (.inr (.inr (.inr (fun _ => none))))))] (fun q => b ≤ q) s.heap S0 H locs (b + 38) := hh
  refine lv_iinc (k := 0) (v := 5) (lv' := [(1, .int 5), (0, .ref b)]) hx hb dX7_init_86 hl rfl (by decide) (by decide) rfl (fun ls hl => ?_)
  refine lv_goto (tgt := 66) hx hb dX7_init_89 (by decide) ?_
  refine lv_iload_n hx hb dX7_init_66 rfl (lv_at hl 0 rfl) ?_
  refine lv_bipush (v := 6) hx hb dX7_init_67 (by decide) ?_
  refine lv_icmp_ge (tgt := 92) hx hb dX7_init_69 (by decide) (fun c1 => absurd c1 (by decide)) (fun _ => ?_)
  refine lv_aload_n hx hb dX7_init_72 rfl (lv_at hl 1 rfl) ?_
  refine c_get (ci := 6) (k := 1) (q0 := 0) (C := RX7) (T := TX7) (N := 10) E hh rfl rfl inX7 (by decide) rfl tb371 dX7_init_73 ?_
  refine lv_iload_n hx hb dX7_init_76 rfl (lv_at hl 0 rfl) ?_
  refine c_new (ci := 2) (C := RX3) (T := TX3) (N := 4) (ty0 := tyX3) (fs := [.int 0, .null, .null, .null]) E hh rfl inX3 tyX3_ok tb66 tb127 tb5 (fun j hj => by match j, hj with | 0, _ => rfl | 1, _ => rfl | 2, _ => rfl | 3, _ => rfl) (by rw [hRc.1]; decide) (by rw [hRc.2]; decide) dX7_init_77 (fun H hh => ?_)
  refine lv_dup hx hb dX7_init_80 rfl ?_
  refine lv_iload_n hx hb dX7_init_81 rfl (lv_at hl 0 rfl) ?_
  have hh := cH_sub (ws1 := [((adX b 6 5), .inr (2, [.int 0, .null, .null, .null])), (b, .inr (6, [.ref (adX b 1 0), .ref (adX b 5 0), .int 1, .null, .null, .null, .int 0, .ref (adX b 18 0), .ref (adX b 26 0), .ref (adX b 29 0)])), ((adX b 5 0), .inl (cs 2, 6, .inr (.inr (.inr (.inr (va_up (va_up (va_up (va_up (va_up (fun _ => none) (0 : Int32).toNatClampNeg (some (adX b 6 0))) (1 : Int32).toNatClampNeg (some (adX b 6 1))) (2 : Int32).toNatClampNeg (some (adX b 6 2))) (3 : Int32).toNatClampNeg (some (adX b 6 3))) (4 : Int32).toNatClampNeg (some (adX b 6 4)))))))), ((adX b 29 0), .inl (cs 3, 4, .inr (.inr (.inr (.inr (fun _ => none))))))]) hh [3, 0, 1, 2] (by decide) rfl
  have hh : cH D (adX b) cs (PS 38) [((adX b 6 5), .inr (2, [.int 0, .null, .null, .null])), (b, .inr (6, [.ref (adX b 1 0), .ref (adX b 5 0), .int 1, .null, .null, .null, .int 0, .ref (adX b 18 0), .ref (adX b 26 0), .ref (adX b 29 0)])), ((adX b 5 0), .inl (cs 2, 6, .inr (.inr (.inr (.inr (va_up (va_up (va_up (va_up (va_up (fun _ => none) (0 : Int32).toNatClampNeg (some (adX b 6 0))) (1 : Int32).toNatClampNeg (some (adX b 6 1))) (2 : Int32).toNatClampNeg (some (adX b 6 2))) (3 : Int32).toNatClampNeg (some (adX b 6 3))) (4 : Int32).toNatClampNeg (some (adX b 6 4)))))))), ((adX b 29 0), .inl (cs 3, 4, .inr (.inr (.inr (.inr (fun _ => none))))))] (fun q => b ≤ q) s.heap S0 H locs ((adX b 6 5) + 1) := hh
  refine c_sub (a := (adX b 6 5)) (fun q hq => Nat.le_trans (show b ≤ (adX b 6 5) from Nat.le_add_right _ _) hq) (iX3_ge b 5) hh (c_runI (As := [.int (nI 5)]) (rest := [.ref (adX b 6 5), .int 5, .ref (adX b 5 0)]) (X := fun _ => True) E (fun q hq => Nat.le_trans (show b ≤ (adX b 6 5) from Nat.le_add_right _ _) hq) (fun _ _ _ _ q => q) (fun _ _ => trivial) hh (iX3 b 5) kX3_init tb128 ⟨by decide, by decide⟩ rfl hl.1 rfl (Nat.le_of_ble_eq_true rfl) dX7_init_82 ⟨(by rw [hRc.1]; decide), (by rw [hRc.2]; decide)⟩) (fun H locs hh => ?_)
  have hh := cH_mono (P2 := (PS 42)) hh (by intro kd j hp; exact (PS_step (PC := (Pq (Pq (Pq (Pq (fun _ _ => False) 7 5) 8 5) 9 5) 6 5)) 38 42 (by intro v h1 h2 h3 h4 h5; rcases (show v = 38 ∨ v = 39 ∨ v = 40 ∨ v = 41 by omega) with rfl | rfl | rfl | rfl <;> first | exact absurd rfl h3 | exact absurd rfl h4 | exact absurd rfl h5 | (unfold Pq; simp [invC])) kd j hp).imp (fun h => PS_le (by decide) h) id)
  have hh : cH D (adX b) cs (PS 42) [(b, .inr (6, [.ref (adX b 1 0), .ref (adX b 5 0), .int 1, .null, .null, .null, .int 0, .ref (adX b 18 0), .ref (adX b 26 0), .ref (adX b 29 0)])), ((adX b 5 0), .inl (cs 2, 6, .inr (.inr (.inr (.inr (va_up (va_up (va_up (va_up (va_up (fun _ => none) (0 : Int32).toNatClampNeg (some (adX b 6 0))) (1 : Int32).toNatClampNeg (some (adX b 6 1))) (2 : Int32).toNatClampNeg (some (adX b 6 2))) (3 : Int32).toNatClampNeg (some (adX b 6 3))) (4 : Int32).toNatClampNeg (some (adX b 6 4)))))))), ((adX b 29 0), .inl (cs 3, 4, .inr (.inr (.inr (.inr (fun _ => none))))))] (fun q => b ≤ q) s.heap S0 H locs (b + 42) := hh
  refine c_aast (q0 := 1) (t := 2) (n := 6) (kd := 6) (i := 5) (ci := 2) (r := (RX3, TX3, 4)) (g := (va_up (va_up (va_up (va_up (va_up (fun _ => none) (0 : Int32).toNatClampNeg (some (adX b 6 0))) (1 : Int32).toNatClampNeg (some (adX b 6 1))) (2 : Int32).toNatClampNeg (some (adX b 6 2))) (3 : Int32).toNatClampNeg (some (adX b 6 3))) (4 : Int32).toNatClampNeg (some (adX b 6 4)))) (j := 5) E (show b ≤ adX b 5 0 from Nat.le_add_right _ _) hh rfl rfl (show PS 42 6 5 from ⟨(by decide : 5 < cnL 6), by decide, by decide, by decide, (by decide : offC 6 5 < 42)⟩) rfl rfl (by unfold vp_in; decide) dX7_init_85 (fun H locs hh => ?_)
  have hh : cH D (adX b) cs (PS 42) [(b, .inr (6, [.ref (adX b 1 0), .ref (adX b 5 0), .int 1, .null, .null, .null, .int 0, .ref (adX b 18 0), .ref (adX b 26 0), .ref (adX b 29 0)])), ((adX b 5 0), .inl (cs 2, 6, .inr (.inr (.inr (.inr (va_up (va_up (va_up (va_up (va_up (va_up (fun _ => none) (0 : Int32).toNatClampNeg (some (adX b 6 0))) (1 : Int32).toNatClampNeg (some (adX b 6 1))) (2 : Int32).toNatClampNeg (some (adX b 6 2))) (3 : Int32).toNatClampNeg (some (adX b 6 3))) (4 : Int32).toNatClampNeg (some (adX b 6 4))) (5 : Int32).toNatClampNeg (some (adX b 6 5)))))))), ((adX b 29 0), .inl (cs 3, 4, .inr (.inr (.inr (.inr (fun _ => none))))))] (fun q => b ≤ q) s.heap S0 H locs (b + 42) := hh
  refine lv_iinc (k := 0) (v := 6) (lv' := [(1, .int 6), (0, .ref b)]) hx hb dX7_init_86 hl rfl (by decide) (by decide) rfl (fun ls hl => ?_)
  refine lv_goto (tgt := 66) hx hb dX7_init_89 (by decide) ?_
  refine lv_iload_n hx hb dX7_init_66 rfl (lv_at hl 0 rfl) ?_
  refine lv_bipush (v := 6) hx hb dX7_init_67 (by decide) ?_
  refine lv_icmp_ge (tgt := 92) hx hb dX7_init_69 (by decide) (fun _ => ?_) (fun c1 => absurd (by decide) c1)
  refine lv_iconst (v := 0) hx hb dX7_init_92 (by decide) ?_
  refine lv_istore_n (lv' := [(1, .int 0), (0, .ref b)]) hx hb dX7_init_93 rfl hl (by decide) rfl (fun ls hl => ?_)
  refine lv_iload_n hx hb dX7_init_94 rfl (lv_at hl 0 rfl) ?_
  refine lv_iconst (v := 4) hx hb dX7_init_95 (by decide) ?_
  refine lv_icmp_ge (tgt := 118) hx hb dX7_init_96 (by decide) (fun c1 => absurd c1 (by decide)) (fun _ => ?_)
  refine lv_aload_n hx hb dX7_init_99 rfl (lv_at hl 1 rfl) ?_
  refine c_get (ci := 6) (k := 9) (q0 := 0) (C := RX7) (T := TX7) (N := 10) E hh rfl rfl inX7 (by decide) rfl tb379 dX7_init_100 ?_
  refine lv_iload_n hx hb dX7_init_103 rfl (lv_at hl 0 rfl) ?_
  refine c_new (ci := 3) (C := RX4) (T := TX4) (N := 3) (ty0 := tyX4) (fs := [.int 0, .int 0, .null]) E hh rfl inX4 tyX4_ok tb125 tb146 tb6 (fun j hj => by match j, hj with | 0, _ => rfl | 1, _ => rfl | 2, _ => rfl) (by rw [hRc.1]; decide) (by rw [hRc.2]; decide) dX7_init_104 (fun H hh => ?_)
  refine lv_dup hx hb dX7_init_107 rfl ?_
  have hh := cH_sub (ws1 := [((adX b 30 0), .inr (3, [.int 0, .int 0, .null])), (b, .inr (6, [.ref (adX b 1 0), .ref (adX b 5 0), .int 1, .null, .null, .null, .int 0, .ref (adX b 18 0), .ref (adX b 26 0), .ref (adX b 29 0)])), ((adX b 5 0), .inl (cs 2, 6, .inr (.inr (.inr (.inr (va_up (va_up (va_up (va_up (va_up (va_up (fun _ => none) (0 : Int32).toNatClampNeg (some (adX b 6 0))) (1 : Int32).toNatClampNeg (some (adX b 6 1))) (2 : Int32).toNatClampNeg (some (adX b 6 2))) (3 : Int32).toNatClampNeg (some (adX b 6 3))) (4 : Int32).toNatClampNeg (some (adX b 6 4))) (5 : Int32).toNatClampNeg (some (adX b 6 5)))))))), ((adX b 29 0), .inl (cs 3, 4, .inr (.inr (.inr (.inr (fun _ => none))))))]) hh [3, 0, 1, 2] (by decide) rfl
  have hh : cH D (adX b) cs (PS 42) [((adX b 30 0), .inr (3, [.int 0, .int 0, .null])), (b, .inr (6, [.ref (adX b 1 0), .ref (adX b 5 0), .int 1, .null, .null, .null, .int 0, .ref (adX b 18 0), .ref (adX b 26 0), .ref (adX b 29 0)])), ((adX b 5 0), .inl (cs 2, 6, .inr (.inr (.inr (.inr (va_up (va_up (va_up (va_up (va_up (va_up (fun _ => none) (0 : Int32).toNatClampNeg (some (adX b 6 0))) (1 : Int32).toNatClampNeg (some (adX b 6 1))) (2 : Int32).toNatClampNeg (some (adX b 6 2))) (3 : Int32).toNatClampNeg (some (adX b 6 3))) (4 : Int32).toNatClampNeg (some (adX b 6 4))) (5 : Int32).toNatClampNeg (some (adX b 6 5)))))))), ((adX b 29 0), .inl (cs 3, 4, .inr (.inr (.inr (.inr (fun _ => none))))))] (fun q => b ≤ q) s.heap S0 H locs ((adX b 30 0) + 1) := hh
  refine c_sub (a := (adX b 30 0)) (fun q hq => Nat.le_trans (show b ≤ (adX b 30 0) from Nat.le_add_right _ _) hq) (iX4_ge b 0) hh (c_runIN (host := "RefusedMayAsk") (As := []) (rest := [.ref (adX b 30 0), .int 0, .ref (adX b 29 0)]) (X := fun _ => True) E (fun q hq => Nat.le_trans (show b ≤ (adX b 30 0) from Nat.le_add_right _ _) hq) (fun _ _ _ _ q => q) (fun _ _ => trivial) hh (iX4 b 0) kX4_init hX.2.2.2.1 ⟨by decide, by decide⟩ rfl hl.1 rfl (Nat.le_of_ble_eq_true rfl) dX7_init_108 ⟨(by rw [hRc.1]; decide), (by rw [hRc.2]; decide)⟩) (fun H locs hh => ?_)
  have hh := cH_mono (P2 := (PS 44)) hh (by intro kd j hp; exact (PS_step (PC := (Pq (Pq (fun _ _ => False) 31 0) 30 0)) 42 44 (by intro v h1 h2 h3 h4 h5; rcases (show v = 42 ∨ v = 43 by omega) with rfl | rfl <;> first | exact absurd rfl h3 | exact absurd rfl h4 | exact absurd rfl h5 | (unfold Pq; simp [invC])) kd j hp).imp (fun h => PS_le (by decide) h) id)
  have hh : cH D (adX b) cs (PS 44) [(b, .inr (6, [.ref (adX b 1 0), .ref (adX b 5 0), .int 1, .null, .null, .null, .int 0, .ref (adX b 18 0), .ref (adX b 26 0), .ref (adX b 29 0)])), ((adX b 5 0), .inl (cs 2, 6, .inr (.inr (.inr (.inr (va_up (va_up (va_up (va_up (va_up (va_up (fun _ => none) (0 : Int32).toNatClampNeg (some (adX b 6 0))) (1 : Int32).toNatClampNeg (some (adX b 6 1))) (2 : Int32).toNatClampNeg (some (adX b 6 2))) (3 : Int32).toNatClampNeg (some (adX b 6 3))) (4 : Int32).toNatClampNeg (some (adX b 6 4))) (5 : Int32).toNatClampNeg (some (adX b 6 5)))))))), ((adX b 29 0), .inl (cs 3, 4, .inr (.inr (.inr (.inr (fun _ => none))))))] (fun q => b ≤ q) s.heap S0 H locs (b + 44) := hh
  refine c_aast (q0 := 2) (t := 3) (n := 4) (kd := 30) (i := 0) (ci := 3) (r := (RX4, TX4, 3)) (g := (fun _ => none)) (j := 0) E (show b ≤ adX b 29 0 from Nat.le_add_right _ _) hh rfl rfl (show PS 44 30 0 from ⟨(by decide : 0 < cnL 30), by decide, by decide, by decide, (by decide : offC 30 0 < 44)⟩) rfl rfl (by unfold vp_in; decide) dX7_init_111 (fun H locs hh => ?_)
  have hh : cH D (adX b) cs (PS 44) [(b, .inr (6, [.ref (adX b 1 0), .ref (adX b 5 0), .int 1, .null, .null, .null, .int 0, .ref (adX b 18 0), .ref (adX b 26 0), .ref (adX b 29 0)])), ((adX b 5 0), .inl (cs 2, 6, .inr (.inr (.inr (.inr (va_up (va_up (va_up (va_up (va_up (va_up (fun _ => none) (0 : Int32).toNatClampNeg (some (adX b 6 0))) (1 : Int32).toNatClampNeg (some (adX b 6 1))) (2 : Int32).toNatClampNeg (some (adX b 6 2))) (3 : Int32).toNatClampNeg (some (adX b 6 3))) (4 : Int32).toNatClampNeg (some (adX b 6 4))) (5 : Int32).toNatClampNeg (some (adX b 6 5)))))))), ((adX b 29 0), .inl (cs 3, 4, .inr (.inr (.inr (.inr (va_up (fun _ => none) (0 : Int32).toNatClampNeg (some (adX b 30 0))))))))] (fun q => b ≤ q) s.heap S0 H locs (b + 44) := hh
  refine lv_iinc (k := 0) (v := 1) (lv' := [(1, .int 1), (0, .ref b)]) hx hb dX7_init_112 hl rfl (by decide) (by decide) rfl (fun ls hl => ?_)
  refine lv_goto (tgt := 94) hx hb dX7_init_115 (by decide) ?_
  refine lv_iload_n hx hb dX7_init_94 rfl (lv_at hl 0 rfl) ?_
  refine lv_iconst (v := 4) hx hb dX7_init_95 (by decide) ?_
  refine lv_icmp_ge (tgt := 118) hx hb dX7_init_96 (by decide) (fun c1 => absurd c1 (by decide)) (fun _ => ?_)
  refine lv_aload_n hx hb dX7_init_99 rfl (lv_at hl 1 rfl) ?_
  refine c_get (ci := 6) (k := 9) (q0 := 0) (C := RX7) (T := TX7) (N := 10) E hh rfl rfl inX7 (by decide) rfl tb379 dX7_init_100 ?_
  refine lv_iload_n hx hb dX7_init_103 rfl (lv_at hl 0 rfl) ?_
  refine c_new (ci := 3) (C := RX4) (T := TX4) (N := 3) (ty0 := tyX4) (fs := [.int 0, .int 0, .null]) E hh rfl inX4 tyX4_ok tb125 tb146 tb6 (fun j hj => by match j, hj with | 0, _ => rfl | 1, _ => rfl | 2, _ => rfl) (by rw [hRc.1]; decide) (by rw [hRc.2]; decide) dX7_init_104 (fun H hh => ?_)
  refine lv_dup hx hb dX7_init_107 rfl ?_
  have hh := cH_sub (ws1 := [((adX b 30 1), .inr (3, [.int 0, .int 0, .null])), (b, .inr (6, [.ref (adX b 1 0), .ref (adX b 5 0), .int 1, .null, .null, .null, .int 0, .ref (adX b 18 0), .ref (adX b 26 0), .ref (adX b 29 0)])), ((adX b 5 0), .inl (cs 2, 6, .inr (.inr (.inr (.inr (va_up (va_up (va_up (va_up (va_up (va_up (fun _ => none) (0 : Int32).toNatClampNeg (some (adX b 6 0))) (1 : Int32).toNatClampNeg (some (adX b 6 1))) (2 : Int32).toNatClampNeg (some (adX b 6 2))) (3 : Int32).toNatClampNeg (some (adX b 6 3))) (4 : Int32).toNatClampNeg (some (adX b 6 4))) (5 : Int32).toNatClampNeg (some (adX b 6 5)))))))), ((adX b 29 0), .inl (cs 3, 4, .inr (.inr (.inr (.inr (va_up (fun _ => none) (0 : Int32).toNatClampNeg (some (adX b 30 0))))))))]) hh [3, 0, 1, 2] (by decide) rfl
  have hh : cH D (adX b) cs (PS 44) [((adX b 30 1), .inr (3, [.int 0, .int 0, .null])), (b, .inr (6, [.ref (adX b 1 0), .ref (adX b 5 0), .int 1, .null, .null, .null, .int 0, .ref (adX b 18 0), .ref (adX b 26 0), .ref (adX b 29 0)])), ((adX b 5 0), .inl (cs 2, 6, .inr (.inr (.inr (.inr (va_up (va_up (va_up (va_up (va_up (va_up (fun _ => none) (0 : Int32).toNatClampNeg (some (adX b 6 0))) (1 : Int32).toNatClampNeg (some (adX b 6 1))) (2 : Int32).toNatClampNeg (some (adX b 6 2))) (3 : Int32).toNatClampNeg (some (adX b 6 3))) (4 : Int32).toNatClampNeg (some (adX b 6 4))) (5 : Int32).toNatClampNeg (some (adX b 6 5)))))))), ((adX b 29 0), .inl (cs 3, 4, .inr (.inr (.inr (.inr (va_up (fun _ => none) (0 : Int32).toNatClampNeg (some (adX b 30 0))))))))] (fun q => b ≤ q) s.heap S0 H locs ((adX b 30 1) + 1) := hh
  refine c_sub (a := (adX b 30 1)) (fun q hq => Nat.le_trans (show b ≤ (adX b 30 1) from Nat.le_add_right _ _) hq) (iX4_ge b 1) hh (c_runIN (host := "RefusedMayAsk") (As := []) (rest := [.ref (adX b 30 1), .int 1, .ref (adX b 29 0)]) (X := fun _ => True) E (fun q hq => Nat.le_trans (show b ≤ (adX b 30 1) from Nat.le_add_right _ _) hq) (fun _ _ _ _ q => q) (fun _ _ => trivial) hh (iX4 b 1) kX4_init hX.2.2.2.1 ⟨by decide, by decide⟩ rfl hl.1 rfl (Nat.le_of_ble_eq_true rfl) dX7_init_108 ⟨(by rw [hRc.1]; decide), (by rw [hRc.2]; decide)⟩) (fun H locs hh => ?_)
  have hh := cH_mono (P2 := (PS 46)) hh (by intro kd j hp; exact (PS_step (PC := (Pq (Pq (fun _ _ => False) 31 1) 30 1)) 44 46 (by intro v h1 h2 h3 h4 h5; rcases (show v = 44 ∨ v = 45 by omega) with rfl | rfl <;> first | exact absurd rfl h3 | exact absurd rfl h4 | exact absurd rfl h5 | (unfold Pq; simp [invC])) kd j hp).imp (fun h => PS_le (by decide) h) id)
  have hh : cH D (adX b) cs (PS 46) [(b, .inr (6, [.ref (adX b 1 0), .ref (adX b 5 0), .int 1, .null, .null, .null, .int 0, .ref (adX b 18 0), .ref (adX b 26 0), .ref (adX b 29 0)])), ((adX b 5 0), .inl (cs 2, 6, .inr (.inr (.inr (.inr (va_up (va_up (va_up (va_up (va_up (va_up (fun _ => none) (0 : Int32).toNatClampNeg (some (adX b 6 0))) (1 : Int32).toNatClampNeg (some (adX b 6 1))) (2 : Int32).toNatClampNeg (some (adX b 6 2))) (3 : Int32).toNatClampNeg (some (adX b 6 3))) (4 : Int32).toNatClampNeg (some (adX b 6 4))) (5 : Int32).toNatClampNeg (some (adX b 6 5)))))))), ((adX b 29 0), .inl (cs 3, 4, .inr (.inr (.inr (.inr (va_up (fun _ => none) (0 : Int32).toNatClampNeg (some (adX b 30 0))))))))] (fun q => b ≤ q) s.heap S0 H locs (b + 46) := hh
  refine c_aast (q0 := 2) (t := 3) (n := 4) (kd := 30) (i := 1) (ci := 3) (r := (RX4, TX4, 3)) (g := (va_up (fun _ => none) (0 : Int32).toNatClampNeg (some (adX b 30 0)))) (j := 1) E (show b ≤ adX b 29 0 from Nat.le_add_right _ _) hh rfl rfl (show PS 46 30 1 from ⟨(by decide : 1 < cnL 30), by decide, by decide, by decide, (by decide : offC 30 1 < 46)⟩) rfl rfl (by unfold vp_in; decide) dX7_init_111 (fun H locs hh => ?_)
  have hh : cH D (adX b) cs (PS 46) [(b, .inr (6, [.ref (adX b 1 0), .ref (adX b 5 0), .int 1, .null, .null, .null, .int 0, .ref (adX b 18 0), .ref (adX b 26 0), .ref (adX b 29 0)])), ((adX b 5 0), .inl (cs 2, 6, .inr (.inr (.inr (.inr (va_up (va_up (va_up (va_up (va_up (va_up (fun _ => none) (0 : Int32).toNatClampNeg (some (adX b 6 0))) (1 : Int32).toNatClampNeg (some (adX b 6 1))) (2 : Int32).toNatClampNeg (some (adX b 6 2))) (3 : Int32).toNatClampNeg (some (adX b 6 3))) (4 : Int32).toNatClampNeg (some (adX b 6 4))) (5 : Int32).toNatClampNeg (some (adX b 6 5)))))))), ((adX b 29 0), .inl (cs 3, 4, .inr (.inr (.inr (.inr (va_up (va_up (fun _ => none) (0 : Int32).toNatClampNeg (some (adX b 30 0))) (1 : Int32).toNatClampNeg (some (adX b 30 1))))))))] (fun q => b ≤ q) s.heap S0 H locs (b + 46) := hh
  refine lv_iinc (k := 0) (v := 2) (lv' := [(1, .int 2), (0, .ref b)]) hx hb dX7_init_112 hl rfl (by decide) (by decide) rfl (fun ls hl => ?_)
  refine lv_goto (tgt := 94) hx hb dX7_init_115 (by decide) ?_
  refine lv_iload_n hx hb dX7_init_94 rfl (lv_at hl 0 rfl) ?_
  refine lv_iconst (v := 4) hx hb dX7_init_95 (by decide) ?_
  refine lv_icmp_ge (tgt := 118) hx hb dX7_init_96 (by decide) (fun c1 => absurd c1 (by decide)) (fun _ => ?_)
  refine lv_aload_n hx hb dX7_init_99 rfl (lv_at hl 1 rfl) ?_
  refine c_get (ci := 6) (k := 9) (q0 := 0) (C := RX7) (T := TX7) (N := 10) E hh rfl rfl inX7 (by decide) rfl tb379 dX7_init_100 ?_
  refine lv_iload_n hx hb dX7_init_103 rfl (lv_at hl 0 rfl) ?_
  refine c_new (ci := 3) (C := RX4) (T := TX4) (N := 3) (ty0 := tyX4) (fs := [.int 0, .int 0, .null]) E hh rfl inX4 tyX4_ok tb125 tb146 tb6 (fun j hj => by match j, hj with | 0, _ => rfl | 1, _ => rfl | 2, _ => rfl) (by rw [hRc.1]; decide) (by rw [hRc.2]; decide) dX7_init_104 (fun H hh => ?_)
  refine lv_dup hx hb dX7_init_107 rfl ?_
  have hh := cH_sub (ws1 := [((adX b 30 2), .inr (3, [.int 0, .int 0, .null])), (b, .inr (6, [.ref (adX b 1 0), .ref (adX b 5 0), .int 1, .null, .null, .null, .int 0, .ref (adX b 18 0), .ref (adX b 26 0), .ref (adX b 29 0)])), ((adX b 5 0), .inl (cs 2, 6, .inr (.inr (.inr (.inr (va_up (va_up (va_up (va_up (va_up (va_up (fun _ => none) (0 : Int32).toNatClampNeg (some (adX b 6 0))) (1 : Int32).toNatClampNeg (some (adX b 6 1))) (2 : Int32).toNatClampNeg (some (adX b 6 2))) (3 : Int32).toNatClampNeg (some (adX b 6 3))) (4 : Int32).toNatClampNeg (some (adX b 6 4))) (5 : Int32).toNatClampNeg (some (adX b 6 5)))))))), ((adX b 29 0), .inl (cs 3, 4, .inr (.inr (.inr (.inr (va_up (va_up (fun _ => none) (0 : Int32).toNatClampNeg (some (adX b 30 0))) (1 : Int32).toNatClampNeg (some (adX b 30 1))))))))]) hh [3, 0, 1, 2] (by decide) rfl
  have hh : cH D (adX b) cs (PS 46) [((adX b 30 2), .inr (3, [.int 0, .int 0, .null])), (b, .inr (6, [.ref (adX b 1 0), .ref (adX b 5 0), .int 1, .null, .null, .null, .int 0, .ref (adX b 18 0), .ref (adX b 26 0), .ref (adX b 29 0)])), ((adX b 5 0), .inl (cs 2, 6, .inr (.inr (.inr (.inr (va_up (va_up (va_up (va_up (va_up (va_up (fun _ => none) (0 : Int32).toNatClampNeg (some (adX b 6 0))) (1 : Int32).toNatClampNeg (some (adX b 6 1))) (2 : Int32).toNatClampNeg (some (adX b 6 2))) (3 : Int32).toNatClampNeg (some (adX b 6 3))) (4 : Int32).toNatClampNeg (some (adX b 6 4))) (5 : Int32).toNatClampNeg (some (adX b 6 5)))))))), ((adX b 29 0), .inl (cs 3, 4, .inr (.inr (.inr (.inr (va_up (va_up (fun _ => none) (0 : Int32).toNatClampNeg (some (adX b 30 0))) (1 : Int32).toNatClampNeg (some (adX b 30 1))))))))] (fun q => b ≤ q) s.heap S0 H locs ((adX b 30 2) + 1) := hh
  refine c_sub (a := (adX b 30 2)) (fun q hq => Nat.le_trans (show b ≤ (adX b 30 2) from Nat.le_add_right _ _) hq) (iX4_ge b 2) hh (c_runIN (host := "RefusedMayAsk") (As := []) (rest := [.ref (adX b 30 2), .int 2, .ref (adX b 29 0)]) (X := fun _ => True) E (fun q hq => Nat.le_trans (show b ≤ (adX b 30 2) from Nat.le_add_right _ _) hq) (fun _ _ _ _ q => q) (fun _ _ => trivial) hh (iX4 b 2) kX4_init hX.2.2.2.1 ⟨by decide, by decide⟩ rfl hl.1 rfl (Nat.le_of_ble_eq_true rfl) dX7_init_108 ⟨(by rw [hRc.1]; decide), (by rw [hRc.2]; decide)⟩) (fun H locs hh => ?_)
  have hh := cH_mono (P2 := (PS 48)) hh (by intro kd j hp; exact (PS_step (PC := (Pq (Pq (fun _ _ => False) 31 2) 30 2)) 46 48 (by intro v h1 h2 h3 h4 h5; rcases (show v = 46 ∨ v = 47 by omega) with rfl | rfl <;> first | exact absurd rfl h3 | exact absurd rfl h4 | exact absurd rfl h5 | (unfold Pq; simp [invC])) kd j hp).imp (fun h => PS_le (by decide) h) id)
  have hh : cH D (adX b) cs (PS 48) [(b, .inr (6, [.ref (adX b 1 0), .ref (adX b 5 0), .int 1, .null, .null, .null, .int 0, .ref (adX b 18 0), .ref (adX b 26 0), .ref (adX b 29 0)])), ((adX b 5 0), .inl (cs 2, 6, .inr (.inr (.inr (.inr (va_up (va_up (va_up (va_up (va_up (va_up (fun _ => none) (0 : Int32).toNatClampNeg (some (adX b 6 0))) (1 : Int32).toNatClampNeg (some (adX b 6 1))) (2 : Int32).toNatClampNeg (some (adX b 6 2))) (3 : Int32).toNatClampNeg (some (adX b 6 3))) (4 : Int32).toNatClampNeg (some (adX b 6 4))) (5 : Int32).toNatClampNeg (some (adX b 6 5)))))))), ((adX b 29 0), .inl (cs 3, 4, .inr (.inr (.inr (.inr (va_up (va_up (fun _ => none) (0 : Int32).toNatClampNeg (some (adX b 30 0))) (1 : Int32).toNatClampNeg (some (adX b 30 1))))))))] (fun q => b ≤ q) s.heap S0 H locs (b + 48) := hh
  refine c_aast (q0 := 2) (t := 3) (n := 4) (kd := 30) (i := 2) (ci := 3) (r := (RX4, TX4, 3)) (g := (va_up (va_up (fun _ => none) (0 : Int32).toNatClampNeg (some (adX b 30 0))) (1 : Int32).toNatClampNeg (some (adX b 30 1)))) (j := 2) E (show b ≤ adX b 29 0 from Nat.le_add_right _ _) hh rfl rfl (show PS 48 30 2 from ⟨(by decide : 2 < cnL 30), by decide, by decide, by decide, (by decide : offC 30 2 < 48)⟩) rfl rfl (by unfold vp_in; decide) dX7_init_111 (fun H locs hh => ?_)
  have hh : cH D (adX b) cs (PS 48) [(b, .inr (6, [.ref (adX b 1 0), .ref (adX b 5 0), .int 1, .null, .null, .null, .int 0, .ref (adX b 18 0), .ref (adX b 26 0), .ref (adX b 29 0)])), ((adX b 5 0), .inl (cs 2, 6, .inr (.inr (.inr (.inr (va_up (va_up (va_up (va_up (va_up (va_up (fun _ => none) (0 : Int32).toNatClampNeg (some (adX b 6 0))) (1 : Int32).toNatClampNeg (some (adX b 6 1))) (2 : Int32).toNatClampNeg (some (adX b 6 2))) (3 : Int32).toNatClampNeg (some (adX b 6 3))) (4 : Int32).toNatClampNeg (some (adX b 6 4))) (5 : Int32).toNatClampNeg (some (adX b 6 5)))))))), ((adX b 29 0), .inl (cs 3, 4, .inr (.inr (.inr (.inr (va_up (va_up (va_up (fun _ => none) (0 : Int32).toNatClampNeg (some (adX b 30 0))) (1 : Int32).toNatClampNeg (some (adX b 30 1))) (2 : Int32).toNatClampNeg (some (adX b 30 2))))))))] (fun q => b ≤ q) s.heap S0 H locs (b + 48) := hh
  refine lv_iinc (k := 0) (v := 3) (lv' := [(1, .int 3), (0, .ref b)]) hx hb dX7_init_112 hl rfl (by decide) (by decide) rfl (fun ls hl => ?_)
  refine lv_goto (tgt := 94) hx hb dX7_init_115 (by decide) ?_
  refine lv_iload_n hx hb dX7_init_94 rfl (lv_at hl 0 rfl) ?_
  refine lv_iconst (v := 4) hx hb dX7_init_95 (by decide) ?_
  refine lv_icmp_ge (tgt := 118) hx hb dX7_init_96 (by decide) (fun c1 => absurd c1 (by decide)) (fun _ => ?_)
  refine lv_aload_n hx hb dX7_init_99 rfl (lv_at hl 1 rfl) ?_
  refine c_get (ci := 6) (k := 9) (q0 := 0) (C := RX7) (T := TX7) (N := 10) E hh rfl rfl inX7 (by decide) rfl tb379 dX7_init_100 ?_
  refine lv_iload_n hx hb dX7_init_103 rfl (lv_at hl 0 rfl) ?_
  refine c_new (ci := 3) (C := RX4) (T := TX4) (N := 3) (ty0 := tyX4) (fs := [.int 0, .int 0, .null]) E hh rfl inX4 tyX4_ok tb125 tb146 tb6 (fun j hj => by match j, hj with | 0, _ => rfl | 1, _ => rfl | 2, _ => rfl) (by rw [hRc.1]; decide) (by rw [hRc.2]; decide) dX7_init_104 (fun H hh => ?_)
  refine lv_dup hx hb dX7_init_107 rfl ?_
  have hh := cH_sub (ws1 := [((adX b 30 3), .inr (3, [.int 0, .int 0, .null])), (b, .inr (6, [.ref (adX b 1 0), .ref (adX b 5 0), .int 1, .null, .null, .null, .int 0, .ref (adX b 18 0), .ref (adX b 26 0), .ref (adX b 29 0)])), ((adX b 5 0), .inl (cs 2, 6, .inr (.inr (.inr (.inr (va_up (va_up (va_up (va_up (va_up (va_up (fun _ => none) (0 : Int32).toNatClampNeg (some (adX b 6 0))) (1 : Int32).toNatClampNeg (some (adX b 6 1))) (2 : Int32).toNatClampNeg (some (adX b 6 2))) (3 : Int32).toNatClampNeg (some (adX b 6 3))) (4 : Int32).toNatClampNeg (some (adX b 6 4))) (5 : Int32).toNatClampNeg (some (adX b 6 5)))))))), ((adX b 29 0), .inl (cs 3, 4, .inr (.inr (.inr (.inr (va_up (va_up (va_up (fun _ => none) (0 : Int32).toNatClampNeg (some (adX b 30 0))) (1 : Int32).toNatClampNeg (some (adX b 30 1))) (2 : Int32).toNatClampNeg (some (adX b 30 2))))))))]) hh [3, 0, 1, 2] (by decide) rfl
  have hh : cH D (adX b) cs (PS 48) [((adX b 30 3), .inr (3, [.int 0, .int 0, .null])), (b, .inr (6, [.ref (adX b 1 0), .ref (adX b 5 0), .int 1, .null, .null, .null, .int 0, .ref (adX b 18 0), .ref (adX b 26 0), .ref (adX b 29 0)])), ((adX b 5 0), .inl (cs 2, 6, .inr (.inr (.inr (.inr (va_up (va_up (va_up (va_up (va_up (va_up (fun _ => none) (0 : Int32).toNatClampNeg (some (adX b 6 0))) (1 : Int32).toNatClampNeg (some (adX b 6 1))) (2 : Int32).toNatClampNeg (some (adX b 6 2))) (3 : Int32).toNatClampNeg (some (adX b 6 3))) (4 : Int32).toNatClampNeg (some (adX b 6 4))) (5 : Int32).toNatClampNeg (some (adX b 6 5)))))))), ((adX b 29 0), .inl (cs 3, 4, .inr (.inr (.inr (.inr (va_up (va_up (va_up (fun _ => none) (0 : Int32).toNatClampNeg (some (adX b 30 0))) (1 : Int32).toNatClampNeg (some (adX b 30 1))) (2 : Int32).toNatClampNeg (some (adX b 30 2))))))))] (fun q => b ≤ q) s.heap S0 H locs ((adX b 30 3) + 1) := hh
  refine c_sub (a := (adX b 30 3)) (fun q hq => Nat.le_trans (show b ≤ (adX b 30 3) from Nat.le_add_right _ _) hq) (iX4_ge b 3) hh (c_runIN (host := "RefusedMayAsk") (As := []) (rest := [.ref (adX b 30 3), .int 3, .ref (adX b 29 0)]) (X := fun _ => True) E (fun q hq => Nat.le_trans (show b ≤ (adX b 30 3) from Nat.le_add_right _ _) hq) (fun _ _ _ _ q => q) (fun _ _ => trivial) hh (iX4 b 3) kX4_init hX.2.2.2.1 ⟨by decide, by decide⟩ rfl hl.1 rfl (Nat.le_of_ble_eq_true rfl) dX7_init_108 ⟨(by rw [hRc.1]; decide), (by rw [hRc.2]; decide)⟩) (fun H locs hh => ?_)
  have hh := cH_mono (P2 := (PS 50)) hh (by intro kd j hp; exact (PS_step (PC := (Pq (Pq (fun _ _ => False) 31 3) 30 3)) 48 50 (by intro v h1 h2 h3 h4 h5; rcases (show v = 48 ∨ v = 49 by omega) with rfl | rfl <;> first | exact absurd rfl h3 | exact absurd rfl h4 | exact absurd rfl h5 | (unfold Pq; simp [invC])) kd j hp).imp (fun h => PS_le (by decide) h) id)
  have hh : cH D (adX b) cs (PS 50) [(b, .inr (6, [.ref (adX b 1 0), .ref (adX b 5 0), .int 1, .null, .null, .null, .int 0, .ref (adX b 18 0), .ref (adX b 26 0), .ref (adX b 29 0)])), ((adX b 5 0), .inl (cs 2, 6, .inr (.inr (.inr (.inr (va_up (va_up (va_up (va_up (va_up (va_up (fun _ => none) (0 : Int32).toNatClampNeg (some (adX b 6 0))) (1 : Int32).toNatClampNeg (some (adX b 6 1))) (2 : Int32).toNatClampNeg (some (adX b 6 2))) (3 : Int32).toNatClampNeg (some (adX b 6 3))) (4 : Int32).toNatClampNeg (some (adX b 6 4))) (5 : Int32).toNatClampNeg (some (adX b 6 5)))))))), ((adX b 29 0), .inl (cs 3, 4, .inr (.inr (.inr (.inr (va_up (va_up (va_up (fun _ => none) (0 : Int32).toNatClampNeg (some (adX b 30 0))) (1 : Int32).toNatClampNeg (some (adX b 30 1))) (2 : Int32).toNatClampNeg (some (adX b 30 2))))))))] (fun q => b ≤ q) s.heap S0 H locs (b + 50) := hh
  refine c_aast (q0 := 2) (t := 3) (n := 4) (kd := 30) (i := 3) (ci := 3) (r := (RX4, TX4, 3)) (g := (va_up (va_up (va_up (fun _ => none) (0 : Int32).toNatClampNeg (some (adX b 30 0))) (1 : Int32).toNatClampNeg (some (adX b 30 1))) (2 : Int32).toNatClampNeg (some (adX b 30 2)))) (j := 3) E (show b ≤ adX b 29 0 from Nat.le_add_right _ _) hh rfl rfl (show PS 50 30 3 from ⟨(by decide : 3 < cnL 30), by decide, by decide, by decide, (by decide : offC 30 3 < 50)⟩) rfl rfl (by unfold vp_in; decide) dX7_init_111 (fun H locs hh => ?_)
  have hh : cH D (adX b) cs (PS 50) [(b, .inr (6, [.ref (adX b 1 0), .ref (adX b 5 0), .int 1, .null, .null, .null, .int 0, .ref (adX b 18 0), .ref (adX b 26 0), .ref (adX b 29 0)])), ((adX b 5 0), .inl (cs 2, 6, .inr (.inr (.inr (.inr (va_up (va_up (va_up (va_up (va_up (va_up (fun _ => none) (0 : Int32).toNatClampNeg (some (adX b 6 0))) (1 : Int32).toNatClampNeg (some (adX b 6 1))) (2 : Int32).toNatClampNeg (some (adX b 6 2))) (3 : Int32).toNatClampNeg (some (adX b 6 3))) (4 : Int32).toNatClampNeg (some (adX b 6 4))) (5 : Int32).toNatClampNeg (some (adX b 6 5)))))))), ((adX b 29 0), .inl (cs 3, 4, .inr (.inr (.inr (.inr (va_up (va_up (va_up (va_up (fun _ => none) (0 : Int32).toNatClampNeg (some (adX b 30 0))) (1 : Int32).toNatClampNeg (some (adX b 30 1))) (2 : Int32).toNatClampNeg (some (adX b 30 2))) (3 : Int32).toNatClampNeg (some (adX b 30 3))))))))] (fun q => b ≤ q) s.heap S0 H locs (b + 50) := hh
  refine lv_iinc (k := 0) (v := 4) (lv' := [(1, .int 4), (0, .ref b)]) hx hb dX7_init_112 hl rfl (by decide) (by decide) rfl (fun ls hl => ?_)
  refine lv_goto (tgt := 94) hx hb dX7_init_115 (by decide) ?_
  refine lv_iload_n hx hb dX7_init_94 rfl (lv_at hl 0 rfl) ?_
  refine lv_iconst (v := 4) hx hb dX7_init_95 (by decide) ?_
  refine lv_icmp_ge (tgt := 118) hx hb dX7_init_96 (by decide) (fun _ => ?_) (fun c1 => absurd (by decide) c1)
  have hh := rowsX7 hh
  have hh : cH D (adX b) cs (Pq (Pq (PS 50) 5 0) 29 0) [(b, .inr (6, [.ref (adX b 1 0), .ref (adX b 5 0), .int 1, .null, .null, .null, .int 0, .ref (adX b 18 0), .ref (adX b 26 0), .ref (adX b 29 0)]))] (fun q => b ≤ q) s.heap S0 H locs (b + 50) := hh
  refine lv_iconst (v := 0) hx hb dX7_init_118 (by decide) ?_
  refine lv_istore_n (lv' := [(1, .int 0), (0, .ref b)]) hx hb dX7_init_119 rfl hl (by decide) rfl (fun ls hl => ?_)
  obtain ⟨n, hw⟩ := hw
  exact bX7_init2 E hin hRc hx hb n 0 S0 H locs ls hw hh (lv_sub hl [0, 1] rfl)
theorem kX7_init : kC yX7_init cX7_init 2 0 := ⟨rfl, tb20, tb1, tb21, by decide, by decide, by decide +kernel⟩
