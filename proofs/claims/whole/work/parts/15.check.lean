/-! the JDK's own index checks, by hand: a place inside -/
theorem bJ3_check {p : Program} {l : Launch} {e : Env} {R : Room} {s : State} {m : MethodId} {args : Array Value} {below : List Frame} {meth : Method} {c : Code} {D : va_G} {ad : Nat → Nat → Nat} {cs : Nat → ClassId} {P : Nat → Nat → Prop} {sz tU : Nat} {adK adV : Nat → Nat} {K : Int32 → St → Prop} {x0 x1 : Int32} {q : Value} {S : St} {H : Heap} {locs : List Loc} {ls : Array Slot} (E : Ex p s m args meth c R RJ3 cJ3_checkIndex_8e157 3 (some .int) 1 60 D ad cs P (wA ad P) tU adK adV cn0) (h0 : ¬ x0 < 0) (h1 : x0 < x1) (hw : K x0 S) (hh : wH D ad cs P (wA ad P) s.heap sz S H locs) (hl : lv_has ls 3 [(0, .int x0), (1, .int x1), (2, q)]) : W p l e R s m args below meth c H locs 0 0 (MQ below (va_Qi K (QX D ad cs P sz) (wA ad P)) args s 0 0 (wA ad P)) (F0 m 0 ls []) := by
  have hx := E.hx
  have hb := E.hb
  refine lv_iload_n hx hb dJ3_checkIndex_8e157_0 rfl (lv_at hl 0 rfl) ?_
  refine lv_if_lt (tgt := 9) hx hb dJ3_checkIndex_8e157_1 (by decide) (fun c1 => absurd c1 h0) (fun c1 => ?_)
  refine lv_iload_n hx hb dJ3_checkIndex_8e157_4 rfl (lv_at hl 0 rfl) ?_
  refine lv_iload_n hx hb dJ3_checkIndex_8e157_5 rfl (lv_at hl 1 rfl) ?_
  refine lv_icmp_lt (tgt := 16) hx hb dJ3_checkIndex_8e157_6 (by decide) (fun c2 => ?_) (fun c2 => absurd h1 c2)
  refine lv_iload_n hx hb dJ3_checkIndex_8e157_16 rfl (lv_at hl 0 rfl) ?_
  exact x_iret E hh hw dJ3_checkIndex_8e157_17
theorem kJ3_checkIndex_8e157 : kS yJ3_checkIndex_8e157 cJ3_checkIndex_8e157 3 (some .int) 3 := ⟨tb192, tb9, tb193, by decide, by decide, by decide +kernel⟩
theorem mJ3_check {l : Launch} {D : va_G} {ad : Nat → Nat → Nat} {cs : Nat → ClassId} {P : Nat → Nat → Prop} {sz tU : Nat} {adK adV : Nat → Nat} {x0 x1 : Int32} {q : Value} {S : St} {K : Int32 → St → Prop} (hI : wI ad P) (hq : q = .null ∨ ∃ a, q = .ref a) (h0 : ¬ x0 < 0) (h1 : x0 < x1) (hw : K x0 S) : MI l yJ3_checkIndex_8e157 cJ3_checkIndex_8e157 3 (some .int) 1 60 D ad cs P sz tU adK adV [.int x0, .int x1, q] S K := by
  rcases hq with rfl | ⟨a, rfl⟩
  · exact Met_of (cn := cn0) (by decide) (Nat.le_of_ble_eq_true rfl) hI (fun _ _ h => absurd h (Nat.not_lt_zero _)) (fun p e R s m args below meth c ls E hl hh => bJ3_check E h0 h1 hw hh (lv_sub hl [0, 1, 2] rfl))
  · exact Met_of (cn := cn0) (by decide) (Nat.le_of_ble_eq_true rfl) hI (fun _ _ h => absurd h (Nat.not_lt_zero _)) (fun p e R s m args below meth c ls E hl hh => bJ3_check E h0 h1 hw hh (lv_sub hl [0, 1, 2] rfl))
def wpJ0_checkIndex_df160 (x0 : Int32) (x1 : Int32) (S : St) (K : St → Prop) : Prop := ¬ x0 < 0 ∧ x0 < x1 ∧ K S
theorem bJ0_check {p : Program} {l : Launch} {e : Env} {R : Room} {s : State} {m : MethodId} {args : Array Value} {below : List Frame} {meth : Method} {c : Code} {D : va_G} {ad : Nat → Nat → Nat} {cs : Nat → ClassId} {P : Nat → Nat → Prop} {sz tU : Nat} {adK adV : Nat → Nat} {K : St → Prop} {x0 x1 : Int32} {S : St} {H : Heap} {locs : List Loc} {ls : Array Slot} (E : Ex p s m args meth c R RJ0 cJ0_checkIndex_df160 2 none 2 82 D ad cs P (wA ad P) tU adK adV cn0) (hw : wpJ0_checkIndex_df160 x0 x1 S K) (hh : wH D ad cs P (wA ad P) s.heap sz S H locs) (hl : lv_has ls 2 [(0, .int x0), (1, .int x1)]) : W p l e R s m args below meth c H locs 0 0 (MQ below (va_Qv K (QX D ad cs P sz) (wA ad P)) args s 0 0 (wA ad P)) (F0 m 0 ls []) := by
  have hx := E.hx
  have hb := E.hb
  obtain ⟨h0, h1, hw⟩ := hw
  refine lv_iload_n hx hb dJ0_checkIndex_df160_0 rfl (lv_at hl 0 rfl) ?_
  refine lv_iload_n hx hb dJ0_checkIndex_df160_1 rfl (lv_at hl 1 rfl) ?_
  have key : ∀ q : Value, (q = .null ∨ ∃ a, q = .ref a) → W p l e R s m args below meth c H locs 0 0 (MQ below (va_Qv K (QX D ad cs P sz) (wA ad P)) args s 0 0 (wA ad P)) (F0 m (0 + 1 + 1 + 3) ls [q, .int x1, .int x0]) := by
    intro q hq
    refine x_ci (K := fun _ S1 => K S1) E.hA hh (x_runS (As := [.int x0, .int x1, q]) (rest := []) E hh (mJ3_check (K := fun _ S1 => K S1) E.hI hq h0 h1 hw) kJ3_checkIndex_8e157 tb191 ⟨by decide, by decide⟩ rfl hl.1 rfl (Nat.le_of_ble_eq_true rfl) dJ0_checkIndex_df160_5 ⟨Nat.zero_le _, Nat.zero_le _⟩) (fun r1 S1 H locs hw hh => ?_)
    refine lv_pop hx hb dJ0_checkIndex_df160_8 rfl ?_
    exact x_vret E hh hw dJ0_checkIndex_df160_9
  rcases E.hE.2.2.2.2.2 with hZ | ⟨t9, hZ⟩
  · exact va_gets hx hb hZ hh.2.1 E.hown (E.hts _ tb189) (fun _ q => q) dJ0_checkIndex_df160_2 (key _ (Or.inl rfl))
  · exact va_gets hx hb hZ hh.2.1 E.hown (E.hts _ tb189) (fun _ q => q) dJ0_checkIndex_df160_2 (key _ (Or.inr ⟨_, rfl⟩))
theorem kJ0_checkIndex_df160 : kS yJ0_checkIndex_df160 cJ0_checkIndex_df160 2 none 2 := ⟨tb187, tb7, tb188, by decide, by decide, by decide +kernel⟩
theorem mJ0_checkIndex_df160 {l : Launch} {D : va_G} {ad : Nat → Nat → Nat} {cs : Nat → ClassId} {P : Nat → Nat → Prop} {sz tU : Nat} {adK adV : Nat → Nat} {x0 x1 : Int32} {S : St} {K : St → Prop} (hI : wI ad P) (hn : ∀ kd i, i < cn0 kd → P kd i) (hw : wpJ0_checkIndex_df160 x0 x1 S K) : MV l yJ0_checkIndex_df160 cJ0_checkIndex_df160 2 none 2 82 D ad cs P sz tU adK adV [.int x0, .int x1] S K :=
  Met_of (by decide) (Nat.le_of_ble_eq_true rfl) hI hn (fun p e R s m args below meth c ls E hl hh => bJ0_check E hw hh (lv_sub hl [0, 1] rfl))
