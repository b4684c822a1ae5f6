/-! walks, written by wip/whole/tools/walk.py: 20.walkA -/
def wpX0_needs (x0 : Int32) (x1 : Int32) (S : St) (K : Int32 → St → Prop) : Prop := (if x0 = 1 then (K 0 S) else (if x0 = 2 then (K (1 + (x1 - x1 / 3 * 3)) S) else (if x0 = 3 then (K (2 + (x1 - x1 / 3 * 3)) S) else (if x0 = 4 then (K 0 S) else (if x0 = 5 then (if (x1 - x1 / 2 * 2) = 0 then (K 0 S) else (K 1 S)) else (K 1 S))))))
set_option maxRecDepth 4000 in
theorem bX0_needs {p : Program} {l : Launch} {e : Env} {R : Room} {s : State} {m : MethodId} {args : Array Value} {below : List Frame} {meth : Method} {c : Code} {D : va_G} {ad : Nat → Nat → Nat} {cs : Nat → ClassId} {P : Nat → Nat → Prop} {sz tU : Nat} {adK adV : Nat → Nat} {K : Int32 → St → Prop} {x0 : Int32} {x1 : Int32} {S : St} {H : Heap} {locs : List Loc} {ls : Array Slot} (E : Ex p s m args meth c R RX0 cX0_needs 2 (some .int) 1 60 D ad cs P (wA ad P) tU adK adV cn0) (hw : wpX0_needs x0 x1 S K) (hh : wH D ad cs P (wA ad P) s.heap sz S H locs) (hl : lv_has ls 2 [(0, .int x0), (1, .int x1)]) : W p l e R s m args below meth c H locs 0 0 (MQ below (va_Qi K (QX D ad cs P sz) (wA ad P)) args s 0 0 (wA ad P)) (F0 m 0 ls []) := by
  have hx := E.hx
  have hb := E.hb
  refine lv_iload_n hx hb dX0_needs_0 rfl (lv_at hl 0 rfl) ?_
  by_cases c1 : x0 = 1
  · have hw := ifT hw c1
    refine lv_tableIn (tgt := 36) hx hb dX0_needs_1 (by rw [c1] <;> decide) (by rw [c1] <;> decide) (by rw [c1] <;> rfl) (by decide) ?_
    refine lv_iconst (v := 0) hx hb dX0_needs_36 (by decide) ?_
    exact x_iret E hh hw dX0_needs_37
  have hw := ifF hw c1
  by_cases c2 : x0 = 2
  · have hw := ifT hw c2
    refine lv_tableIn (tgt := 38) hx hb dX0_needs_1 (by rw [c2] <;> decide) (by rw [c2] <;> decide) (by rw [c2] <;> rfl) (by decide) ?_
    refine lv_iconst (v := 1) hx hb dX0_needs_38 (by decide) ?_
    refine lv_iload_n hx hb dX0_needs_39 rfl (lv_at hl 1 rfl) ?_
    refine lv_iconst (v := 3) hx hb dX0_needs_40 (by decide) ?_
    refine lv_irem hx hb dX0_needs_41 (by decide) ?_
    refine lv_iadd hx hb dX0_needs_42 ?_
    exact x_iret E hh hw dX0_needs_43
  have hw := ifF hw c2
  by_cases c3 : x0 = 3
  · have hw := ifT hw c3
    refine lv_tableIn (tgt := 44) hx hb dX0_needs_1 (by rw [c3] <;> decide) (by rw [c3] <;> decide) (by rw [c3] <;> rfl) (by decide) ?_
    refine lv_iconst (v := 2) hx hb dX0_needs_44 (by decide) ?_
    refine lv_iload_n hx hb dX0_needs_45 rfl (lv_at hl 1 rfl) ?_
    refine lv_iconst (v := 3) hx hb dX0_needs_46 (by decide) ?_
    refine lv_irem hx hb dX0_needs_47 (by decide) ?_
    refine lv_iadd hx hb dX0_needs_48 ?_
    exact x_iret E hh hw dX0_needs_49
  have hw := ifF hw c3
  by_cases c4 : x0 = 4
  · have hw := ifT hw c4
    refine lv_tableIn (tgt := 36) hx hb dX0_needs_1 (by rw [c4] <;> decide) (by rw [c4] <;> decide) (by rw [c4] <;> rfl) (by decide) ?_
    refine lv_iconst (v := 0) hx hb dX0_needs_36 (by decide) ?_
    exact x_iret E hh hw dX0_needs_37
  have hw := ifF hw c4
  by_cases c5 : x0 = 5
  · have hw := ifT hw c5
    refine lv_tableIn (tgt := 50) hx hb dX0_needs_1 (by rw [c5] <;> decide) (by rw [c5] <;> decide) (by rw [c5] <;> rfl) (by decide) ?_
    refine lv_iload_n hx hb dX0_needs_50 rfl (lv_at hl 1 rfl) ?_
    refine lv_iconst (v := 2) hx hb dX0_needs_51 (by decide) ?_
    refine lv_irem hx hb dX0_needs_52 (by decide) ?_
    refine lv_if_ne (tgt := 60) hx hb dX0_needs_53 (by decide) (fun c6 => ?_) (fun c6 => ?_)
    · have hw := ifF hw c6
      refine lv_iconst (v := 1) hx hb dX0_needs_60 (by decide) ?_
      exact x_iret E hh hw dX0_needs_61
    · have hw := ifT hw c6
      refine lv_iconst (v := 0) hx hb dX0_needs_56 (by decide) ?_
      refine lv_goto (tgt := 61) hx hb dX0_needs_57 (by decide) ?_
      exact x_iret E hh hw dX0_needs_61
  have hw := ifF hw c5
  refine lv_tableOut (tgt := 62) hx hb dX0_needs_1 (by have n0 := lv_neT c1 (a := 1) rfl; have n1 := lv_neT c2 (a := 2) rfl; have n2 := lv_neT c3 (a := 3) rfl; have n3 := lv_neT c4 (a := 4) rfl; have n4 := lv_neT c5 (a := 5) rfl; omega) (by decide) ?_
  refine lv_iconst (v := 1) hx hb dX0_needs_62 (by decide) ?_
  exact x_iret E hh hw dX0_needs_63
theorem kX0_needs : kS yX0_needs cX0_needs 2 (some .int) 2 := ⟨tb455, tb16, tb456, by decide, by decide, by decide +kernel⟩
theorem mX0_needs {l : Launch} {D : va_G} {ad : Nat → Nat → Nat} {cs : Nat → ClassId} {P : Nat → Nat → Prop} {sz tU : Nat} {adK adV : Nat → Nat} {x0 : Int32} {x1 : Int32} {S : St} {K : Int32 → St → Prop} (hI : wI ad P) (hn : ∀ kd i, i < cn0 kd → P kd i) (hw : wpX0_needs x0 x1 S K) : MI l yX0_needs cX0_needs 2 (some .int) 1 60 D ad cs P sz tU adK adV [.int x0, .int x1] S K :=
  Met_of (by decide) (Nat.le_of_ble_eq_true rfl) hI hn (fun p e R s m args below meth c ls E hl hh => bX0_needs E  hw hh (lv_sub hl [0, 1] rfl))
def wbX0_refuses_99 (K : Int32 → St → Prop) (S : St) : Prop := K 1 S
set_option maxRecDepth 4000 in
theorem bX0_refuses_99 {p : Program} {l : Launch} {e : Env} {R : Room} {s : State} {m : MethodId} {args : Array Value} {below : List Frame} {meth : Method} {c : Code} {D : va_G} {ad : Nat → Nat → Nat} {cs : Nat → ClassId} {P : Nat → Nat → Prop} {sz tU : Nat} {adK adV : Nat → Nat} {K : Int32 → St → Prop} {S : St} {H : Heap} {locs : List Loc} {ls : Array Slot} (E : Ex p s m args meth c R RX0 cX0_refuses 5 (some .boolean) 1 60 D ad cs P (wA ad P) tU adK adV cn0) (hw : wbX0_refuses_99 K S) (hh : wH D ad cs P (wA ad P) s.heap sz S H locs) (hl : lv_has ls 5 []) : W p l e R s m args below meth c H locs 0 0 (MQ below (va_Qi (fun r S => K r S ∧ narrow .boolean (.int r) = .int r) (QX D ad cs P sz) (wA ad P)) args s 0 0 (wA ad P)) (F0 m 99 ls []) := by
  have hx := E.hx
  have hb := E.hb
  refine lv_iconst (v := 1) hx hb dX0_refuses_99 (by decide) ?_
  refine lv_goto (tgt := 104) hx hb dX0_refuses_100 (by decide) ?_
  exact x_zret E hh hw rfl dX0_refuses_104
def wbX0_refuses_77 (K : Int32 → St → Prop) (S : St) : Prop := K 1 S
set_option maxRecDepth 4000 in
theorem bX0_refuses_77 {p : Program} {l : Launch} {e : Env} {R : Room} {s : State} {m : MethodId} {args : Array Value} {below : List Frame} {meth : Method} {c : Code} {D : va_G} {ad : Nat → Nat → Nat} {cs : Nat → ClassId} {P : Nat → Nat → Prop} {sz tU : Nat} {adK adV : Nat → Nat} {K : Int32 → St → Prop} {S : St} {H : Heap} {locs : List Loc} {ls : Array Slot} (E : Ex p s m args meth c R RX0 cX0_refuses 5 (some .boolean) 1 60 D ad cs P (wA ad P) tU adK adV cn0) (hw : wbX0_refuses_77 K S) (hh : wH D ad cs P (wA ad P) s.heap sz S H locs) (hl : lv_has ls 5 []) : W p l e R s m args below meth c H locs 0 0 (MQ below (va_Qi (fun r S => K r S ∧ narrow .boolean (.int r) = .int r) (QX D ad cs P sz) (wA ad P)) args s 0 0 (wA ad P)) (F0 m 77 ls []) := by
  have hx := E.hx
  have hb := E.hb
  refine lv_iconst (v := 1) hx hb dX0_refuses_77 (by decide) ?_
  refine lv_goto (tgt := 82) hx hb dX0_refuses_78 (by decide) ?_
  exact x_zret E hh hw rfl dX0_refuses_82
def wbX0_refuses_11 (K : Int32 → St → Prop) (x0 : Int32) (x1 : Int32) (x2 : Int32) (x3 : Int32) (v0 : Int32) (S : St) : Prop := (if x0 = 1 then (if v0 = 0 then (K 0 S) else (if (10 * x1) ≤ x2 then (K 0 S) else (K 1 S))) else (if x0 = 2 then (if v0 = 0 then (if x3 ≤ 2 then (K 0 S) else (wbX0_refuses_77 K S)) else (wbX0_refuses_77 K S)) else (if x0 = 3 then (if v0 = 0 then (if 2 < x3 then (wbX0_refuses_99 K S) else (if 70 ≤ x2 then (K 0 S) else (wbX0_refuses_99 K S))) else (wbX0_refuses_99 K S)) else (if x0 = 4 then (K 1 S) else (if x0 = 5 then (if ((x3 + x1) - (x3 + x1) / 2 * 2) = 0 then (K 0 S) else (K 1 S)) else ((narrow .boolean (.int v0) = .int v0 ∧ K v0 S)))))))
set_option maxRecDepth 4000 in
theorem bX0_refuses_11 {p : Program} {l : Launch} {e : Env} {R : Room} {s : State} {m : MethodId} {args : Array Value} {below : List Frame} {meth : Method} {c : Code} {D : va_G} {ad : Nat → Nat → Nat} {cs : Nat → ClassId} {P : Nat → Nat → Prop} {sz tU : Nat} {adK adV : Nat → Nat} {K : Int32 → St → Prop} {x0 : Int32} {x1 : Int32} {x2 : Int32} {x3 : Int32} {v0 : Int32} {S : St} {H : Heap} {locs : List Loc} {ls : Array Slot} (E : Ex p s m args meth c R RX0 cX0_refuses 5 (some .boolean) 1 60 D ad cs P (wA ad P) tU adK adV cn0) (hw : wbX0_refuses_11 K x0 x1 x2 x3 v0 S) (hh : wH D ad cs P (wA ad P) s.heap sz S H locs) (hl : lv_has ls 5 [(0, .int x0), (1, .int x1), (2, .int x2), (3, .int x3)]) : W p l e R s m args below meth c H locs 0 0 (MQ below (va_Qi (fun r S => K r S ∧ narrow .boolean (.int r) = .int r) (QX D ad cs P sz) (wA ad P)) args s 0 0 (wA ad P)) (F0 m 11 ls [.int v0]) := by
  have hx := E.hx
  have hb := E.hb
  refine lv_istore (lv' := [(4, .int v0), (0, .int x0), (1, .int x1), (2, .int x2), (3, .int x3)]) hx hb dX0_refuses_11 hl (by decide) rfl (fun ls hl => ?_)
  refine lv_iload_n hx hb dX0_refuses_13 rfl (lv_at hl 1 rfl) ?_
  by_cases c2 : x0 = 1
  · have hw := ifT hw c2
    refine lv_tableIn (tgt := 48) hx hb dX0_refuses_14 (by rw [c2] <;> decide) (by rw [c2] <;> decide) (by rw [c2] <;> rfl) (by decide) ?_
    refine lv_iload hx hb dX0_refuses_48 (lv_at hl 0 rfl) ?_
    refine lv_if_eq (tgt := 65) hx hb dX0_refuses_50 (by decide) (fun c3 => ?_) (fun c3 => ?_)
    · have hw := ifT hw c3
      refine lv_iconst (v := 0) hx hb dX0_refuses_65 (by decide) ?_
      exact x_zret E hh hw rfl dX0_refuses_66
    · have hw := ifF hw c3
      refine lv_iload_n hx hb dX0_refuses_53 rfl (lv_at hl 3 rfl) ?_
      refine lv_bipush (v := 10) hx hb dX0_refuses_54 (by decide) ?_
      refine lv_iload_n hx hb dX0_refuses_56 rfl (lv_at hl 2 rfl) ?_
      refine lv_imul hx hb dX0_refuses_57 ?_
      refine lv_icmp_ge (tgt := 65) hx hb dX0_refuses_58 (by decide) (fun c4 => ?_) (fun c4 => ?_)
      · have hw := ifT hw c4
        refine lv_iconst (v := 0) hx hb dX0_refuses_65 (by decide) ?_
        exact x_zret E hh hw rfl dX0_refuses_66
      · have hw := ifF hw c4
        refine lv_iconst (v := 1) hx hb dX0_refuses_61 (by decide) ?_
        refine lv_goto (tgt := 66) hx hb dX0_refuses_62 (by decide) ?_
        exact x_zret E hh hw rfl dX0_refuses_66
  have hw := ifF hw c2
  by_cases c5 : x0 = 2
  · have hw := ifT hw c5
    refine lv_tableIn (tgt := 67) hx hb dX0_refuses_14 (by rw [c5] <;> decide) (by rw [c5] <;> decide) (by rw [c5] <;> rfl) (by decide) ?_
    refine lv_iload hx hb dX0_refuses_67 (lv_at hl 0 rfl) ?_
    refine lv_if_ne (tgt := 77) hx hb dX0_refuses_69 (by decide) (fun c6 => ?_) (fun c6 => ?_)
    · have hw := ifF hw c6
      exact bX0_refuses_77 E hw hh (lv_sub hl [] rfl)
    · have hw := ifT hw c6
      refine lv_iload_n hx hb dX0_refuses_72 rfl (lv_at hl 4 rfl) ?_
      refine lv_iconst (v := 2) hx hb dX0_refuses_73 (by decide) ?_
      refine lv_icmp_le (tgt := 81) hx hb dX0_refuses_74 (by decide) (fun c7 => ?_) (fun c7 => ?_)
      · have hw := ifT hw c7
        refine lv_iconst (v := 0) hx hb dX0_refuses_81 (by decide) ?_
        exact x_zret E hh hw rfl dX0_refuses_82
      · have hw := ifF hw c7
        exact bX0_refuses_77 E hw hh (lv_sub hl [] rfl)
  have hw := ifF hw c5
  by_cases c8 : x0 = 3
  · have hw := ifT hw c8
    refine lv_tableIn (tgt := 83) hx hb dX0_refuses_14 (by rw [c8] <;> decide) (by rw [c8] <;> decide) (by rw [c8] <;> rfl) (by decide) ?_
    refine lv_iload hx hb dX0_refuses_83 (lv_at hl 0 rfl) ?_
    refine lv_if_ne (tgt := 99) hx hb dX0_refuses_85 (by decide) (fun c9 => ?_) (fun c9 => ?_)
    · have hw := ifF hw c9
      exact bX0_refuses_99 E hw hh (lv_sub hl [] rfl)
    · have hw := ifT hw c9
      refine lv_iload_n hx hb dX0_refuses_88 rfl (lv_at hl 4 rfl) ?_
      refine lv_iconst (v := 2) hx hb dX0_refuses_89 (by decide) ?_
      refine lv_icmp_gt (tgt := 99) hx hb dX0_refuses_90 (by decide) (fun c10 => ?_) (fun c10 => ?_)
      · have hw := ifT hw c10
        exact bX0_refuses_99 E hw hh (lv_sub hl [] rfl)
      · have hw := ifF hw c10
        refine lv_iload_n hx hb dX0_refuses_93 rfl (lv_at hl 3 rfl) ?_
        refine lv_bipush (v := 70) hx hb dX0_refuses_94 (by decide) ?_
        refine lv_icmp_ge (tgt := 103) hx hb dX0_refuses_96 (by decide) (fun c11 => ?_) (fun c11 => ?_)
        · have hw := ifT hw c11
          refine lv_iconst (v := 0) hx hb dX0_refuses_103 (by decide) ?_
          exact x_zret E hh hw rfl dX0_refuses_104
        · have hw := ifF hw c11
          exact bX0_refuses_99 E hw hh (lv_sub hl [] rfl)
  have hw := ifF hw c8
  by_cases c12 : x0 = 4
  · have hw := ifT hw c12
    refine lv_tableIn (tgt := 105) hx hb dX0_refuses_14 (by rw [c12] <;> decide) (by rw [c12] <;> decide) (by rw [c12] <;> rfl) (by decide) ?_
    refine lv_iconst (v := 1) hx hb dX0_refuses_105 (by decide) ?_
    exact x_zret E hh hw rfl dX0_refuses_106
  have hw := ifF hw c12
  by_cases c13 : x0 = 5
  · have hw := ifT hw c13
    refine lv_tableIn (tgt := 107) hx hb dX0_refuses_14 (by rw [c13] <;> decide) (by rw [c13] <;> decide) (by rw [c13] <;> rfl) (by decide) ?_
    refine lv_iload_n hx hb dX0_refuses_107 rfl (lv_at hl 4 rfl) ?_
    refine lv_iload_n hx hb dX0_refuses_108 rfl (lv_at hl 2 rfl) ?_
    refine lv_iadd hx hb dX0_refuses_109 ?_
    refine lv_iconst (v := 2) hx hb dX0_refuses_110 (by decide) ?_
    refine lv_irem hx hb dX0_refuses_111 (by decide) ?_
    refine lv_if_eq (tgt := 119) hx hb dX0_refuses_112 (by decide) (fun c14 => ?_) (fun c14 => ?_)
    · have hw := ifT hw c14
      refine lv_iconst (v := 0) hx hb dX0_refuses_119 (by decide) ?_
      exact x_zret E hh hw rfl dX0_refuses_120
    · have hw := ifF hw c14
      refine lv_iconst (v := 1) hx hb dX0_refuses_115 (by decide) ?_
      refine lv_goto (tgt := 120) hx hb dX0_refuses_116 (by decide) ?_
      exact x_zret E hh hw rfl dX0_refuses_120
  have hw := ifF hw c13
  refine lv_tableOut (tgt := 121) hx hb dX0_refuses_14 (by have n0 := lv_neT c2 (a := 1) rfl; have n1 := lv_neT c5 (a := 2) rfl; have n2 := lv_neT c8 (a := 3) rfl; have n3 := lv_neT c12 (a := 4) rfl; have n4 := lv_neT c13 (a := 5) rfl; omega) (by decide) ?_
  refine lv_iload hx hb dX0_refuses_121 (lv_at hl 0 rfl) ?_
  obtain ⟨hq15, hw⟩ := hw
  exact x_zret E hh hw hq15 dX0_refuses_123
def wpX0_refuses (x0 : Int32) (x1 : Int32) (x2 : Int32) (x3 : Int32) (S : St) (K : Int32 → St → Prop) : Prop := if 50 ≤ x2 then (wbX0_refuses_11 K x0 x1 x2 x3 0 S) else (wbX0_refuses_11 K x0 x1 x2 x3 1 S)
set_option maxRecDepth 4000 in
theorem bX0_refuses {p : Program} {l : Launch} {e : Env} {R : Room} {s : State} {m : MethodId} {args : Array Value} {below : List Frame} {meth : Method} {c : Code} {D : va_G} {ad : Nat → Nat → Nat} {cs : Nat → ClassId} {P : Nat → Nat → Prop} {sz tU : Nat} {adK adV : Nat → Nat} {K : Int32 → St → Prop} {x0 : Int32} {x1 : Int32} {x2 : Int32} {x3 : Int32} {S : St} {H : Heap} {locs : List Loc} {ls : Array Slot} (E : Ex p s m args meth c R RX0 cX0_refuses 5 (some .boolean) 1 60 D ad cs P (wA ad P) tU adK adV cn0) (hw : wpX0_refuses x0 x1 x2 x3 S K) (hh : wH D ad cs P (wA ad P) s.heap sz S H locs) (hl : lv_has ls 5 [(0, .int x0), (1, .int x1), (2, .int x2), (3, .int x3)]) : W p l e R s m args below meth c H locs 0 0 (MQ below (va_Qi (fun r S => K r S ∧ narrow .boolean (.int r) = .int r) (QX D ad cs P sz) (wA ad P)) args s 0 0 (wA ad P)) (F0 m 0 ls []) := by
  have hx := E.hx
  have hb := E.hb
  refine lv_iload_n hx hb dX0_refuses_0 rfl (lv_at hl 2 rfl) ?_
  refine lv_bipush (v := 50) hx hb dX0_refuses_1 (by decide) ?_
  refine lv_icmp_ge (tgt := 10) hx hb dX0_refuses_3 (by decide) (fun c1 => ?_) (fun c1 => ?_)
  · have hw := ifT hw c1
    refine lv_iconst (v := 0) hx hb dX0_refuses_10 (by decide) ?_
    exact bX0_refuses_11 E hw hh (lv_sub hl [0, 1, 2, 3] rfl)
  · have hw := ifF hw c1
    refine lv_iconst (v := 1) hx hb dX0_refuses_6 (by decide) ?_
    refine lv_goto (tgt := 11) hx hb dX0_refuses_7 (by decide) ?_
    exact bX0_refuses_11 E hw hh (lv_sub hl [0, 1, 2, 3] rfl)
theorem kX0_refuses : kS yX0_refuses cX0_refuses 5 (some .boolean) 4 := ⟨tb463, tb16, tb464, by decide, by decide, by decide +kernel⟩
theorem mX0_refuses {l : Launch} {D : va_G} {ad : Nat → Nat → Nat} {cs : Nat → ClassId} {P : Nat → Nat → Prop} {sz tU : Nat} {adK adV : Nat → Nat} {x0 : Int32} {x1 : Int32} {x2 : Int32} {x3 : Int32} {S : St} {K : Int32 → St → Prop} (hI : wI ad P) (hn : ∀ kd i, i < cn0 kd → P kd i) (hw : wpX0_refuses x0 x1 x2 x3 S K) : MI l yX0_refuses cX0_refuses 5 (some .boolean) 1 60 D ad cs P sz tU adK adV [.int x0, .int x1, .int x2, .int x3] S (fun r S => K r S ∧ narrow .boolean (.int r) = .int r) :=
  Met_of (by decide) (Nat.le_of_ble_eq_true rfl) hI hn (fun p e R s m args below meth c ls E hl hh => bX0_refuses E  hw hh (lv_sub hl [0, 1, 2, 3] rfl))
def wpX0_price (x0 : Int32) (x1 : Int32) (S : St) (K : Int32 → St → Prop) : Prop := (if x0 = 1 then (K (x1 + 5) S) else (if x0 = 2 then (K (2 * x1) S) else (if x0 = 3 then (K (if ((2 * x1) - 3) < 0 then 0 else ((2 * x1) - 3) : Int32) S) else (if x0 = 4 then (K 0 S) else (if x0 = 5 then (K (x1 + 1) S) else (K x1 S))))))
set_option maxRecDepth 4000 in
theorem bX0_price {p : Program} {l : Launch} {e : Env} {R : Room} {s : State} {m : MethodId} {args : Array Value} {below : List Frame} {meth : Method} {c : Code} {D : va_G} {ad : Nat → Nat → Nat} {cs : Nat → ClassId} {P : Nat → Nat → Prop} {sz tU : Nat} {adK adV : Nat → Nat} {K : Int32 → St → Prop} {x0 : Int32} {x1 : Int32} {S : St} {H : Heap} {locs : List Loc} {ls : Array Slot} (E : Ex p s m args meth c R RX0 cX0_price 2 (some .int) 1 60 D ad cs P (wA ad P) tU adK adV cn0) (hw : wpX0_price x0 x1 S K) (hh : wH D ad cs P (wA ad P) s.heap sz S H locs) (hl : lv_has ls 2 [(0, .int x0), (1, .int x1)]) : W p l e R s m args below meth c H locs 0 0 (MQ below (va_Qi K (QX D ad cs P sz) (wA ad P)) args s 0 0 (wA ad P)) (F0 m 0 ls []) := by
  have hx := E.hx
  have hb := E.hb
  refine lv_iload_n hx hb dX0_price_0 rfl (lv_at hl 0 rfl) ?_
  by_cases c1 : x0 = 1
  · have hw := ifT hw c1
    refine lv_tableIn (tgt := 36) hx hb dX0_price_1 (by rw [c1] <;> decide) (by rw [c1] <;> decide) (by rw [c1] <;> rfl) (by decide) ?_
    refine lv_iload_n hx hb dX0_price_36 rfl (lv_at hl 1 rfl) ?_
    refine lv_iconst (v := 5) hx hb dX0_price_37 (by decide) ?_
    refine lv_iadd hx hb dX0_price_38 ?_
    exact x_iret E hh hw dX0_price_39
  have hw := ifF hw c1
  by_cases c2 : x0 = 2
  · have hw := ifT hw c2
    refine lv_tableIn (tgt := 40) hx hb dX0_price_1 (by rw [c2] <;> decide) (by rw [c2] <;> decide) (by rw [c2] <;> rfl) (by decide) ?_
    refine lv_iconst (v := 2) hx hb dX0_price_40 (by decide) ?_
    refine lv_iload_n hx hb dX0_price_41 rfl (lv_at hl 1 rfl) ?_
    refine lv_imul hx hb dX0_price_42 ?_
    exact x_iret E hh hw dX0_price_43
  have hw := ifF hw c2
  by_cases c3 : x0 = 3
  · have hw := ifT hw c3
    refine lv_tableIn (tgt := 44) hx hb dX0_price_1 (by rw [c3] <;> decide) (by rw [c3] <;> decide) (by rw [c3] <;> rfl) (by decide) ?_
    refine lv_iconst (v := 2) hx hb dX0_price_44 (by decide) ?_
    refine lv_iload_n hx hb dX0_price_45 rfl (lv_at hl 1 rfl) ?_
    refine lv_imul hx hb dX0_price_46 ?_
    refine lv_iconst (v := 3) hx hb dX0_price_47 (by decide) ?_
    refine lv_isub hx hb dX0_price_48 ?_
    refine lv_iconst (v := 0) hx hb dX0_price_49 (by decide) ?_
    refine va_mmax hx hb (E.hml.trans hl.1.symm) E.hown (E.hts _ tb503) (E.hts _ tb485) (E.hts _ tb11) (E.hts _ tb486) (Nat.le_trans (by decide) E.hf) (Nat.le_trans (Nat.le_of_ble_eq_true rfl) E.hl) (Nat.zero_le _) (Nat.zero_le _) dX0_price_50 ?_
    exact x_iret E hh hw dX0_price_53
  have hw := ifF hw c3
  by_cases c4 : x0 = 4
  · have hw := ifT hw c4
    refine lv_tableIn (tgt := 54) hx hb dX0_price_1 (by rw [c4] <;> decide) (by rw [c4] <;> decide) (by rw [c4] <;> rfl) (by decide) ?_
    refine lv_iconst (v := 0) hx hb dX0_price_54 (by decide) ?_
    exact x_iret E hh hw dX0_price_55
  have hw := ifF hw c4
  by_cases c5 : x0 = 5
  · have hw := ifT hw c5
    refine lv_tableIn (tgt := 56) hx hb dX0_price_1 (by rw [c5] <;> decide) (by rw [c5] <;> decide) (by rw [c5] <;> rfl) (by decide) ?_
    refine lv_iload_n hx hb dX0_price_56 rfl (lv_at hl 1 rfl) ?_
    refine lv_iconst (v := 1) hx hb dX0_price_57 (by decide) ?_
    refine lv_iadd hx hb dX0_price_58 ?_
    exact x_iret E hh hw dX0_price_59
  have hw := ifF hw c5
  refine lv_tableOut (tgt := 60) hx hb dX0_price_1 (by have n0 := lv_neT c1 (a := 1) rfl; have n1 := lv_neT c2 (a := 2) rfl; have n2 := lv_neT c3 (a := 3) rfl; have n3 := lv_neT c4 (a := 4) rfl; have n4 := lv_neT c5 (a := 5) rfl; omega) (by decide) ?_
  refine lv_iload_n hx hb dX0_price_60 rfl (lv_at hl 1 rfl) ?_
  exact x_iret E hh hw dX0_price_61
theorem kX0_price : kS yX0_price cX0_price 2 (some .int) 2 := ⟨tb501, tb16, tb502, by decide, by decide, by decide +kernel⟩
theorem mX0_price {l : Launch} {D : va_G} {ad : Nat → Nat → Nat} {cs : Nat → ClassId} {P : Nat → Nat → Prop} {sz tU : Nat} {adK adV : Nat → Nat} {x0 : Int32} {x1 : Int32} {S : St} {K : Int32 → St → Prop} (hI : wI ad P) (hn : ∀ kd i, i < cn0 kd → P kd i) (hw : wpX0_price x0 x1 S K) : MI l yX0_price cX0_price 2 (some .int) 1 60 D ad cs P sz tU adK adV [.int x0, .int x1] S K :=
  Met_of (by decide) (Nat.le_of_ble_eq_true rfl) hI hn (fun p e R s m args below meth c ls E hl hh => bX0_price E  hw hh (lv_sub hl [0, 1] rfl))
def wbX0_isUnder_4 (K : Int32 → St → Prop) (x1 : Int32) : Nat → Int32 → Int32 → St → Prop
  | 0, _, _, _ => False
  | n + 1, x2, x3, S => if 5 < x3 then (K 0 S) else (if x2 = (-1) then (K 0 S) else (if x2 = x1 then (K 1 S) else ((vp_in x2 6 ∧ wbX0_isUnder_4 K x1 n (undT x2.toNatClampNeg) (x3 + 1) S))))
set_option maxRecDepth 4000 in
theorem bX0_isUnder_4 {p : Program} {l : Launch} {e : Env} {R : Room} {s : State} {m : MethodId} {args : Array Value} {below : List Frame} {meth : Method} {c : Code} {D : va_G} {ad : Nat → Nat → Nat} {cs : Nat → ClassId} {P : Nat → Nat → Prop} {sz tU : Nat} {adK adV : Nat → Nat} {K : Int32 → St → Prop} {x1 : Int32} (E : Ex p s m args meth c R RX0 cX0_isUnder 4 (some .boolean) 1 60 D ad cs P (wA ad P) tU adK adV cn0) : ∀ (n : Nat) (x2 : Int32) (x3 : Int32) (S : St) (H : Heap) (locs : List Loc) (ls : Array Slot), wbX0_isUnder_4 K x1 n x2 x3 S → wH D ad cs P (wA ad P) s.heap sz S H locs → lv_has ls 4 [(1, .int x1), (2, .int x2), (3, .int x3)] → W p l e R s m args below meth c H locs 0 0 (MQ below (va_Qi (fun r S => K r S ∧ narrow .boolean (.int r) = .int r) (QX D ad cs P sz) (wA ad P)) args s 0 0 (wA ad P)) (F0 m 4 ls []) := by
  have hx := E.hx
  have hb := E.hb
  intro n
  induction n with
  | zero => intro x2 x3 S H locs ls hw hh hl; exact hw.elim
  | succ n ih =>
    intro x2 x3 S H locs ls hw hh hl
    refine lv_iload_n hx hb dX0_isUnder_4 rfl (lv_at hl 2 rfl) ?_
    refine lv_iconst (v := 5) hx hb dX0_isUnder_5 (by decide) ?_
    refine lv_icmp_gt (tgt := 33) hx hb dX0_isUnder_6 (by decide) (fun c1 => ?_) (fun c1 => ?_)
    · have hw := ifT hw c1
      refine lv_iconst (v := 0) hx hb dX0_isUnder_33 (by decide) ?_
      exact x_zret E hh hw rfl dX0_isUnder_34
    · have hw := ifF hw c1
      refine lv_iload_n hx hb dX0_isUnder_9 rfl (lv_at hl 1 rfl) ?_
      refine lv_iconst (v := (-1)) hx hb dX0_isUnder_10 (by decide) ?_
      refine lv_icmp_eq (tgt := 33) hx hb dX0_isUnder_11 (by decide) (fun c2 => ?_) (fun c2 => ?_)
      · have hw := ifT hw c2
        refine lv_iconst (v := 0) hx hb dX0_isUnder_33 (by decide) ?_
        exact x_zret E hh hw rfl dX0_isUnder_34
      · have hw := ifF hw c2
        refine lv_iload_n hx hb dX0_isUnder_14 rfl (lv_at hl 1 rfl) ?_
        refine lv_iload_n hx hb dX0_isUnder_15 rfl (lv_at hl 0 rfl) ?_
        refine lv_icmp_ne (tgt := 21) hx hb dX0_isUnder_16 (by decide) (fun c3 => ?_) (fun c3 => ?_)
        · have hw := ifF hw c3
          refine va_gets hx hb E.hE.2.1 hh.2.1 E.hown (E.hts _ tb723) (fun _ q => q) dX0_isUnder_21 ?_
          refine lv_iload_n hx hb dX0_isUnder_24 rfl (lv_at hl 1 rfl) ?_
          obtain ⟨hi4, hw⟩ := hw
          refine va_ti hx hb E.hE.2.2.1 hh.2.1 hi4 rfl dX0_isUnder_25 ?_
          refine lv_istore_n (lv' := [(2, .int (undT x2.toNatClampNeg)), (1, .int x1), (3, .int x3)]) hx hb dX0_isUnder_26 rfl hl (by decide) rfl (fun ls hl => ?_)
          refine lv_iinc (k := 2) (v := x3 + 1) (lv' := [(3, .int (x3 + 1)), (2, .int (undT x2.toNatClampNeg)), (1, .int x1)]) hx hb dX0_isUnder_27 hl rfl rfl (by decide) rfl (fun ls hl => ?_)
          refine lv_goto (tgt := 4) hx hb dX0_isUnder_30 (by decide) ?_
          exact ih (undT x2.toNatClampNeg) (x3 + 1) S _ _ _ hw hh (lv_sub hl [2, 1, 0] rfl)
        · have hw := ifT hw c3
          refine lv_iconst (v := 1) hx hb dX0_isUnder_19 (by decide) ?_
          exact x_zret E hh hw rfl dX0_isUnder_20
def wpX0_isUnder (x0 : Int32) (x1 : Int32) (S : St) (K : Int32 → St → Prop) : Prop := ∃ k, wbX0_isUnder_4 K x1 k x0 0 S
set_option maxRecDepth 4000 in
theorem bX0_isUnder {p : Program} {l : Launch} {e : Env} {R : Room} {s : State} {m : MethodId} {args : Array Value} {below : List Frame} {meth : Method} {c : Code} {D : va_G} {ad : Nat → Nat → Nat} {cs : Nat → ClassId} {P : Nat → Nat → Prop} {sz tU : Nat} {adK adV : Nat → Nat} {K : Int32 → St → Prop} {x0 : Int32} {x1 : Int32} {S : St} {H : Heap} {locs : List Loc} {ls : Array Slot} (E : Ex p s m args meth c R RX0 cX0_isUnder 4 (some .boolean) 1 60 D ad cs P (wA ad P) tU adK adV cn0) (hw : wpX0_isUnder x0 x1 S K) (hh : wH D ad cs P (wA ad P) s.heap sz S H locs) (hl : lv_has ls 4 [(0, .int x0), (1, .int x1)]) : W p l e R s m args below meth c H locs 0 0 (MQ below (va_Qi (fun r S => K r S ∧ narrow .boolean (.int r) = .int r) (QX D ad cs P sz) (wA ad P)) args s 0 0 (wA ad P)) (F0 m 0 ls []) := by
  have hx := E.hx
  have hb := E.hb
  refine lv_iload_n hx hb dX0_isUnder_0 rfl (lv_at hl 0 rfl) ?_
  refine lv_istore_n (lv' := [(2, .int x0), (0, .int x0), (1, .int x1)]) hx hb dX0_isUnder_1 rfl hl (by decide) rfl (fun ls hl => ?_)
  refine lv_iconst (v := 0) hx hb dX0_isUnder_2 (by decide) ?_
  refine lv_istore_n (lv' := [(3, .int 0), (2, .int x0), (0, .int x0), (1, .int x1)]) hx hb dX0_isUnder_3 rfl hl (by decide) rfl (fun ls hl => ?_)
  obtain ⟨k, hw⟩ := hw
  exact bX0_isUnder_4 E k x0 0 S _ _ _ hw hh (lv_sub hl [3, 1, 0] rfl)
theorem kX0_isUnder : kS yX0_isUnder cX0_isUnder 4 (some .boolean) 2 := ⟨tb721, tb16, tb722, by decide, by decide, by decide +kernel⟩
theorem mX0_isUnder {l : Launch} {D : va_G} {ad : Nat → Nat → Nat} {cs : Nat → ClassId} {P : Nat → Nat → Prop} {sz tU : Nat} {adK adV : Nat → Nat} {x0 : Int32} {x1 : Int32} {S : St} {K : Int32 → St → Prop} (hI : wI ad P) (hn : ∀ kd i, i < cn0 kd → P kd i) (hw : wpX0_isUnder x0 x1 S K) : MI l yX0_isUnder cX0_isUnder 4 (some .boolean) 1 60 D ad cs P sz tU adK adV [.int x0, .int x1] S (fun r S => K r S ∧ narrow .boolean (.int r) = .int r) :=
  Met_of (by decide) (Nat.le_of_ble_eq_true rfl) hI hn (fun p e R s m args below meth c ls E hl hh => bX0_isUnder E  hw hh (lv_sub hl [0, 1] rfl))
def wbJ7_fill_53178_5 (kd0 : Nat) (u0 : Nat) (n0 : Nat) (K : St → Prop) (x1 : Int32) (x3 : Int32) : Nat → Int32 → St → Prop
  | 0, _, _ => False
  | n + 1, x2, S => if x3 ≤ x2 then (K S) else ((vp_in x2 n0 ∧ ∀ S2, S2 = su S kd0 u0 x2.toNatClampNeg x1 → wbJ7_fill_53178_5 kd0 u0 n0 K x1 x3 n (x2 + 1) S2))
set_option maxRecDepth 4000 in
theorem bJ7_fill_53178_5 {p : Program} {l : Launch} {e : Env} {R : Room} {s : State} {m : MethodId} {args : Array Value} {below : List Frame} {meth : Method} {c : Code} {D : va_G} {ad : Nat → Nat → Nat} {cs : Nat → ClassId} {P : Nat → Nat → Prop} {sz tU : Nat} {adK adV : Nat → Nat} {kd0 : Nat} {u0 : Nat} {n0 : Nat} {K : St → Prop} {x1 : Int32} {x3 : Int32} (E : Ex p s m args meth c R RJ7 cJ7_fill_53178 4 none 1 60 D ad cs P (wA ad P) tU adK adV cn0) (hp0 : P kd0 u0) (ha0 : ∀ (f : Nat → Int32) (w : Int64), lay ad cs kd0 u0 f w = .inl (cs 0, n0, .inl f)) : ∀ (n : Nat) (x2 : Int32) (S : St) (H : Heap) (locs : List Loc) (ls : Array Slot), wbJ7_fill_53178_5 kd0 u0 n0 K x1 x3 n x2 S → wH D ad cs P (wA ad P) s.heap sz S H locs → lv_has ls 4 [(0, .ref (ad kd0 u0)), (1, .int x1), (2, .int x2), (3, .int x3)] → W p l e R s m args below meth c H locs 0 0 (MQ below (va_Qv K (QX D ad cs P sz) (wA ad P)) args s 0 0 (wA ad P)) (F0 m 5 ls []) := by
  have hx := E.hx
  have hb := E.hb
  intro n
  induction n with
  | zero => intro x2 S H locs ls hw hh hl; exact hw.elim
  | succ n ih =>
    intro x2 S H locs ls hw hh hl
    refine lv_iload_n hx hb dJ7_fill_53178_5 rfl (lv_at hl 2 rfl) ?_
    refine lv_iload_n hx hb dJ7_fill_53178_6 rfl (lv_at hl 3 rfl) ?_
    refine lv_icmp_ge (tgt := 20) hx hb dJ7_fill_53178_7 (by decide) (fun c1 => ?_) (fun c1 => ?_)
    · have hw := ifT hw c1
      exact x_vret E hh hw dJ7_fill_53178_20
    · have hw := ifF hw c1
      refine lv_aload_n hx hb dJ7_fill_53178_10 rfl (lv_at hl 0 rfl) ?_
      refine lv_iload_n hx hb dJ7_fill_53178_11 rfl (lv_at hl 2 rfl) ?_
      refine lv_iload_n hx hb dJ7_fill_53178_12 rfl (lv_at hl 1 rfl) ?_
      obtain ⟨hi2, hw⟩ := hw
      refine x_iast E hh hp0 ha0 hi2 dJ7_fill_53178_13 (fun S2 H locs e2 hh => ?_)
      have hw := hw S2 e2
      refine lv_iinc (k := 2) (v := x2 + 1) (lv' := [(2, .int (x2 + 1)), (0, .ref (ad kd0 u0)), (1, .int x1), (3, .int x3)]) hx hb dJ7_fill_53178_14 hl rfl rfl (by decide) rfl (fun ls hl => ?_)
      refine lv_goto (tgt := 5) hx hb dJ7_fill_53178_17 (by decide) ?_
      exact ih (x2 + 1) S2 _ _ _ hw hh (lv_sub hl [1, 2, 0, 3] rfl)
def wpJ7_fill_53178 (kd0 : Nat) (u0 : Nat) (n0 : Nat) (x1 : Int32) (S : St) (K : St → Prop) : Prop := ∃ k, wbJ7_fill_53178_5 kd0 u0 n0 K x1 (Int32.ofNat n0) k 0 S
set_option maxRecDepth 4000 in
theorem bJ7_fill_53178 {p : Program} {l : Launch} {e : Env} {R : Room} {s : State} {m : MethodId} {args : Array Value} {below : List Frame} {meth : Method} {c : Code} {D : va_G} {ad : Nat → Nat → Nat} {cs : Nat → ClassId} {P : Nat → Nat → Prop} {sz tU : Nat} {adK adV : Nat → Nat} {K : St → Prop} {kd0 : Nat} {u0 : Nat} {n0 : Nat} {x1 : Int32} {S : St} {H : Heap} {locs : List Loc} {ls : Array Slot} (E : Ex p s m args meth c R RJ7 cJ7_fill_53178 4 none 1 60 D ad cs P (wA ad P) tU adK adV cn0) (hp0 : P kd0 u0) (ha0 : ∀ (f : Nat → Int32) (w : Int64), lay ad cs kd0 u0 f w = .inl (cs 0, n0, .inl f)) (hw : wpJ7_fill_53178 kd0 u0 n0 x1 S K) (hh : wH D ad cs P (wA ad P) s.heap sz S H locs) (hl : lv_has ls 4 [(0, .ref (ad kd0 u0)), (1, .int x1)]) : W p l e R s m args below meth c H locs 0 0 (MQ below (va_Qv K (QX D ad cs P sz) (wA ad P)) args s 0 0 (wA ad P)) (F0 m 0 ls []) := by
  have hx := E.hx
  have hb := E.hb
  refine lv_iconst (v := 0) hx hb dJ7_fill_53178_0 (by decide) ?_
  refine lv_istore_n (lv' := [(2, .int 0), (0, .ref (ad kd0 u0)), (1, .int x1)]) hx hb dJ7_fill_53178_1 rfl hl (by decide) rfl (fun ls hl => ?_)
  refine lv_aload_n hx hb dJ7_fill_53178_2 rfl (lv_at hl 1 rfl) ?_
  refine x_alen (v := Int32.ofNat n0) E hh hp0 ha0 (by decide) rfl dJ7_fill_53178_3 ?_
  refine lv_istore_n (lv' := [(3, .int (Int32.ofNat n0)), (2, .int 0), (0, .ref (ad kd0 u0)), (1, .int x1)]) hx hb dJ7_fill_53178_4 rfl hl (by decide) rfl (fun ls hl => ?_)
  obtain ⟨k, hw⟩ := hw
  exact bJ7_fill_53178_5 E hp0 ha0 k 0 S _ _ _ hw hh (lv_sub hl [2, 3, 1, 0] rfl)
theorem kJ7_fill_53178 : kS yJ7_fill_53178 cJ7_fill_53178 4 none 2 := ⟨tb307, tb14, tb308, by decide, by decide, by decide +kernel⟩
theorem mJ7_fill_53178 {l : Launch} {D : va_G} {ad : Nat → Nat → Nat} {cs : Nat → ClassId} {P : Nat → Nat → Prop} {sz tU : Nat} {adK adV : Nat → Nat} {kd0 : Nat} {u0 : Nat} {n0 : Nat} {x1 : Int32} {S : St} {K : St → Prop} (hI : wI ad P) (hn : ∀ kd i, i < cn0 kd → P kd i) (hp0 : P kd0 u0) (ha0 : ∀ (f : Nat → Int32) (w : Int64), lay ad cs kd0 u0 f w = .inl (cs 0, n0, .inl f)) (hw : wpJ7_fill_53178 kd0 u0 n0 x1 S K) : MV l yJ7_fill_53178 cJ7_fill_53178 4 none 1 60 D ad cs P sz tU adK adV [.ref (ad kd0 u0), .int x1] S K :=
  Met_of (by decide) (Nat.le_of_ble_eq_true rfl) hI hn (fun p e R s m args below meth c ls E hl hh => bJ7_fill_53178 E hp0 ha0 hw hh (lv_sub hl [0, 1] rfl))
def wpX5_at (x0 : Int32) (x1 : Int32) (S : St) (K : Int32 → St → Prop) : Prop := K ((x0 * 4) + x1) S
set_option maxRecDepth 4000 in
theorem bX5_at {p : Program} {l : Launch} {e : Env} {R : Room} {s : State} {m : MethodId} {args : Array Value} {below : List Frame} {meth : Method} {c : Code} {D : va_G} {ad : Nat → Nat → Nat} {cs : Nat → ClassId} {P : Nat → Nat → Prop} {sz tU : Nat} {adK adV : Nat → Nat} {K : Int32 → St → Prop} {x0 : Int32} {x1 : Int32} {S : St} {H : Heap} {locs : List Loc} {ls : Array Slot} (E : Ex p s m args meth c R RX5 cX5_at 2 (some .int) 1 60 D ad cs P (wA ad P) tU adK adV cn0) (hw : wpX5_at x0 x1 S K) (hh : wH D ad cs P (wA ad P) s.heap sz S H locs) (hl : lv_has ls 2 [(0, .int x0), (1, .int x1)]) : W p l e R s m args below meth c H locs 0 0 (MQ below (va_Qi K (QX D ad cs P sz) (wA ad P)) args s 0 0 (wA ad P)) (F0 m 0 ls []) := by
  have hx := E.hx
  have hb := E.hb
  refine lv_iload_n hx hb dX5_at_0 rfl (lv_at hl 0 rfl) ?_
  refine lv_iconst (v := 4) hx hb dX5_at_1 (by decide) ?_
  refine lv_imul hx hb dX5_at_2 ?_
  refine lv_iload_n hx hb dX5_at_3 rfl (lv_at hl 1 rfl) ?_
  refine lv_iadd hx hb dX5_at_4 ?_
  exact x_iret E hh hw dX5_at_5
theorem kX5_at : kS yX5_at cX5_at 2 (some .int) 2 := ⟨tb429, tb13, tb430, by decide, by decide, by decide +kernel⟩
theorem mX5_at {l : Launch} {D : va_G} {ad : Nat → Nat → Nat} {cs : Nat → ClassId} {P : Nat → Nat → Prop} {sz tU : Nat} {adK adV : Nat → Nat} {x0 : Int32} {x1 : Int32} {S : St} {K : Int32 → St → Prop} (hI : wI ad P) (hn : ∀ kd i, i < cn0 kd → P kd i) (hw : wpX5_at x0 x1 S K) : MI l yX5_at cX5_at 2 (some .int) 1 60 D ad cs P sz tU adK adV [.int x0, .int x1] S K :=
  Met_of (by decide) (Nat.le_of_ble_eq_true rfl) hI hn (fun p e R s m args below meth c ls E hl hh => bX5_at E  hw hh (lv_sub hl [0, 1] rfl))
def wbX3_joined_68 (K : Int32 → St → Prop) (S : St) : Prop := K 1 S
set_option maxRecDepth 4000 in
theorem bX3_joined_68 {p : Program} {l : Launch} {e : Env} {R : Room} {s : State} {m : MethodId} {args : Array Value} {below : List Frame} {meth : Method} {c : Code} {D : va_G} {ad : Nat → Nat → Nat} {cs : Nat → ClassId} {P : Nat → Nat → Prop} {sz tU : Nat} {adK adV : Nat → Nat} {K : Int32 → St → Prop} {S : St} {H : Heap} {locs : List Loc} {ls : Array Slot} (E : Ex p s m args meth c R RX3 cX3_joined 3 (some .int) 1 60 D ad cs P (wA ad P) tU adK adV cn0) (hw : wbX3_joined_68 K S) (hh : wH D ad cs P (wA ad P) s.heap sz S H locs) (hl : lv_has ls 3 []) : W p l e R s m args below meth c H locs 0 0 (MQ below (va_Qi K (QX D ad cs P sz) (wA ad P)) args s 0 0 (wA ad P)) (F0 m 68 ls []) := by
  have hx := E.hx
  have hb := E.hb
  refine lv_iconst (v := 1) hx hb dX3_joined_68 (by decide) ?_
  refine lv_goto (tgt := 73) hx hb dX3_joined_69 (by decide) ?_
  exact x_iret E hh hw dX3_joined_73
def wpX3_joined (x0 : Int32) (x1 : Int32) (x2 : Int32) (S : St) (K : Int32 → St → Prop) : Prop := (if (-x0) = 10 then (if x1 = 0 then (if x2 = 0 then (K 0 S) else (wbX3_joined_68 K S)) else (wbX3_joined_68 K S)) else (if (-x0) = 11 then (if x1 = 0 then (K 0 S) else (if x2 = 0 then (K 0 S) else (K 1 S))) else (if (-x0) = 43 then (K (x1 + x2) S) else (if (-x0) = 45 then (K (x1 - x2) S) else (if (-x0) = 60 then (if x2 ≤ x1 then (K 0 S) else (K 1 S)) else (if (-x0) = 61 then (if x1 = x2 then (K 1 S) else (K 0 S)) else (K (x1 * x2) S)))))))
set_option maxRecDepth 4000 in
theorem bX3_joined {p : Program} {l : Launch} {e : Env} {R : Room} {s : State} {m : MethodId} {args : Array Value} {below : List Frame} {meth : Method} {c : Code} {D : va_G} {ad : Nat → Nat → Nat} {cs : Nat → ClassId} {P : Nat → Nat → Prop} {sz tU : Nat} {adK adV : Nat → Nat} {K : Int32 → St → Prop} {x0 : Int32} {x1 : Int32} {x2 : Int32} {S : St} {H : Heap} {locs : List Loc} {ls : Array Slot} (E : Ex p s m args meth c R RX3 cX3_joined 3 (some .int) 1 60 D ad cs P (wA ad P) tU adK adV cn0) (hw : wpX3_joined x0 x1 x2 S K) (hh : wH D ad cs P (wA ad P) s.heap sz S H locs) (hl : lv_has ls 3 [(0, .int x0), (1, .int x1), (2, .int x2)]) : W p l e R s m args below meth c H locs 0 0 (MQ below (va_Qi K (QX D ad cs P sz) (wA ad P)) args s 0 0 (wA ad P)) (F0 m 0 ls []) := by
  have hx := E.hx
  have hb := E.hb
  refine lv_iload_n hx hb dX3_joined_0 rfl (lv_at hl 0 rfl) ?_
  refine lv_ineg hx hb dX3_joined_1 ?_
  by_cases c1 : (-x0) = 10
  · have hw := ifT hw c1
    refine lv_lookup (off := 58) (tgt := 60) hx hb dX3_joined_2 (by decide) (by rw [c1] <;> rfl) (by decide) ?_
    refine lv_iload_n hx hb dX3_joined_60 rfl (lv_at hl 1 rfl) ?_
    refine lv_if_ne (tgt := 68) hx hb dX3_joined_61 (by decide) (fun c2 => ?_) (fun c2 => ?_)
    · have hw := ifF hw c2
      exact bX3_joined_68 E hw hh (lv_sub hl [] rfl)
    · have hw := ifT hw c2
      refine lv_iload_n hx hb dX3_joined_64 rfl (lv_at hl 2 rfl) ?_
      refine lv_if_eq (tgt := 72) hx hb dX3_joined_65 (by decide) (fun c3 => ?_) (fun c3 => ?_)
      · have hw := ifT hw c3
        refine lv_iconst (v := 0) hx hb dX3_joined_72 (by decide) ?_
        exact x_iret E hh hw dX3_joined_73
      · have hw := ifF hw c3
        exact bX3_joined_68 E hw hh (lv_sub hl [] rfl)
  have hw := ifF hw c1
  by_cases c4 : (-x0) = 11
  · have hw := ifT hw c4
    refine lv_lookup (off := 72) (tgt := 74) hx hb dX3_joined_2 (by decide) (by rw [c4] <;> rfl) (by decide) ?_
    refine lv_iload_n hx hb dX3_joined_74 rfl (lv_at hl 1 rfl) ?_
    refine lv_if_eq (tgt := 86) hx hb dX3_joined_75 (by decide) (fun c5 => ?_) (fun c5 => ?_)
    · have hw := ifT hw c5
      refine lv_iconst (v := 0) hx hb dX3_joined_86 (by decide) ?_
      exact x_iret E hh hw dX3_joined_87
    · have hw := ifF hw c5
      refine lv_iload_n hx hb dX3_joined_78 rfl (lv_at hl 2 rfl) ?_
      refine lv_if_eq (tgt := 86) hx hb dX3_joined_79 (by decide) (fun c6 => ?_) (fun c6 => ?_)
      · have hw := ifT hw c6
        refine lv_iconst (v := 0) hx hb dX3_joined_86 (by decide) ?_
        exact x_iret E hh hw dX3_joined_87
      · have hw := ifF hw c6
        refine lv_iconst (v := 1) hx hb dX3_joined_82 (by decide) ?_
        refine lv_goto (tgt := 87) hx hb dX3_joined_83 (by decide) ?_
        exact x_iret E hh hw dX3_joined_87
  have hw := ifF hw c4
  by_cases c7 : (-x0) = 43
  · have hw := ifT hw c7
    refine lv_lookup (off := 108) (tgt := 110) hx hb dX3_joined_2 (by decide) (by rw [c7] <;> rfl) (by decide) ?_
    refine lv_iload_n hx hb dX3_joined_110 rfl (lv_at hl 1 rfl) ?_
    refine lv_iload_n hx hb dX3_joined_111 rfl (lv_at hl 2 rfl) ?_
    refine lv_iadd hx hb dX3_joined_112 ?_
    exact x_iret E hh hw dX3_joined_113
  have hw := ifF hw c7
  by_cases c8 : (-x0) = 45
  · have hw := ifT hw c8
    refine lv_lookup (off := 112) (tgt := 114) hx hb dX3_joined_2 (by decide) (by rw [c8] <;> rfl) (by decide) ?_
    refine lv_iload_n hx hb dX3_joined_114 rfl (lv_at hl 1 rfl) ?_
    refine lv_iload_n hx hb dX3_joined_115 rfl (lv_at hl 2 rfl) ?_
    refine lv_isub hx hb dX3_joined_116 ?_
    exact x_iret E hh hw dX3_joined_117
  have hw := ifF hw c8
  by_cases c9 : (-x0) = 60
  · have hw := ifT hw c9
    refine lv_lookup (off := 86) (tgt := 88) hx hb dX3_joined_2 (by decide) (by rw [c9] <;> rfl) (by decide) ?_
    refine lv_iload_n hx hb dX3_joined_88 rfl (lv_at hl 1 rfl) ?_
    refine lv_iload_n hx hb dX3_joined_89 rfl (lv_at hl 2 rfl) ?_
    refine lv_icmp_ge (tgt := 97) hx hb dX3_joined_90 (by decide) (fun c10 => ?_) (fun c10 => ?_)
    · have hw := ifT hw c10
      refine lv_iconst (v := 0) hx hb dX3_joined_97 (by decide) ?_
      exact x_iret E hh hw dX3_joined_98
    · have hw := ifF hw c10
      refine lv_iconst (v := 1) hx hb dX3_joined_93 (by decide) ?_
      refine lv_goto (tgt := 98) hx hb dX3_joined_94 (by decide) ?_
      exact x_iret E hh hw dX3_joined_98
  have hw := ifF hw c9
  by_cases c11 : (-x0) = 61
  · have hw := ifT hw c11
    refine lv_lookup (off := 97) (tgt := 99) hx hb dX3_joined_2 (by decide) (by rw [c11] <;> rfl) (by decide) ?_
    refine lv_iload_n hx hb dX3_joined_99 rfl (lv_at hl 1 rfl) ?_
    refine lv_iload_n hx hb dX3_joined_100 rfl (lv_at hl 2 rfl) ?_
    refine lv_icmp_ne (tgt := 108) hx hb dX3_joined_101 (by decide) (fun c12 => ?_) (fun c12 => ?_)
    · have hw := ifF hw c12
      refine lv_iconst (v := 0) hx hb dX3_joined_108 (by decide) ?_
      exact x_iret E hh hw dX3_joined_109
    · have hw := ifT hw c12
      refine lv_iconst (v := 1) hx hb dX3_joined_104 (by decide) ?_
      refine lv_goto (tgt := 109) hx hb dX3_joined_105 (by decide) ?_
      exact x_iret E hh hw dX3_joined_109
  have hw := ifF hw c11
  refine lv_lookup (off := 116) (tgt := 118) hx hb dX3_joined_2 (by decide) (by show Op.lookupswitch.offset [(10, 58), (11, 72), (43, 108), (45, 112), (60, 86), (61, 97)] _ _ = _; rw [lv_osw (a := 10) c1 (by decide), lv_osw (a := 11) c4 (by decide), lv_osw (a := 43) c7 (by decide), lv_osw (a := 45) c8 (by decide), lv_osw (a := 60) c9 (by decide), lv_osw (a := 61) c11 (by decide)] <;> rfl) (by decide) ?_
  refine lv_iload_n hx hb dX3_joined_118 rfl (lv_at hl 1 rfl) ?_
  refine lv_iload_n hx hb dX3_joined_119 rfl (lv_at hl 2 rfl) ?_
  refine lv_imul hx hb dX3_joined_120 ?_
  exact x_iret E hh hw dX3_joined_121
theorem kX3_joined : kS yX3_joined cX3_joined 3 (some .int) 3 := ⟨tb477, tb5, tb478, by decide, by decide, by decide +kernel⟩
theorem mX3_joined {l : Launch} {D : va_G} {ad : Nat → Nat → Nat} {cs : Nat → ClassId} {P : Nat → Nat → Prop} {sz tU : Nat} {adK adV : Nat → Nat} {x0 : Int32} {x1 : Int32} {x2 : Int32} {S : St} {K : Int32 → St → Prop} (hI : wI ad P) (hn : ∀ kd i, i < cn0 kd → P kd i) (hw : wpX3_joined x0 x1 x2 S K) : MI l yX3_joined cX3_joined 3 (some .int) 1 60 D ad cs P sz tU adK adV [.int x0, .int x1, .int x2] S K :=
  Met_of (by decide) (Nat.le_of_ble_eq_true rfl) hI hn (fun p e R s m args below meth c ls E hl hh => bX3_joined E  hw hh (lv_sub hl [0, 1, 2] rfl))
def wpX3_turned (x0 : Int32) (x1 : Int32) (S : St) (K : Int32 → St → Prop) : Prop := if x0 = (-13) then (K (-x1) S) else (if x1 = 0 then (K 1 S) else (K 0 S))
set_option maxRecDepth 4000 in
theorem bX3_turned {p : Program} {l : Launch} {e : Env} {R : Room} {s : State} {m : MethodId} {args : Array Value} {below : List Frame} {meth : Method} {c : Code} {D : va_G} {ad : Nat → Nat → Nat} {cs : Nat → ClassId} {P : Nat → Nat → Prop} {sz tU : Nat} {adK adV : Nat → Nat} {K : Int32 → St → Prop} {x0 : Int32} {x1 : Int32} {S : St} {H : Heap} {locs : List Loc} {ls : Array Slot} (E : Ex p s m args meth c R RX3 cX3_turned 2 (some .int) 1 60 D ad cs P (wA ad P) tU adK adV cn0) (hw : wpX3_turned x0 x1 S K) (hh : wH D ad cs P (wA ad P) s.heap sz S H locs) (hl : lv_has ls 2 [(0, .int x0), (1, .int x1)]) : W p l e R s m args below meth c H locs 0 0 (MQ below (va_Qi K (QX D ad cs P sz) (wA ad P)) args s 0 0 (wA ad P)) (F0 m 0 ls []) := by
  have hx := E.hx
  have hb := E.hb
  refine lv_iload_n hx hb dX3_turned_0 rfl (lv_at hl 0 rfl) ?_
  refine lv_bipush (v := (-13)) hx hb dX3_turned_1 (by decide) ?_
  refine lv_icmp_ne (tgt := 9) hx hb dX3_turned_3 (by decide) (fun c1 => ?_) (fun c1 => ?_)
  · have hw := ifF hw c1
    refine lv_iload_n hx hb dX3_turned_9 rfl (lv_at hl 1 rfl) ?_
    refine lv_if_ne (tgt := 17) hx hb dX3_turned_10 (by decide) (fun c2 => ?_) (fun c2 => ?_)
    · have hw := ifF hw c2
      refine lv_iconst (v := 0) hx hb dX3_turned_17 (by decide) ?_
      exact x_iret E hh hw dX3_turned_18
    · have hw := ifT hw c2
      refine lv_iconst (v := 1) hx hb dX3_turned_13 (by decide) ?_
      refine lv_goto (tgt := 18) hx hb dX3_turned_14 (by decide) ?_
      exact x_iret E hh hw dX3_turned_18
  · have hw := ifT hw c1
    refine lv_iload_n hx hb dX3_turned_6 rfl (lv_at hl 1 rfl) ?_
    refine lv_ineg hx hb dX3_turned_7 ?_
    exact x_iret E hh hw dX3_turned_8
theorem kX3_turned : kS yX3_turned cX3_turned 2 (some .int) 2 := ⟨tb474, tb5, tb475, by decide, by decide, by decide +kernel⟩
theorem mX3_turned {l : Launch} {D : va_G} {ad : Nat → Nat → Nat} {cs : Nat → ClassId} {P : Nat → Nat → Prop} {sz tU : Nat} {adK adV : Nat → Nat} {x0 : Int32} {x1 : Int32} {S : St} {K : Int32 → St → Prop} (hI : wI ad P) (hn : ∀ kd i, i < cn0 kd → P kd i) (hw : wpX3_turned x0 x1 S K) : MI l yX3_turned cX3_turned 2 (some .int) 1 60 D ad cs P sz tU adK adV [.int x0, .int x1] S K :=
  Met_of (by decide) (Nat.le_of_ble_eq_true rfl) hI hn (fun p e R s m args below meth c ls E hl hh => bX3_turned E  hw hh (lv_sub hl [0, 1] rfl))
def wbX3_value_161 (t : Nat) (u2 : Nat) (R20 : Int32 → Int32 → St → Prop) (K : Int32 → St → Prop) (x1 : Int32) (x3 : Int32) (x4 : Int32) (S : St) : Prop := R20 x3 (x4 + 1) S
set_option maxRecDepth 4000 in
theorem bX3_value_161 {p : Program} {l : Launch} {e : Env} {R : Room} {s : State} {m : MethodId} {args : Array Value} {below : List Frame} {meth : Method} {c : Code} {D : va_G} {ad : Nat → Nat → Nat} {cs : Nat → ClassId} {P : Nat → Nat → Prop} {sz tU : Nat} {adK adV : Nat → Nat} {t : Nat} {u2 : Nat} {R20 : Int32 → Int32 → St → Prop} {K : Int32 → St → Prop} {x1 : Int32} {x3 : Int32} {x4 : Int32} {S : St} {H : Heap} {locs : List Loc} {ls : Array Slot} (E : Ex p s m args meth c R RX3 cX3_value 6 (some .int) 2 82 D ad cs P (wA ad P) tU adK adV cnB) (ht : t < 6) (hp2 : P 17 u2) (hR20 : ∀ (z3 : Int32) (z4 : Int32) (S : St) (H : Heap) (locs : List Loc) (ls : Array Slot), R20 z3 z4 S → wH D ad cs P (wA ad P) s.heap sz S H locs → lv_has ls 6 [(0, .ref (ad 6 t)), (1, .int x1), (2, .ref (ad 17 u2)), (3, .int z3), (4, .int z4)] → W p l e R s m args below meth c H locs 0 0 (MQ below (va_Qi K (QX D ad cs P sz) (wA ad P)) args s 0 0 (wA ad P)) (F0 m 20 ls [])) (hw : wbX3_value_161 t u2 R20 K x1 x3 x4 S) (hh : wH D ad cs P (wA ad P) s.heap sz S H locs) (hl : lv_has ls 6 [(0, .ref (ad 6 t)), (1, .int x1), (2, .ref (ad 17 u2)), (3, .int x3), (4, .int x4)]) : W p l e R s m args below meth c H locs 0 0 (MQ below (va_Qi K (QX D ad cs P sz) (wA ad P)) args s 0 0 (wA ad P)) (F0 m 161 ls []) := by
  have hx := E.hx
  have hb := E.hb
  refine lv_iinc (k := 4) (v := x4 + 1) (lv' := [(4, .int (x4 + 1)), (0, .ref (ad 6 t)), (1, .int x1), (2, .ref (ad 17 u2)), (3, .int x3)]) hx hb dX3_value_161 hl rfl rfl (by decide) rfl (fun ls hl => ?_)
  refine lv_goto (tgt := 20) hx hb dX3_value_164 (by decide) ?_
  exact hR20 x3 (x4 + 1) S _ _ _ hw hh (lv_sub hl [1, 2, 3, 4, 0] rfl)
def wbX3_value_97 (t : Nat) (u2 : Nat) (R20 : Int32 → Int32 → St → Prop) (K : Int32 → St → Prop) (x1 : Int32) (x3 : Int32) (x4 : Int32) (x5 : Int32) (S : St) : Prop := if x3 < 1 then (wbX3_value_161 t u2 R20 K x1 x3 x4 S) else ((vp_in (x3 - 1) 160 ∧ wpX3_turned x5 (S.1 9 t (x3 - 1).toNatClampNeg) S (fun r20 S20 => (vp_in (x3 - 1) 160 ∧ ∀ S21, S21 = su S20 9 t (x3 - 1).toNatClampNeg r20 → wbX3_value_161 t u2 R20 K x1 x3 x4 S21))))
set_option maxRecDepth 4000 in
theorem bX3_value_97 {p : Program} {l : Launch} {e : Env} {R : Room} {s : State} {m : MethodId} {args : Array Value} {below : List Frame} {meth : Method} {c : Code} {D : va_G} {ad : Nat → Nat → Nat} {cs : Nat → ClassId} {P : Nat → Nat → Prop} {sz tU : Nat} {adK adV : Nat → Nat} {t : Nat} {u2 : Nat} {R20 : Int32 → Int32 → St → Prop} {K : Int32 → St → Prop} {x1 : Int32} {x3 : Int32} {x4 : Int32} {x5 : Int32} {S : St} {H : Heap} {locs : List Loc} {ls : Array Slot} (E : Ex p s m args meth c R RX3 cX3_value 6 (some .int) 2 82 D ad cs P (wA ad P) tU adK adV cnB) (ht : t < 6) (hp2 : P 17 u2) (hR20 : ∀ (z3 : Int32) (z4 : Int32) (S : St) (H : Heap) (locs : List Loc) (ls : Array Slot), R20 z3 z4 S → wH D ad cs P (wA ad P) s.heap sz S H locs → lv_has ls 6 [(0, .ref (ad 6 t)), (1, .int x1), (2, .ref (ad 17 u2)), (3, .int z3), (4, .int z4)] → W p l e R s m args below meth c H locs 0 0 (MQ below (va_Qi K (QX D ad cs P sz) (wA ad P)) args s 0 0 (wA ad P)) (F0 m 20 ls [])) (hw : wbX3_value_97 t u2 R20 K x1 x3 x4 x5 S) (hh : wH D ad cs P (wA ad P) s.heap sz S H locs) (hl : lv_has ls 6 [(0, .ref (ad 6 t)), (1, .int x1), (2, .ref (ad 17 u2)), (3, .int x3), (4, .int x4), (5, .int x5)]) : W p l e R s m args below meth c H locs 0 0 (MQ below (va_Qi K (QX D ad cs P sz) (wA ad P)) args s 0 0 (wA ad P)) (F0 m 97 ls []) := by
  have hx := E.hx
  have hb := E.hb
  refine lv_iload_n hx hb dX3_value_97 rfl (lv_at hl 3 rfl) ?_
  refine lv_iconst (v := 1) hx hb dX3_value_98 (by decide) ?_
  refine lv_icmp_lt (tgt := 161) hx hb dX3_value_99 (by decide) (fun c18 => ?_) (fun c18 => ?_)
  · have hw := ifT hw c18
    exact bX3_value_161 E ht hp2 hR20 hw hh (lv_sub hl [0, 1, 2, 3, 4] rfl)
  · have hw := ifF hw c18
    refine lv_aload_n hx hb dX3_value_102 rfl (lv_at hl 0 rfl) ?_
    refine g_6_3 E hh tb136 (E.hn 6 t ht) dX3_value_103 ?_
    refine lv_iload_n hx hb dX3_value_106 rfl (lv_at hl 3 rfl) ?_
    refine lv_iconst (v := 1) hx hb dX3_value_107 (by decide) ?_
    refine lv_isub hx hb dX3_value_108 ?_
    refine lv_iload hx hb dX3_value_109 (lv_at hl 5 rfl) ?_
    refine lv_aload_n hx hb dX3_value_111 rfl (lv_at hl 0 rfl) ?_
    refine g_6_3 E hh tb136 (E.hn 6 t ht) dX3_value_112 ?_
    refine lv_iload_n hx hb dX3_value_115 rfl (lv_at hl 3 rfl) ?_
    refine lv_iconst (v := 1) hx hb dX3_value_116 (by decide) ?_
    refine lv_isub hx hb dX3_value_117 ?_
    obtain ⟨hi19, hw⟩ := hw
    refine x_iald E hh (E.hn 9 t ht) ly_9 hi19 dX3_value_118 ?_
    refine x_ci E.hA hh (x_runS E hh (mX3_turned E.hI (fun _ _ h => absurd h (Nat.not_lt_zero _)) hw) kX3_turned tb473 ⟨by decide, by decide⟩ rfl hl.1 rfl (Nat.le_of_ble_eq_true rfl) dX3_value_119 ⟨Nat.zero_le _, Nat.zero_le _⟩) (fun r20 S20 H locs hw hh => ?_)
    obtain ⟨hi21, hw⟩ := hw
    refine x_iast E hh (E.hn 9 t ht) ly_9 hi21 dX3_value_122 (fun S21 H locs e21 hh => ?_)
    have hw := hw S21 e21
    refine lv_goto (tgt := 161) hx hb dX3_value_123 (by decide) ?_
    exact bX3_value_161 E ht hp2 hR20 hw hh (lv_sub hl [0, 1, 2, 3, 4] rfl)
def wbX3_value_76 (t : Nat) (u2 : Nat) (R20 : Int32 → Int32 → St → Prop) (K : Int32 → St → Prop) (x1 : Int32) (x3 : Int32) (x4 : Int32) (v0 : Int32) (v1 : Int32) (S : St) : Prop := (vp_in v1 160 ∧ ∀ S22, S22 = su S 9 t v1.toNatClampNeg v0 → wbX3_value_161 t u2 R20 K x1 (x3 + 1) x4 S22)
set_option maxRecDepth 4000 in
theorem bX3_value_76 {p : Program} {l : Launch} {e : Env} {R : Room} {s : State} {m : MethodId} {args : Array Value} {below : List Frame} {meth : Method} {c : Code} {D : va_G} {ad : Nat → Nat → Nat} {cs : Nat → ClassId} {P : Nat → Nat → Prop} {sz tU : Nat} {adK adV : Nat → Nat} {t : Nat} {u2 : Nat} {R20 : Int32 → Int32 → St → Prop} {K : Int32 → St → Prop} {x1 : Int32} {x3 : Int32} {x4 : Int32} {v0 : Int32} {v1 : Int32} {S : St} {H : Heap} {locs : List Loc} {ls : Array Slot} (E : Ex p s m args meth c R RX3 cX3_value 6 (some .int) 2 82 D ad cs P (wA ad P) tU adK adV cnB) (ht : t < 6) (hp2 : P 17 u2) (hR20 : ∀ (z3 : Int32) (z4 : Int32) (S : St) (H : Heap) (locs : List Loc) (ls : Array Slot), R20 z3 z4 S → wH D ad cs P (wA ad P) s.heap sz S H locs → lv_has ls 6 [(0, .ref (ad 6 t)), (1, .int x1), (2, .ref (ad 17 u2)), (3, .int z3), (4, .int z4)] → W p l e R s m args below meth c H locs 0 0 (MQ below (va_Qi K (QX D ad cs P sz) (wA ad P)) args s 0 0 (wA ad P)) (F0 m 20 ls [])) (hw : wbX3_value_76 t u2 R20 K x1 x3 x4 v0 v1 S) (hh : wH D ad cs P (wA ad P) s.heap sz S H locs) (hl : lv_has ls 6 [(0, .ref (ad 6 t)), (1, .int x1), (2, .ref (ad 17 u2)), (3, .int x3), (4, .int x4)]) : W p l e R s m args below meth c H locs 0 0 (MQ below (va_Qi K (QX D ad cs P sz) (wA ad P)) args s 0 0 (wA ad P)) (F0 m 76 ls [.int v0, .int v1, .ref (ad 9 t)]) := by
  have hx := E.hx
  have hb := E.hb
  obtain ⟨hi22, hw⟩ := hw
  refine x_iast E hh (E.hn 9 t ht) ly_9 hi22 dX3_value_76 (fun S22 H locs e22 hh => ?_)
  have hw := hw S22 e22
  refine lv_iinc (k := 3) (v := x3 + 1) (lv' := [(3, .int (x3 + 1)), (0, .ref (ad 6 t)), (1, .int x1), (2, .ref (ad 17 u2)), (4, .int x4)]) hx hb dX3_value_77 hl rfl rfl (by decide) rfl (fun ls hl => ?_)
  refine lv_goto (tgt := 161) hx hb dX3_value_80 (by decide) ?_
  exact bX3_value_161 E ht hp2 hR20 hw hh (lv_sub hl [1, 2, 3, 0, 4] rfl)
def wbX3_value_20 (t : Nat) (u2 : Nat) (K : Int32 → St → Prop) (x1 : Int32) : Nat → Int32 → Int32 → St → Prop
  | 0, _, _, _ => False
  | n + 1, x3, x4, S => (vp_in x1 3 ∧ if (S.1 8 t x1.toNatClampNeg) ≤ x4 then ((vp_in 0 160 ∧ K (S.1 9 t (0 : Int32).toNatClampNeg) S)) else ((vp_in x4 160 ∧ if (S.1 7 t x4.toNatClampNeg) ≤ (-7) then (if (S.1 7 t x4.toNatClampNeg) = (-12) then (wbX3_value_97 t u2 (fun yx3 yx4 S9 => wbX3_value_20 t u2 K x1 n yx3 yx4 S9) K x1 x3 x4 (S.1 7 t x4.toNatClampNeg) S) else (if (S.1 7 t x4.toNatClampNeg) = (-13) then (wbX3_value_97 t u2 (fun yx3 yx4 S9 => wbX3_value_20 t u2 K x1 n yx3 yx4 S9) K x1 x3 x4 (S.1 7 t x4.toNatClampNeg) S) else (if x3 < 2 then (wbX3_value_161 t u2 (fun yx3 yx4 S9 => wbX3_value_20 t u2 K x1 n yx3 yx4 S9) K x1 x3 x4 S) else ((vp_in ((x3 + (-1)) - 1) 160 ∧ (vp_in (x3 + (-1)) 160 ∧ wpX3_joined (S.1 7 t x4.toNatClampNeg) (S.1 9 t ((x3 + (-1)) - 1).toNatClampNeg) (S.1 9 t (x3 + (-1)).toNatClampNeg) S (fun r13 S13 => (vp_in ((x3 + (-1)) - 1) 160 ∧ ∀ S14, S14 = su S13 9 t ((x3 + (-1)) - 1).toNatClampNeg r13 → wbX3_value_161 t u2 (fun yx3 yx4 S9 => wbX3_value_20 t u2 K x1 n yx3 yx4 S9) K x1 (x3 + (-1)) x4 S14)))))))) else (if 160 ≤ x3 then (wbX3_value_161 t u2 (fun yx3 yx4 S9 => wbX3_value_20 t u2 K x1 n yx3 yx4 S9) K x1 x3 x4 S) else (if (S.1 7 t x4.toNatClampNeg) < 0 then ((vp_in (-(S.1 7 t x4.toNatClampNeg)) 7 ∧ wbX3_value_76 t u2 (fun yx3 yx4 S9 => wbX3_value_20 t u2 K x1 n yx3 yx4 S9) K x1 x3 x4 (S.1 17 u2 (-(S.1 7 t x4.toNatClampNeg)).toNatClampNeg) x3 S)) else (wbX3_value_76 t u2 (fun yx3 yx4 S9 => wbX3_value_20 t u2 K x1 n yx3 yx4 S9) K x1 x3 x4 (S.1 7 t x4.toNatClampNeg) x3 S))))))
set_option maxRecDepth 4000 in
theorem bX3_value_20 {p : Program} {l : Launch} {e : Env} {R : Room} {s : State} {m : MethodId} {args : Array Value} {below : List Frame} {meth : Method} {c : Code} {D : va_G} {ad : Nat → Nat → Nat} {cs : Nat → ClassId} {P : Nat → Nat → Prop} {sz tU : Nat} {adK adV : Nat → Nat} {t : Nat} {u2 : Nat} {K : Int32 → St → Prop} {x1 : Int32} (E : Ex p s m args meth c R RX3 cX3_value 6 (some .int) 2 82 D ad cs P (wA ad P) tU adK adV cnB) (ht : t < 6) (hp2 : P 17 u2) : ∀ (n : Nat) (x3 : Int32) (x4 : Int32) (S : St) (H : Heap) (locs : List Loc) (ls : Array Slot), wbX3_value_20 t u2 K x1 n x3 x4 S → wH D ad cs P (wA ad P) s.heap sz S H locs → lv_has ls 6 [(0, .ref (ad 6 t)), (1, .int x1), (2, .ref (ad 17 u2)), (3, .int x3), (4, .int x4)] → W p l e R s m args below meth c H locs 0 0 (MQ below (va_Qi K (QX D ad cs P sz) (wA ad P)) args s 0 0 (wA ad P)) (F0 m 20 ls []) := by
  have hx := E.hx
  have hb := E.hb
  intro n
  induction n with
  | zero => intro x3 x4 S H locs ls hw hh hl; exact hw.elim
  | succ n ih =>
    intro x3 x4 S H locs ls hw hh hl
    refine lv_iload hx hb dX3_value_20 (lv_at hl 4 rfl) ?_
    refine lv_aload_n hx hb dX3_value_22 rfl (lv_at hl 0 rfl) ?_
    refine g_6_2 E hh tb135 (E.hn 6 t ht) dX3_value_23 ?_
    refine lv_iload_n hx hb dX3_value_26 rfl (lv_at hl 1 rfl) ?_
    obtain ⟨hi3, hw⟩ := hw
    refine x_iald E hh (E.hn 8 t ht) ly_8 hi3 dX3_value_27 ?_
    refine lv_icmp_ge (tgt := 167) hx hb dX3_value_28 (by decide) (fun c4 => ?_) (fun c4 => ?_)
    · have hw := ifT hw c4
      refine lv_aload_n hx hb dX3_value_167 rfl (lv_at hl 0 rfl) ?_
      refine g_6_3 E hh tb136 (E.hn 6 t ht) dX3_value_168 ?_
      refine lv_iconst (v := 0) hx hb dX3_value_171 (by decide) ?_
      obtain ⟨hi5, hw⟩ := hw
      refine x_iald E hh (E.hn 9 t ht) ly_9 hi5 dX3_value_172 ?_
      exact x_iret E hh hw dX3_value_173
    · have hw := ifF hw c4
      refine lv_aload_n hx hb dX3_value_31 rfl (lv_at hl 0 rfl) ?_
      refine g_6_1 E hh tb134 (E.hn 6 t ht) dX3_value_32 ?_
      refine lv_iload hx hb dX3_value_35 (lv_at hl 4 rfl) ?_
      obtain ⟨hi6, hw⟩ := hw
      refine x_iald E hh (E.hn 7 t ht) ly_7 hi6 dX3_value_37 ?_
      refine lv_istore (lv' := [(5, .int (S.1 7 t x4.toNatClampNeg)), (0, .ref (ad 6 t)), (1, .int x1), (2, .ref (ad 17 u2)), (3, .int x3), (4, .int x4)]) hx hb dX3_value_38 hl (by decide) rfl (fun ls hl => ?_)
      refine lv_iload hx hb dX3_value_40 (lv_at hl 0 rfl) ?_
      refine lv_bipush (v := (-7)) hx hb dX3_value_42 (by decide) ?_
      refine lv_icmp_le (tgt := 83) hx hb dX3_value_44 (by decide) (fun c7 => ?_) (fun c7 => ?_)
      · have hw := ifT hw c7
        refine lv_iload hx hb dX3_value_83 (lv_at hl 0 rfl) ?_
        refine lv_bipush (v := (-12)) hx hb dX3_value_85 (by decide) ?_
        refine lv_icmp_eq (tgt := 97) hx hb dX3_value_87 (by decide) (fun c8 => ?_) (fun c8 => ?_)
        · have hw := ifT hw c8
          exact bX3_value_97 E ht hp2 ih hw hh (lv_sub hl [1, 2, 3, 4, 5, 0] rfl)
        · have hw := ifF hw c8
          refine lv_iload hx hb dX3_value_90 (lv_at hl 0 rfl) ?_
          refine lv_bipush (v := (-13)) hx hb dX3_value_92 (by decide) ?_
          refine lv_icmp_ne (tgt := 126) hx hb dX3_value_94 (by decide) (fun c9 => ?_) (fun c9 => ?_)
          · have hw := ifF hw c9
            refine lv_iload_n hx hb dX3_value_126 rfl (lv_at hl 4 rfl) ?_
            refine lv_iconst (v := 2) hx hb dX3_value_127 (by decide) ?_
            refine lv_icmp_lt (tgt := 161) hx hb dX3_value_128 (by decide) (fun c10 => ?_) (fun c10 => ?_)
            · have hw := ifT hw c10
              exact bX3_value_161 E ht hp2 ih hw hh (lv_sub hl [1, 2, 3, 4, 5] rfl)
            · have hw := ifF hw c10
              refine lv_iinc (k := 4) (v := x3 + (-1)) (lv' := [(3, .int (x3 + (-1))), (5, .int (S.1 7 t x4.toNatClampNeg)), (0, .ref (ad 6 t)), (1, .int x1), (2, .ref (ad 17 u2)), (4, .int x4)]) hx hb dX3_value_131 hl rfl rfl (by decide) rfl (fun ls hl => ?_)
              refine lv_aload_n hx hb dX3_value_134 rfl (lv_at hl 2 rfl) ?_
              refine g_6_3 E hh tb136 (E.hn 6 t ht) dX3_value_135 ?_
              refine lv_iload_n hx hb dX3_value_138 rfl (lv_at hl 0 rfl) ?_
              refine lv_iconst (v := 1) hx hb dX3_value_139 (by decide) ?_
              refine lv_isub hx hb dX3_value_140 ?_
              refine lv_iload hx hb dX3_value_141 (lv_at hl 1 rfl) ?_
              refine lv_aload_n hx hb dX3_value_143 rfl (lv_at hl 2 rfl) ?_
              refine g_6_3 E hh tb136 (E.hn 6 t ht) dX3_value_144 ?_
              refine lv_iload_n hx hb dX3_value_147 rfl (lv_at hl 0 rfl) ?_
              refine lv_iconst (v := 1) hx hb dX3_value_148 (by decide) ?_
              refine lv_isub hx hb dX3_value_149 ?_
              obtain ⟨hi11, hw⟩ := hw
              refine x_iald E hh (E.hn 9 t ht) ly_9 hi11 dX3_value_150 ?_
              refine lv_aload_n hx hb dX3_value_151 rfl (lv_at hl 2 rfl) ?_
              refine g_6_3 E hh tb136 (E.hn 6 t ht) dX3_value_152 ?_
              refine lv_iload_n hx hb dX3_value_155 rfl (lv_at hl 0 rfl) ?_
              obtain ⟨hi12, hw⟩ := hw
              refine x_iald E hh (E.hn 9 t ht) ly_9 hi12 dX3_value_156 ?_
              refine x_ci E.hA hh (x_runS E hh (mX3_joined E.hI (fun _ _ h => absurd h (Nat.not_lt_zero _)) hw) kX3_joined tb476 ⟨by decide, by decide⟩ rfl hl.1 rfl (Nat.le_of_ble_eq_true rfl) dX3_value_157 ⟨Nat.zero_le _, Nat.zero_le _⟩) (fun r13 S13 H locs hw hh => ?_)
              obtain ⟨hi14, hw⟩ := hw
              refine x_iast E hh (E.hn 9 t ht) ly_9 hi14 dX3_value_160 (fun S14 H locs e14 hh => ?_)
              have hw := hw S14 e14
              exact bX3_value_161 E ht hp2 ih hw hh (lv_sub hl [2, 3, 4, 0, 5] rfl)
          · have hw := ifT hw c9
            exact bX3_value_97 E ht hp2 ih hw hh (lv_sub hl [1, 2, 3, 4, 5, 0] rfl)
      · have hw := ifF hw c7
        refine lv_iload_n hx hb dX3_value_47 rfl (lv_at hl 4 rfl) ?_
        refine lv_aload_n hx hb dX3_value_48 rfl (lv_at hl 1 rfl) ?_
        refine g_6_3 E hh tb136 (E.hn 6 t ht) dX3_value_49 ?_
        refine x_alen (v := 160) E hh (E.hn 9 t ht) ly_9 (by decide) rfl dX3_value_52 ?_
        refine lv_icmp_ge (tgt := 161) hx hb dX3_value_53 (by decide) (fun c15 => ?_) (fun c15 => ?_)
        · have hw := ifT hw c15
          exact bX3_value_161 E ht hp2 ih hw hh (lv_sub hl [1, 2, 3, 4, 5] rfl)
        · have hw := ifF hw c15
          refine lv_aload_n hx hb dX3_value_56 rfl (lv_at hl 1 rfl) ?_
          refine g_6_3 E hh tb136 (E.hn 6 t ht) dX3_value_57 ?_
          refine lv_iload_n hx hb dX3_value_60 rfl (lv_at hl 4 rfl) ?_
          refine lv_iload hx hb dX3_value_61 (lv_at hl 0 rfl) ?_
          refine lv_if_lt (tgt := 71) hx hb dX3_value_63 (by decide) (fun c16 => ?_) (fun c16 => ?_)
          · have hw := ifT hw c16
            refine lv_aload_n hx hb dX3_value_71 rfl (lv_at hl 3 rfl) ?_
            refine lv_iload hx hb dX3_value_72 (lv_at hl 0 rfl) ?_
            refine lv_ineg hx hb dX3_value_74 ?_
            obtain ⟨hi17, hw⟩ := hw
            refine x_iald E hh hp2 ly_17 hi17 dX3_value_75 ?_
            exact bX3_value_76 E ht hp2 ih hw hh (lv_sub hl [1, 2, 3, 4, 5] rfl)
          · have hw := ifF hw c16
            refine lv_iload hx hb dX3_value_66 (lv_at hl 0 rfl) ?_
            refine lv_goto (tgt := 76) hx hb dX3_value_68 (by decide) ?_
            exact bX3_value_76 E ht hp2 ih hw hh (lv_sub hl [1, 2, 3, 4, 5] rfl)
def wbX3_value_18 (t : Nat) (u2 : Nat) (K : Int32 → St → Prop) (x1 : Int32) (x3 : Int32) (v0 : Int32) (S : St) : Prop := ∃ k, wbX3_value_20 t u2 K x1 k x3 v0 S
set_option maxRecDepth 4000 in
theorem bX3_value_18 {p : Program} {l : Launch} {e : Env} {R : Room} {s : State} {m : MethodId} {args : Array Value} {below : List Frame} {meth : Method} {c : Code} {D : va_G} {ad : Nat → Nat → Nat} {cs : Nat → ClassId} {P : Nat → Nat → Prop} {sz tU : Nat} {adK adV : Nat → Nat} {t : Nat} {u2 : Nat} {K : Int32 → St → Prop} {x1 : Int32} {x3 : Int32} {v0 : Int32} {S : St} {H : Heap} {locs : List Loc} {ls : Array Slot} (E : Ex p s m args meth c R RX3 cX3_value 6 (some .int) 2 82 D ad cs P (wA ad P) tU adK adV cnB) (ht : t < 6) (hp2 : P 17 u2) (hw : wbX3_value_18 t u2 K x1 x3 v0 S) (hh : wH D ad cs P (wA ad P) s.heap sz S H locs) (hl : lv_has ls 6 [(0, .ref (ad 6 t)), (1, .int x1), (2, .ref (ad 17 u2)), (3, .int x3)]) : W p l e R s m args below meth c H locs 0 0 (MQ below (va_Qi K (QX D ad cs P sz) (wA ad P)) args s 0 0 (wA ad P)) (F0 m 18 ls [.int v0]) := by
  have hx := E.hx
  have hb := E.hb
  refine lv_istore (lv' := [(4, .int v0), (0, .ref (ad 6 t)), (1, .int x1), (2, .ref (ad 17 u2)), (3, .int x3)]) hx hb dX3_value_18 hl (by decide) rfl (fun ls hl => ?_)
  obtain ⟨k, hw⟩ := hw
  exact bX3_value_20 E ht hp2 k x3 v0 S _ _ _ hw hh (lv_sub hl [1, 2, 3, 4, 0] rfl)
def wpX3_value (t : Nat) (x1 : Int32) (u2 : Nat) (S : St) (K : Int32 → St → Prop) : Prop := if x1 = 0 then (wbX3_value_18 t u2 K x1 0 0 S) else ((vp_in (x1 - 1) 3 ∧ wbX3_value_18 t u2 K x1 0 (S.1 8 t (x1 - 1).toNatClampNeg) S))
set_option maxRecDepth 4000 in
theorem bX3_value {p : Program} {l : Launch} {e : Env} {R : Room} {s : State} {m : MethodId} {args : Array Value} {below : List Frame} {meth : Method} {c : Code} {D : va_G} {ad : Nat → Nat → Nat} {cs : Nat → ClassId} {P : Nat → Nat → Prop} {sz tU : Nat} {adK adV : Nat → Nat} {K : Int32 → St → Prop} {t : Nat} {x1 : Int32} {u2 : Nat} {S : St} {H : Heap} {locs : List Loc} {ls : Array Slot} (E : Ex p s m args meth c R RX3 cX3_value 6 (some .int) 2 82 D ad cs P (wA ad P) tU adK adV cnB) (ht : t < 6) (hp2 : P 17 u2) (hw : wpX3_value t x1 u2 S K) (hh : wH D ad cs P (wA ad P) s.heap sz S H locs) (hl : lv_has ls 6 [(0, .ref (ad 6 t)), (1, .int x1), (2, .ref (ad 17 u2))]) : W p l e R s m args below meth c H locs 0 0 (MQ below (va_Qi K (QX D ad cs P sz) (wA ad P)) args s 0 0 (wA ad P)) (F0 m 0 ls []) := by
  have hx := E.hx
  have hb := E.hb
  refine lv_iconst (v := 0) hx hb dX3_value_0 (by decide) ?_
  refine lv_istore_n (lv' := [(3, .int 0), (0, .ref (ad 6 t)), (1, .int x1), (2, .ref (ad 17 u2))]) hx hb dX3_value_1 rfl hl (by decide) rfl (fun ls hl => ?_)
  refine lv_iload_n hx hb dX3_value_2 rfl (lv_at hl 2 rfl) ?_
  refine lv_if_ne (tgt := 10) hx hb dX3_value_3 (by decide) (fun c1 => ?_) (fun c1 => ?_)
  · have hw := ifF hw c1
    refine lv_aload_n hx hb dX3_value_10 rfl (lv_at hl 1 rfl) ?_
    refine g_6_2 E hh tb135 (E.hn 6 t ht) dX3_value_11 ?_
    refine lv_iload_n hx hb dX3_value_14 rfl (lv_at hl 2 rfl) ?_
    refine lv_iconst (v := 1) hx hb dX3_value_15 (by decide) ?_
    refine lv_isub hx hb dX3_value_16 ?_
    obtain ⟨hi2, hw⟩ := hw
    refine x_iald E hh (E.hn 8 t ht) ly_8 hi2 dX3_value_17 ?_
    exact bX3_value_18 E ht hp2 hw hh (lv_sub hl [1, 2, 3, 0] rfl)
  · have hw := ifT hw c1
    refine lv_iconst (v := 0) hx hb dX3_value_6 (by decide) ?_
    refine lv_goto (tgt := 18) hx hb dX3_value_7 (by decide) ?_
    exact bX3_value_18 E ht hp2 hw hh (lv_sub hl [1, 2, 3, 0] rfl)
theorem kX3_value : kI yX3_value cX3_value 6 (some .int) 2 := ⟨tb470, tb471, tb5, tb472, by decide, by decide, by decide +kernel⟩
theorem mX3_value {l : Launch} {D : va_G} {ad : Nat → Nat → Nat} {cs : Nat → ClassId} {P : Nat → Nat → Prop} {sz tU : Nat} {adK adV : Nat → Nat} {t : Nat} {x1 : Int32} {u2 : Nat} {S : St} {K : Int32 → St → Prop} (hI : wI ad P) (hn : ∀ kd i, i < cnB kd → P kd i) (ht : t < 6) (hp2 : P 17 u2) (hw : wpX3_value t x1 u2 S K) : MI l yX3_value cX3_value 6 (some .int) 2 82 D ad cs P sz tU adK adV [.ref (ad 6 t), .int x1, .ref (ad 17 u2)] S K :=
  Met_of (by decide) (Nat.le_of_ble_eq_true rfl) hI hn (fun p e R s m args below meth c ls E hl hh => bX3_value E ht hp2 hw hh (lv_sub hl [0, 1, 2] rfl))
def wpJ0_isLatin1_aae02 (t : Nat) (S : St) (K : Int32 → St → Prop) : Prop := if (1 : Int32) = 0 then (K 0 S) else (if (0 : Int32) = 0 then (K 1 S) else (K 0 S))
set_option maxRecDepth 4000 in
theorem bJ0_isLatin1_aae02 {p : Program} {l : Launch} {e : Env} {R : Room} {s : State} {m : MethodId} {args : Array Value} {below : List Frame} {meth : Method} {c : Code} {D : va_G} {ad : Nat → Nat → Nat} {cs : Nat → ClassId} {P : Nat → Nat → Prop} {sz tU : Nat} {adK adV : Nat → Nat} {K : Int32 → St → Prop} {t : Nat} {S : St} {H : Heap} {locs : List Loc} {ls : Array Slot} (E : Ex p s m args meth c R RJ0 cJ0_isLatin1_aae02 1 (some .boolean) 1 60 D ad cs P (wA ad P) tU adK adV cn0) (ht : t < nJS) (hw : wpJ0_isLatin1_aae02 t S K) (hh : wH D ad cs P (wA ad P) s.heap sz S H locs) (hl : lv_has ls 1 [(0, .ref (adK t))]) : W p l e R s m args below meth c H locs 0 0 (MQ below (va_Qi (fun r S => K r S ∧ narrow .boolean (.int r) = .int r) (QX D ad cs P sz) (wA ad P)) args s 0 0 (wA ad P)) (F0 m 0 ls []) := by
  have hx := E.hx
  have hb := E.hb
  refine va_gets hx hb E.hE.1 hh.2.1 E.hown (E.hts _ tb173) (fun _ q => q) dJ0_isLatin1_aae02_0 ?_
  refine lv_if_eq (tgt := 17) hx hb dJ0_isLatin1_aae02_3 (by decide) (fun c1 => ?_) (fun c1 => ?_)
  · have hw := ifT hw c1
    refine lv_iconst (v := 0) hx hb dJ0_isLatin1_aae02_17 (by decide) ?_
    exact x_zret E hh hw rfl dJ0_isLatin1_aae02_18
  · have hw := ifF hw c1
    refine lv_aload_n hx hb dJ0_isLatin1_aae02_6 rfl (lv_at hl 0 rfl) ?_
    refine vk_getf hx hb (E.hE.2.2.2.1.1 t ht).2.1 hh.2.1 E.hown (E.hts _ tb1203) (fun _ q => q) dJ0_isLatin1_aae02_7 ?_
    refine lv_if_ne (tgt := 17) hx hb dJ0_isLatin1_aae02_10 (by decide) (fun c2 => ?_) (fun c2 => ?_)
    · have hw := ifF hw c2
      refine lv_iconst (v := 0) hx hb dJ0_isLatin1_aae02_17 (by decide) ?_
      exact x_zret E hh hw rfl dJ0_isLatin1_aae02_18
    · have hw := ifT hw c2
      refine lv_iconst (v := 1) hx hb dJ0_isLatin1_aae02_13 (by decide) ?_
      refine lv_goto (tgt := 18) hx hb dJ0_isLatin1_aae02_14 (by decide) ?_
      exact x_zret E hh hw rfl dJ0_isLatin1_aae02_18
theorem kJ0_isLatin1_aae02 : kI yJ0_isLatin1_aae02 cJ0_isLatin1_aae02 1 (some .boolean) 0 := ⟨tb180, tb181, tb7, tb182, by decide, by decide, by decide +kernel⟩
theorem mJ0_isLatin1_aae02 {l : Launch} {D : va_G} {ad : Nat → Nat → Nat} {cs : Nat → ClassId} {P : Nat → Nat → Prop} {sz tU : Nat} {adK adV : Nat → Nat} {t : Nat} {S : St} {K : Int32 → St → Prop} (hI : wI ad P) (hn : ∀ kd i, i < cn0 kd → P kd i) (ht : t < nJS) (hw : wpJ0_isLatin1_aae02 t S K) : MI l yJ0_isLatin1_aae02 cJ0_isLatin1_aae02 1 (some .boolean) 1 60 D ad cs P sz tU adK adV [.ref (adK t)] S (fun r S => K r S ∧ narrow .boolean (.int r) = .int r) :=
  Met_of (by decide) (Nat.le_of_ble_eq_true rfl) hI hn (fun p e R s m args below meth c ls E hl hh => bJ0_isLatin1_aae02 E ht hw hh (lv_sub hl [0] rfl))
def wpJ1_charAt_3b067 (u0 : Nat) (x1 : Int32) (S : St) (K : Int32 → St → Prop) : Prop := wpJ0_checkIndex_df160 x1 (Int32.ofNat (lenJS.getD u0 0)) S (fun S1 => (vp_in x1 (lenJS.getD u0 0) ∧ (narrow .char (.int (((((bytJS.getD u0 []).getD x1.toNatClampNeg 0) &&& 255).toUInt32 % 65536).toInt32)) = .int (((((bytJS.getD u0 []).getD x1.toNatClampNeg 0) &&& 255).toUInt32 % 65536).toInt32) ∧ K (((((bytJS.getD u0 []).getD x1.toNatClampNeg 0) &&& 255).toUInt32 % 65536).toInt32) S1)))
set_option maxRecDepth 4000 in
theorem bJ1_charAt_3b067 {p : Program} {l : Launch} {e : Env} {R : Room} {s : State} {m : MethodId} {args : Array Value} {below : List Frame} {meth : Method} {c : Code} {D : va_G} {ad : Nat → Nat → Nat} {cs : Nat → ClassId} {P : Nat → Nat → Prop} {sz tU : Nat} {adK adV : Nat → Nat} {K : Int32 → St → Prop} {u0 : Nat} {x1 : Int32} {S : St} {H : Heap} {locs : List Loc} {ls : Array Slot} (E : Ex p s m args meth c R RJ1 cJ1_charAt_3b067 2 (some .char) 3 103 D ad cs P (wA ad P) tU adK adV cn0) (hu0 : u0 < nJS) (hw : wpJ1_charAt_3b067 u0 x1 S K) (hh : wH D ad cs P (wA ad P) s.heap sz S H locs) (hl : lv_has ls 2 [(0, .ref (adV u0)), (1, .int x1)]) : W p l e R s m args below meth c H locs 0 0 (MQ below (va_Qi (fun r S => K r S ∧ narrow .char (.int r) = .int r) (QX D ad cs P sz) (wA ad P)) args s 0 0 (wA ad P)) (F0 m 0 ls []) := by
  have hx := E.hx
  have hb := E.hb
  refine lv_iload_n hx hb dJ1_charAt_3b067_0 rfl (lv_at hl 1 rfl) ?_
  refine lv_aload_n hx hb dJ1_charAt_3b067_1 rfl (lv_at hl 0 rfl) ?_
  refine va_tlen hx hb (E.hE.2.2.2.1.1 u0 hu0).2.2.2 hh.2.1 rfl dJ1_charAt_3b067_2 ?_
  refine x_cv E.hA hh (x_runS E hh (mJ0_checkIndex_df160 E.hI E.hn hw) kJ0_checkIndex_df160 tb186 ⟨by decide, by decide⟩ rfl hl.1 rfl (Nat.le_of_ble_eq_true rfl) dJ1_charAt_3b067_3 ⟨Nat.zero_le _, Nat.zero_le _⟩) (fun S1 H locs hw hh => ?_)
  refine lv_aload_n hx hb dJ1_charAt_3b067_6 rfl (lv_at hl 0 rfl) ?_
  refine lv_iload_n hx hb dJ1_charAt_3b067_7 rfl (lv_at hl 1 rfl) ?_
  obtain ⟨hi2, hw⟩ := hw
  refine va_tb hx hb (E.hE.2.2.2.1.1 u0 hu0).2.2.2 hh.2.1 hi2 rfl dJ1_charAt_3b067_8 ?_
  refine lv_sipush (v := 255) hx hb dJ1_charAt_3b067_9 (by decide) ?_
  refine lv_iand hx hb dJ1_charAt_3b067_12 ?_
  refine lv_i2c hx hb dJ1_charAt_3b067_13 rfl ?_
  obtain ⟨hq3, hw⟩ := hw
  exact x_zret E hh hw hq3 dJ1_charAt_3b067_14
theorem kJ1_charAt_3b067 : kS yJ1_charAt_3b067 cJ1_charAt_3b067 2 (some .char) 2 := ⟨tb184, tb8, tb185, by decide, by decide, by decide +kernel⟩
theorem mJ1_charAt_3b067 {l : Launch} {D : va_G} {ad : Nat → Nat → Nat} {cs : Nat → ClassId} {P : Nat → Nat → Prop} {sz tU : Nat} {adK adV : Nat → Nat} {u0 : Nat} {x1 : Int32} {S : St} {K : Int32 → St → Prop} (hI : wI ad P) (hn : ∀ kd i, i < cn0 kd → P kd i) (hu0 : u0 < nJS) (hw : wpJ1_charAt_3b067 u0 x1 S K) : MI l yJ1_charAt_3b067 cJ1_charAt_3b067 2 (some .char) 3 103 D ad cs P sz tU adK adV [.ref (adV u0), .int x1] S (fun r S => K r S ∧ narrow .char (.int r) = .int r) :=
  Met_of (by decide) (Nat.le_of_ble_eq_true rfl) hI hn (fun p e R s m args below meth c ls E hl hh => bJ1_charAt_3b067 E hu0 hw hh (lv_sub hl [0, 1] rfl))
def wpJ0_charAt_5068e (t : Nat) (x1 : Int32) (S : St) (K : Int32 → St → Prop) : Prop := wpJ0_isLatin1_aae02 t S (fun r1 S1 => if r1 = 0 then False else (wpJ1_charAt_3b067 t x1 S1 (fun r3 S3 => K r3 S3)))
set_option maxRecDepth 4000 in
theorem bJ0_charAt_5068e {p : Program} {l : Launch} {e : Env} {R : Room} {s : State} {m : MethodId} {args : Array Value} {below : List Frame} {meth : Method} {c : Code} {D : va_G} {ad : Nat → Nat → Nat} {cs : Nat → ClassId} {P : Nat → Nat → Prop} {sz tU : Nat} {adK adV : Nat → Nat} {K : Int32 → St → Prop} {t : Nat} {x1 : Int32} {S : St} {H : Heap} {locs : List Loc} {ls : Array Slot} (E : Ex p s m args meth c R RJ0 cJ0_charAt_5068e 2 (some .char) 5 145 D ad cs P (wA ad P) tU adK adV cn0) (ht : t < nJS) (hw : wpJ0_charAt_5068e t x1 S K) (hh : wH D ad cs P (wA ad P) s.heap sz S H locs) (hl : lv_has ls 2 [(0, .ref (adK t)), (1, .int x1)]) : W p l e R s m args below meth c H locs 0 0 (MQ below (va_Qi (fun r S => K r S ∧ narrow .char (.int r) = .int r) (QX D ad cs P sz) (wA ad P)) args s 0 0 (wA ad P)) (F0 m 0 ls []) := by
  have hx := E.hx
  have hb := E.hb
  refine lv_aload_n hx hb dJ0_charAt_5068e_0 rfl (lv_at hl 0 rfl) ?_
  refine x_ci E.hA hh (x_runK E hh (mJ0_isLatin1_aae02 E.hI E.hn ht hw) kJ0_isLatin1_aae02 tb179 ht rfl ⟨by decide, by decide⟩ rfl hl.1 rfl (Nat.le_of_ble_eq_true rfl) dJ0_charAt_5068e_1 ⟨Nat.zero_le _, Nat.zero_le _⟩) (fun r1 S1 H locs hw hh => ?_)
  have hq1 := hw.2
  have hw := hw.1
  refine lv_if_eq (tgt := 16) hx hb dJ0_charAt_5068e_4 (by decide) (fun c2 => ?_) (fun c2 => ?_)
  · have hw := ifT hw c2
    refine lv_aload_n hx hb dJ0_charAt_5068e_16 rfl (lv_at hl 0 rfl) ?_
    refine vk_getf hx hb (E.hE.2.2.2.1.1 t ht).2.2.1 hh.2.1 E.hown (E.hts _ tb1202) (fun _ q => q) dJ0_charAt_5068e_17 ?_
    refine lv_iload_n hx hb dJ0_charAt_5068e_20 rfl (lv_at hl 1 rfl) ?_
    exact hw.elim
  · have hw := ifF hw c2
    refine lv_aload_n hx hb dJ0_charAt_5068e_7 rfl (lv_at hl 0 rfl) ?_
    refine vk_getf hx hb (E.hE.2.2.2.1.1 t ht).2.2.1 hh.2.1 E.hown (E.hts _ tb1202) (fun _ q => q) dJ0_charAt_5068e_8 ?_
    refine lv_iload_n hx hb dJ0_charAt_5068e_11 rfl (lv_at hl 1 rfl) ?_
    refine x_ci E.hA hh (x_runS E hh (mJ1_charAt_3b067 E.hI E.hn ht hw) kJ1_charAt_3b067 tb183 ⟨by decide, by decide⟩ rfl hl.1 rfl (Nat.le_of_ble_eq_true rfl) dJ0_charAt_5068e_12 ⟨Nat.zero_le _, Nat.zero_le _⟩) (fun r3 S3 H locs hw hh => ?_)
    have hq3 := hw.2
    have hw := hw.1
    exact x_zret E hh hw hq3 dJ0_charAt_5068e_15
theorem kJ0_charAt_5068e : kI yJ0_charAt_5068e cJ0_charAt_5068e 2 (some .char) 1 := ⟨tb176, tb177, tb7, tb178, by decide, by decide, by decide +kernel⟩
theorem mJ0_charAt_5068e {l : Launch} {D : va_G} {ad : Nat → Nat → Nat} {cs : Nat → ClassId} {P : Nat → Nat → Prop} {sz tU : Nat} {adK adV : Nat → Nat} {t : Nat} {x1 : Int32} {S : St} {K : Int32 → St → Prop} (hI : wI ad P) (hn : ∀ kd i, i < cn0 kd → P kd i) (ht : t < nJS) (hw : wpJ0_charAt_5068e t x1 S K) : MI l yJ0_charAt_5068e cJ0_charAt_5068e 2 (some .char) 5 145 D ad cs P sz tU adK adV [.ref (adK t), .int x1] S (fun r S => K r S ∧ narrow .char (.int r) = .int r) :=
  Met_of (by decide) (Nat.le_of_ble_eq_true rfl) hI hn (fun p e R s m args below meth c ls E hl hh => bJ0_charAt_5068e E ht hw hh (lv_sub hl [0, 1] rfl))
def wpJ0_coder_7d493 (t : Nat) (S : St) (K : Int32 → St → Prop) : Prop := if (1 : Int32) = 0 then (K 1 S) else (K 0 S)
set_option maxRecDepth 4000 in
theorem bJ0_coder_7d493 {p : Program} {l : Launch} {e : Env} {R : Room} {s : State} {m : MethodId} {args : Array Value} {below : List Frame} {meth : Method} {c : Code} {D : va_G} {ad : Nat → Nat → Nat} {cs : Nat → ClassId} {P : Nat → Nat → Prop} {sz tU : Nat} {adK adV : Nat → Nat} {K : Int32 → St → Prop} {t : Nat} {S : St} {H : Heap} {locs : List Loc} {ls : Array Slot} (E : Ex p s m args meth c R RJ0 cJ0_coder_7d493 1 (some .byte) 1 60 D ad cs P (wA ad P) tU adK adV cn0) (ht : t < nJS) (hw : wpJ0_coder_7d493 t S K) (hh : wH D ad cs P (wA ad P) s.heap sz S H locs) (hl : lv_has ls 1 [(0, .ref (adK t))]) : W p l e R s m args below meth c H locs 0 0 (MQ below (va_Qi (fun r S => K r S ∧ narrow .byte (.int r) = .int r) (QX D ad cs P sz) (wA ad P)) args s 0 0 (wA ad P)) (F0 m 0 ls []) := by
  have hx := E.hx
  have hb := E.hb
  refine va_gets hx hb E.hE.1 hh.2.1 E.hown (E.hts _ tb173) (fun _ q => q) dJ0_coder_7d493_0 ?_
  refine lv_if_eq (tgt := 13) hx hb dJ0_coder_7d493_3 (by decide) (fun c1 => ?_) (fun c1 => ?_)
  · have hw := ifT hw c1
    refine lv_iconst (v := 1) hx hb dJ0_coder_7d493_13 (by decide) ?_
    exact x_zret E hh hw rfl dJ0_coder_7d493_14
  · have hw := ifF hw c1
    refine lv_aload_n hx hb dJ0_coder_7d493_6 rfl (lv_at hl 0 rfl) ?_
    refine vk_getf hx hb (E.hE.2.2.2.1.1 t ht).2.1 hh.2.1 E.hown (E.hts _ tb1203) (fun _ q => q) dJ0_coder_7d493_7 ?_
    refine lv_goto (tgt := 14) hx hb dJ0_coder_7d493_10 (by decide) ?_
    exact x_zret E hh hw rfl dJ0_coder_7d493_14
theorem kJ0_coder_7d493 : kI yJ0_coder_7d493 cJ0_coder_7d493 1 (some .byte) 0 := ⟨tb170, tb171, tb7, tb172, by decide, by decide, by decide +kernel⟩
theorem mJ0_coder_7d493 {l : Launch} {D : va_G} {ad : Nat → Nat → Nat} {cs : Nat → ClassId} {P : Nat → Nat → Prop} {sz tU : Nat} {adK adV : Nat → Nat} {t : Nat} {S : St} {K : Int32 → St → Prop} (hI : wI ad P) (hn : ∀ kd i, i < cn0 kd → P kd i) (ht : t < nJS) (hw : wpJ0_coder_7d493 t S K) : MI l yJ0_coder_7d493 cJ0_coder_7d493 1 (some .byte) 1 60 D ad cs P sz tU adK adV [.ref (adK t)] S (fun r S => K r S ∧ narrow .byte (.int r) = .int r) :=
  Met_of (by decide) (Nat.le_of_ble_eq_true rfl) hI hn (fun p e R s m args below meth c ls E hl hh => bJ0_coder_7d493 E ht hw hh (lv_sub hl [0] rfl))
def wpJ0_length_8abf5 (t : Nat) (S : St) (K : Int32 → St → Prop) : Prop := wpJ0_coder_7d493 t S (fun r1 S1 => K ((Int32.ofNat (lenJS.getD t 0)) >>> (r1 &&& 31)) S1)
set_option maxRecDepth 4000 in
theorem bJ0_length_8abf5 {p : Program} {l : Launch} {e : Env} {R : Room} {s : State} {m : MethodId} {args : Array Value} {below : List Frame} {meth : Method} {c : Code} {D : va_G} {ad : Nat → Nat → Nat} {cs : Nat → ClassId} {P : Nat → Nat → Prop} {sz tU : Nat} {adK adV : Nat → Nat} {K : Int32 → St → Prop} {t : Nat} {S : St} {H : Heap} {locs : List Loc} {ls : Array Slot} (E : Ex p s m args meth c R RJ0 cJ0_length_8abf5 1 (some .int) 2 80 D ad cs P (wA ad P) tU adK adV cn0) (ht : t < nJS) (hw : wpJ0_length_8abf5 t S K) (hh : wH D ad cs P (wA ad P) s.heap sz S H locs) (hl : lv_has ls 1 [(0, .ref (adK t))]) : W p l e R s m args below meth c H locs 0 0 (MQ below (va_Qi K (QX D ad cs P sz) (wA ad P)) args s 0 0 (wA ad P)) (F0 m 0 ls []) := by
  have hx := E.hx
  have hb := E.hb
  refine lv_aload_n hx hb dJ0_length_8abf5_0 rfl (lv_at hl 0 rfl) ?_
  refine vk_getf hx hb (E.hE.2.2.2.1.1 t ht).2.2.1 hh.2.1 E.hown (E.hts _ tb1202) (fun _ q => q) dJ0_length_8abf5_1 ?_
  refine va_tlen hx hb (E.hE.2.2.2.1.1 t ht).2.2.2 hh.2.1 rfl dJ0_length_8abf5_4 ?_
  refine lv_aload_n hx hb dJ0_length_8abf5_5 rfl (lv_at hl 0 rfl) ?_
  refine x_ci E.hA hh (x_runK E hh (mJ0_coder_7d493 E.hI E.hn ht hw) kJ0_coder_7d493 tb169 ht rfl ⟨by decide, by decide⟩ rfl hl.1 rfl (Nat.le_of_ble_eq_true rfl) dJ0_length_8abf5_6 ⟨Nat.zero_le _, Nat.zero_le _⟩) (fun r1 S1 H locs hw hh => ?_)
  have hq1 := hw.2
  have hw := hw.1
  refine lv_ishr hx hb dJ0_length_8abf5_9 ?_
  exact x_iret E hh hw dJ0_length_8abf5_10
theorem kJ0_length_8abf5 : kI yJ0_length_8abf5 cJ0_length_8abf5 1 (some .int) 0 := ⟨tb166, tb167, tb7, tb168, by decide, by decide, by decide +kernel⟩
theorem mJ0_length_8abf5 {l : Launch} {D : va_G} {ad : Nat → Nat → Nat} {cs : Nat → ClassId} {P : Nat → Nat → Prop} {sz tU : Nat} {adK adV : Nat → Nat} {t : Nat} {S : St} {K : Int32 → St → Prop} (hI : wI ad P) (hn : ∀ kd i, i < cn0 kd → P kd i) (ht : t < nJS) (hw : wpJ0_length_8abf5 t S K) : MI l yJ0_length_8abf5 cJ0_length_8abf5 1 (some .int) 2 80 D ad cs P sz tU adK adV [.ref (adK t)] S K :=
  Met_of (by decide) (Nat.le_of_ble_eq_true rfl) hI hn (fun p e R s m args below meth c ls E hl hh => bJ0_length_8abf5 E ht hw hh (lv_sub hl [0] rfl))
def wpX3_adopt (t : Nat) (S : St) (K : St → Prop) : Prop := ((¬ (0 : Int32) < 0 ∧ ¬ (0 : Int32) < 0 ∧ ¬ (if 160 < 160 then 160 else 160 : Int32) < 0 ∧ (0 : Int32).toNatClampNeg + (if 160 < 160 then 160 else 160 : Int32).toNatClampNeg ≤ 160 ∧ (0 : Int32).toNatClampNeg + (if 160 < 160 then 160 else 160 : Int32).toNatClampNeg ≤ 160) ∧ ∀ S1, S1 = sa S 7 t (va_cpy (S.1 2 0) (S.1 7 t) (0 : Int32).toNatClampNeg (0 : Int32).toNatClampNeg (if 160 < 160 then 160 else 160 : Int32).toNatClampNeg) → ((¬ (0 : Int32) < 0 ∧ ¬ (0 : Int32) < 0 ∧ ¬ (if 3 < 3 then 3 else 3 : Int32) < 0 ∧ (0 : Int32).toNatClampNeg + (if 3 < 3 then 3 else 3 : Int32).toNatClampNeg ≤ 3 ∧ (0 : Int32).toNatClampNeg + (if 3 < 3 then 3 else 3 : Int32).toNatClampNeg ≤ 3) ∧ ∀ S2, S2 = sa S1 8 t (va_cpy (S1.1 3 0) (S1.1 8 t) (0 : Int32).toNatClampNeg (0 : Int32).toNatClampNeg (if 3 < 3 then 3 else 3 : Int32).toNatClampNeg) → K S2))
set_option maxRecDepth 4000 in
theorem bX3_adopt {p : Program} {l : Launch} {e : Env} {R : Room} {s : State} {m : MethodId} {args : Array Value} {below : List Frame} {meth : Method} {c : Code} {D : va_G} {ad : Nat → Nat → Nat} {cs : Nat → ClassId} {P : Nat → Nat → Prop} {sz tU : Nat} {adK adV : Nat → Nat} {K : St → Prop} {t : Nat} {S : St} {H : Heap} {locs : List Loc} {ls : Array Slot} (E : Ex p s m args meth c R RX3 cX3_adopt 3 none 1 60 D ad cs P (wA ad P) tU adK adV cnB) (ht : t < 6) (hw : wpX3_adopt t S K) (hh : wH D ad cs P (wA ad P) s.heap sz S H locs) (hl : lv_has ls 3 [(0, .ref (ad 6 t)), (1, .ref (ad 2 0)), (2, .ref (ad 3 0))]) : W p l e R s m args below meth c H locs 0 0 (MQ below (va_Qv K (QX D ad cs P sz) (wA ad P)) args s 0 0 (wA ad P)) (F0 m 0 ls []) := by
  have hx := E.hx
  have hb := E.hb
  refine lv_aload_n hx hb dX3_adopt_0 rfl (lv_at hl 1 rfl) ?_
  refine lv_iconst (v := 0) hx hb dX3_adopt_1 (by decide) ?_
  refine lv_aload_n hx hb dX3_adopt_2 rfl (lv_at hl 0 rfl) ?_
  refine g_6_1 E hh tb134 (E.hn 6 t ht) dX3_adopt_3 ?_
  refine lv_iconst (v := 0) hx hb dX3_adopt_6 (by decide) ?_
  refine lv_aload_n hx hb dX3_adopt_7 rfl (lv_at hl 1 rfl) ?_
  refine x_alen (v := 160) E hh (E.hn 2 0 (by decide)) ly_2 (by decide) rfl dX3_adopt_8 ?_
  refine lv_aload_n hx hb dX3_adopt_9 rfl (lv_at hl 0 rfl) ?_
  refine g_6_1 E hh tb134 (E.hn 6 t ht) dX3_adopt_10 ?_
  refine x_alen (v := 160) E hh (E.hn 7 t ht) ly_7 (by decide) rfl dX3_adopt_13 ?_
  refine va_mmin hx hb (E.hml.trans hl.1.symm) E.hown (E.hts _ tb294) (E.hts _ tb295) (E.hts _ tb11) (E.hts _ tb296) (Nat.le_trans (by decide) E.hf) (Nat.le_trans (Nat.le_of_ble_eq_true rfl) E.hl) (Nat.zero_le _) (Nat.zero_le _) dX3_adopt_14 ?_
  obtain ⟨hy1, hw⟩ := hw
  refine x_copy E hh (E.hn 2 0 (by decide)) (E.hn 7 t ht) ly_2 ly_7 hy1 (E.hml.trans hl.1.symm) tb297 (Nat.le_trans (by decide) E.hf) (Nat.le_trans (Nat.le_of_ble_eq_true rfl) E.hl) dX3_adopt_17 (fun S1 H locs e1 hh => ?_)
  have hw := hw S1 e1
  refine lv_aload_n hx hb dX3_adopt_20 rfl (lv_at hl 2 rfl) ?_
  refine lv_iconst (v := 0) hx hb dX3_adopt_21 (by decide) ?_
  refine lv_aload_n hx hb dX3_adopt_22 rfl (lv_at hl 0 rfl) ?_
  refine g_6_2 E hh tb135 (E.hn 6 t ht) dX3_adopt_23 ?_
  refine lv_iconst (v := 0) hx hb dX3_adopt_26 (by decide) ?_
  refine lv_aload_n hx hb dX3_adopt_27 rfl (lv_at hl 2 rfl) ?_
  refine x_alen (v := 3) E hh (E.hn 3 0 (by decide)) ly_3 (by decide) rfl dX3_adopt_28 ?_
  refine lv_aload_n hx hb dX3_adopt_29 rfl (lv_at hl 0 rfl) ?_
  refine g_6_2 E hh tb135 (E.hn 6 t ht) dX3_adopt_30 ?_
  refine x_alen (v := 3) E hh (E.hn 8 t ht) ly_8 (by decide) rfl dX3_adopt_33 ?_
  refine va_mmin hx hb (E.hml.trans hl.1.symm) E.hown (E.hts _ tb294) (E.hts _ tb295) (E.hts _ tb11) (E.hts _ tb296) (Nat.le_trans (by decide) E.hf) (Nat.le_trans (Nat.le_of_ble_eq_true rfl) E.hl) (Nat.zero_le _) (Nat.zero_le _) dX3_adopt_34 ?_
  obtain ⟨hy2, hw⟩ := hw
  refine x_copy E hh (E.hn 3 0 (by decide)) (E.hn 8 t ht) ly_3 ly_8 hy2 (E.hml.trans hl.1.symm) tb297 (Nat.le_trans (by decide) E.hf) (Nat.le_trans (Nat.le_of_ble_eq_true rfl) E.hl) dX3_adopt_37 (fun S2 H locs e2 hh => ?_)
  have hw := hw S2 e2
  exact x_vret E hh hw dX3_adopt_40
theorem kX3_adopt : kI yX3_adopt cX3_adopt 3 none 2 := ⟨tb291, tb292, tb5, tb293, by decide, by decide, by decide +kernel⟩
theorem mX3_adopt {l : Launch} {D : va_G} {ad : Nat → Nat → Nat} {cs : Nat → ClassId} {P : Nat → Nat → Prop} {sz tU : Nat} {adK adV : Nat → Nat} {t : Nat} {S : St} {K : St → Prop} (hI : wI ad P) (hn : ∀ kd i, i < cnB kd → P kd i) (ht : t < 6) (hw : wpX3_adopt t S K) : MV l yX3_adopt cX3_adopt 3 none 1 60 D ad cs P sz tU adK adV [.ref (ad 6 t), .ref (ad 2 0), .ref (ad 3 0)] S K :=
  Met_of (by decide) (Nat.le_of_ble_eq_true rfl) hI hn (fun p e R s m args below meth c ls E hl hh => bX3_adopt E ht hw hh (lv_sub hl [0, 1, 2] rfl))
def wpX4_isMissing (t : Nat) (S : St) (K : Int32 → St → Prop) : Prop := if (S.1 30 t 0) = (-1) then (K 1 S) else (K 0 S)
set_option maxRecDepth 4000 in
theorem bX4_isMissing {p : Program} {l : Launch} {e : Env} {R : Room} {s : State} {m : MethodId} {args : Array Value} {below : List Frame} {meth : Method} {c : Code} {D : va_G} {ad : Nat → Nat → Nat} {cs : Nat → ClassId} {P : Nat → Nat → Prop} {sz tU : Nat} {adK adV : Nat → Nat} {K : Int32 → St → Prop} {t : Nat} {S : St} {H : Heap} {locs : List Loc} {ls : Array Slot} (E : Ex p s m args meth c R RX4 cX4_isMissing 1 (some .boolean) 1 60 D ad cs P (wA ad P) tU adK adV cnA) (ht : t < 4) (hw : wpX4_isMissing t S K) (hh : wH D ad cs P (wA ad P) s.heap sz S H locs) (hl : lv_has ls 1 [(0, .ref (ad 30 t))]) : W p l e R s m args below meth c H locs 0 0 (MQ below (va_Qi (fun r S => K r S ∧ narrow .boolean (.int r) = .int r) (QX D ad cs P sz) (wA ad P)) args s 0 0 (wA ad P)) (F0 m 0 ls []) := by
  have hx := E.hx
  have hb := E.hb
  refine lv_aload_n hx hb dX4_isMissing_0 rfl (lv_at hl 0 rfl) ?_
  refine g_30_0 E hh tb151 (E.hn 30 t ht) dX4_isMissing_1 ?_
  refine lv_iconst (v := (-1)) hx hb dX4_isMissing_4 (by decide) ?_
  refine lv_icmp_ne (tgt := 12) hx hb dX4_isMissing_5 (by decide) (fun c1 => ?_) (fun c1 => ?_)
  · have hw := ifF hw c1
    refine lv_iconst (v := 0) hx hb dX4_isMissing_12 (by decide) ?_
    exact x_zret E hh hw rfl dX4_isMissing_13
  · have hw := ifT hw c1
    refine lv_iconst (v := 1) hx hb dX4_isMissing_8 (by decide) ?_
    refine lv_goto (tgt := 13) hx hb dX4_isMissing_9 (by decide) ?_
    exact x_zret E hh hw rfl dX4_isMissing_13
theorem kX4_isMissing : kI yX4_isMissing cX4_isMissing 1 (some .boolean) 0 := ⟨tb625, tb626, tb6, tb627, by decide, by decide, by decide +kernel⟩
theorem mX4_isMissing {l : Launch} {D : va_G} {ad : Nat → Nat → Nat} {cs : Nat → ClassId} {P : Nat → Nat → Prop} {sz tU : Nat} {adK adV : Nat → Nat} {t : Nat} {S : St} {K : Int32 → St → Prop} (hI : wI ad P) (hn : ∀ kd i, i < cnA kd → P kd i) (ht : t < 4) (hw : wpX4_isMissing t S K) : MI l yX4_isMissing cX4_isMissing 1 (some .boolean) 1 60 D ad cs P sz tU adK adV [.ref (ad 30 t)] S (fun r S => K r S ∧ narrow .boolean (.int r) = .int r) :=
  Met_of (by decide) (Nat.le_of_ble_eq_true rfl) hI hn (fun p e R s m args below meth c ls E hl hh => bX4_isMissing E ht hw hh (lv_sub hl [0] rfl))
def wpX4_lay (t : Nat) (x1 : Int32) (x2 : Int32) (S : St) (K : St → Prop) : Prop := (∀ S1, S1 = su S 30 t 0 x1 → (∀ S2, S2 = su S1 30 t 1 x2 → wpJ7_fill_53178 31 t 40 0 S2 (fun S3 => K S3)))
set_option maxRecDepth 4000 in
theorem bX4_lay {p : Program} {l : Launch} {e : Env} {R : Room} {s : State} {m : MethodId} {args : Array Value} {below : List Frame} {meth : Method} {c : Code} {D : va_G} {ad : Nat → Nat → Nat} {cs : Nat → ClassId} {P : Nat → Nat → Prop} {sz tU : Nat} {adK adV : Nat → Nat} {K : St → Prop} {t : Nat} {x1 : Int32} {x2 : Int32} {S : St} {H : Heap} {locs : List Loc} {ls : Array Slot} (E : Ex p s m args meth c R RX4 cX4_lay 3 none 2 83 D ad cs P (wA ad P) tU adK adV cnA) (ht : t < 4) (hw : wpX4_lay t x1 x2 S K) (hh : wH D ad cs P (wA ad P) s.heap sz S H locs) (hl : lv_has ls 3 [(0, .ref (ad 30 t)), (1, .int x1), (2, .int x2)]) : W p l e R s m args below meth c H locs 0 0 (MQ below (va_Qv K (QX D ad cs P sz) (wA ad P)) args s 0 0 (wA ad P)) (F0 m 0 ls []) := by
  have hx := E.hx
  have hb := E.hb
  refine lv_aload_n hx hb dX4_lay_0 rfl (lv_at hl 0 rfl) ?_
  refine lv_iload_n hx hb dX4_lay_1 rfl (lv_at hl 1 rfl) ?_
  refine p_30_0 E hh tb151 (E.hn 30 t ht) dX4_lay_2 (fun S1 H locs e1 hh => ?_)
  have hw := hw S1 e1
  refine lv_aload_n hx hb dX4_lay_5 rfl (lv_at hl 0 rfl) ?_
  refine lv_iload_n hx hb dX4_lay_6 rfl (lv_at hl 2 rfl) ?_
  refine p_30_1 E hh tb153 (E.hn 30 t ht) dX4_lay_7 (fun S2 H locs e2 hh => ?_)
  have hw := hw S2 e2
  refine lv_aload_n hx hb dX4_lay_10 rfl (lv_at hl 0 rfl) ?_
  refine g_30_2 E hh tb155 (E.hn 30 t ht) dX4_lay_11 ?_
  refine lv_iconst (v := 0) hx hb dX4_lay_14 (by decide) ?_
  refine x_cv E.hA hh (x_runS E hh (mJ7_fill_53178 E.hI (fun _ _ h => absurd h (Nat.not_lt_zero _)) (E.hn 31 t ht) ly_31 hw) kJ7_fill_53178 tb693 ⟨by decide, by decide⟩ rfl hl.1 rfl (Nat.le_of_ble_eq_true rfl) dX4_lay_15 ⟨Nat.zero_le _, Nat.zero_le _⟩) (fun S3 H locs hw hh => ?_)
  exact x_vret E hh hw dX4_lay_18
theorem kX4_lay : kI yX4_lay cX4_lay 3 none 2 := ⟨tb690, tb691, tb6, tb692, by decide, by decide, by decide +kernel⟩
theorem mX4_lay {l : Launch} {D : va_G} {ad : Nat → Nat → Nat} {cs : Nat → ClassId} {P : Nat → Nat → Prop} {sz tU : Nat} {adK adV : Nat → Nat} {t : Nat} {x1 : Int32} {x2 : Int32} {S : St} {K : St → Prop} (hI : wI ad P) (hn : ∀ kd i, i < cnA kd → P kd i) (ht : t < 4) (hw : wpX4_lay t x1 x2 S K) : MV l yX4_lay cX4_lay 3 none 2 83 D ad cs P sz tU adK adV [.ref (ad 30 t), .int x1, .int x2] S K :=
  Met_of (by decide) (Nat.le_of_ble_eq_true rfl) hI hn (fun p e R s m args below meth c ls E hl hh => bX4_lay E ht hw hh (lv_sub hl [0, 1, 2] rfl))
def wpX4_holds (t : Nat) (x1 : Int32) (x2 : Int32) (S : St) (K : Int32 → St → Prop) : Prop := if x1 < 0 then (K 0 S) else (if x2 < 0 then (K 0 S) else (if ((S.1 30 t 1) - x2) < x1 then (K 0 S) else (K 1 S)))
set_option maxRecDepth 4000 in
theorem bX4_holds {p : Program} {l : Launch} {e : Env} {R : Room} {s : State} {m : MethodId} {args : Array Value} {below : List Frame} {meth : Method} {c : Code} {D : va_G} {ad : Nat → Nat → Nat} {cs : Nat → ClassId} {P : Nat → Nat → Prop} {sz tU : Nat} {adK adV : Nat → Nat} {K : Int32 → St → Prop} {t : Nat} {x1 : Int32} {x2 : Int32} {S : St} {H : Heap} {locs : List Loc} {ls : Array Slot} (E : Ex p s m args meth c R RX4 cX4_holds 3 (some .boolean) 1 60 D ad cs P (wA ad P) tU adK adV cnA) (ht : t < 4) (hw : wpX4_holds t x1 x2 S K) (hh : wH D ad cs P (wA ad P) s.heap sz S H locs) (hl : lv_has ls 3 [(0, .ref (ad 30 t)), (1, .int x1), (2, .int x2)]) : W p l e R s m args below meth c H locs 0 0 (MQ below (va_Qi (fun r S => K r S ∧ narrow .boolean (.int r) = .int r) (QX D ad cs P sz) (wA ad P)) args s 0 0 (wA ad P)) (F0 m 0 ls []) := by
  have hx := E.hx
  have hb := E.hb
  refine lv_iload_n hx hb dX4_holds_0 rfl (lv_at hl 1 rfl) ?_
  refine lv_if_lt (tgt := 22) hx hb dX4_holds_1 (by decide) (fun c1 => ?_) (fun c1 => ?_)
  · have hw := ifT hw c1
    refine lv_iconst (v := 0) hx hb dX4_holds_22 (by decide) ?_
    exact x_zret E hh hw rfl dX4_holds_23
  · have hw := ifF hw c1
    refine lv_iload_n hx hb dX4_holds_4 rfl (lv_at hl 2 rfl) ?_
    refine lv_if_lt (tgt := 22) hx hb dX4_holds_5 (by decide) (fun c2 => ?_) (fun c2 => ?_)
    · have hw := ifT hw c2
      refine lv_iconst (v := 0) hx hb dX4_holds_22 (by decide) ?_
      exact x_zret E hh hw rfl dX4_holds_23
    · have hw := ifF hw c2
      refine lv_iload_n hx hb dX4_holds_8 rfl (lv_at hl 1 rfl) ?_
      refine lv_aload_n hx hb dX4_holds_9 rfl (lv_at hl 0 rfl) ?_
      refine g_30_1 E hh tb153 (E.hn 30 t ht) dX4_holds_10 ?_
      refine lv_iload_n hx hb dX4_holds_13 rfl (lv_at hl 2 rfl) ?_
      refine lv_isub hx hb dX4_holds_14 ?_
      refine lv_icmp_gt (tgt := 22) hx hb dX4_holds_15 (by decide) (fun c3 => ?_) (fun c3 => ?_)
      · have hw := ifT hw c3
        refine lv_iconst (v := 0) hx hb dX4_holds_22 (by decide) ?_
        exact x_zret E hh hw rfl dX4_holds_23
      · have hw := ifF hw c3
        refine lv_iconst (v := 1) hx hb dX4_holds_18 (by decide) ?_
        refine lv_goto (tgt := 23) hx hb dX4_holds_19 (by decide) ?_
        exact x_zret E hh hw rfl dX4_holds_23
theorem kX4_holds : kI yX4_holds cX4_holds 3 (some .boolean) 2 := ⟨tb699, tb700, tb6, tb701, by decide, by decide, by decide +kernel⟩
theorem mX4_holds {l : Launch} {D : va_G} {ad : Nat → Nat → Nat} {cs : Nat → ClassId} {P : Nat → Nat → Prop} {sz tU : Nat} {adK adV : Nat → Nat} {t : Nat} {x1 : Int32} {x2 : Int32} {S : St} {K : Int32 → St → Prop} (hI : wI ad P) (hn : ∀ kd i, i < cnA kd → P kd i) (ht : t < 4) (hw : wpX4_holds t x1 x2 S K) : MI l yX4_holds cX4_holds 3 (some .boolean) 1 60 D ad cs P sz tU adK adV [.ref (ad 30 t), .int x1, .int x2] S (fun r S => K r S ∧ narrow .boolean (.int r) = .int r) :=
  Met_of (by decide) (Nat.le_of_ble_eq_true rfl) hI hn (fun p e R s m args below meth c ls E hl hh => bX4_holds E ht hw hh (lv_sub hl [0, 1, 2] rfl))
def wpX4_put (t : Nat) (x1 : Int32) (x2 : Int32) (S : St) (K : St → Prop) : Prop := (if (S.1 30 t 0) = 0 then ((vp_in x1 40 ∧ ∀ S2, S2 = su S 31 t x1.toNatClampNeg x2.toInt8.toInt32 → K S2)) else (if (S.1 30 t 0) = 1 then ((vp_in x1 40 ∧ ∀ S4, S4 = su S 31 t x1.toNatClampNeg x2.toInt16.toInt32 → K S4)) else ((vp_in x1 40 ∧ ∀ S5, S5 = su S 31 t x1.toNatClampNeg x2 → K S5))))
set_option maxRecDepth 4000 in
theorem bX4_put {p : Program} {l : Launch} {e : Env} {R : Room} {s : State} {m : MethodId} {args : Array Value} {below : List Frame} {meth : Method} {c : Code} {D : va_G} {ad : Nat → Nat → Nat} {cs : Nat → ClassId} {P : Nat → Nat → Prop} {sz tU : Nat} {adK adV : Nat → Nat} {K : St → Prop} {t : Nat} {x1 : Int32} {x2 : Int32} {S : St} {H : Heap} {locs : List Loc} {ls : Array Slot} (E : Ex p s m args meth c R RX4 cX4_put 3 none 1 60 D ad cs P (wA ad P) tU adK adV cnA) (ht : t < 4) (hw : wpX4_put t x1 x2 S K) (hh : wH D ad cs P (wA ad P) s.heap sz S H locs) (hl : lv_has ls 3 [(0, .ref (ad 30 t)), (1, .int x1), (2, .int x2)]) : W p l e R s m args below meth c H locs 0 0 (MQ below (va_Qv K (QX D ad cs P sz) (wA ad P)) args s 0 0 (wA ad P)) (F0 m 0 ls []) := by
  have hx := E.hx
  have hb := E.hb
  refine lv_aload_n hx hb dX4_put_0 rfl (lv_at hl 0 rfl) ?_
  refine g_30_0 E hh tb151 (E.hn 30 t ht) dX4_put_1 ?_
  by_cases c1 : (S.1 30 t 0) = 0
  · have hw := ifT hw c1
    refine lv_lookup (off := 28) (tgt := 32) hx hb dX4_put_4 (by decide) (by rw [c1] <;> rfl) (by decide) ?_
    refine lv_aload_n hx hb dX4_put_32 rfl (lv_at hl 0 rfl) ?_
    refine g_30_2 E hh tb155 (E.hn 30 t ht) dX4_put_33 ?_
    refine lv_iload_n hx hb dX4_put_36 rfl (lv_at hl 1 rfl) ?_
    refine lv_iload_n hx hb dX4_put_37 rfl (lv_at hl 2 rfl) ?_
    refine lv_i2b hx hb dX4_put_38 rfl ?_
    obtain ⟨hi2, hw⟩ := hw
    refine x_iast E hh (E.hn 31 t ht) ly_31 hi2 dX4_put_39 (fun S2 H locs e2 hh => ?_)
    have hw := hw S2 e2
    refine lv_goto (tgt := 61) hx hb dX4_put_40 (by decide) ?_
    exact x_vret E hh hw dX4_put_61
  have hw := ifF hw c1
  by_cases c3 : (S.1 30 t 0) = 1
  · have hw := ifT hw c3
    refine lv_lookup (off := 39) (tgt := 43) hx hb dX4_put_4 (by decide) (by rw [c3] <;> rfl) (by decide) ?_
    refine lv_aload_n hx hb dX4_put_43 rfl (lv_at hl 0 rfl) ?_
    refine g_30_2 E hh tb155 (E.hn 30 t ht) dX4_put_44 ?_
    refine lv_iload_n hx hb dX4_put_47 rfl (lv_at hl 1 rfl) ?_
    refine lv_iload_n hx hb dX4_put_48 rfl (lv_at hl 2 rfl) ?_
    refine lv_i2s hx hb dX4_put_49 rfl ?_
    obtain ⟨hi4, hw⟩ := hw
    refine x_iast E hh (E.hn 31 t ht) ly_31 hi4 dX4_put_50 (fun S4 H locs e4 hh => ?_)
    have hw := hw S4 e4
    refine lv_goto (tgt := 61) hx hb dX4_put_51 (by decide) ?_
    exact x_vret E hh hw dX4_put_61
  have hw := ifF hw c3
  refine lv_lookup (off := 50) (tgt := 54) hx hb dX4_put_4 (by decide) (by show Op.lookupswitch.offset [(0, 28), (1, 39)] _ _ = _; rw [lv_osw (a := 0) c1 (by decide), lv_osw (a := 1) c3 (by decide)] <;> rfl) (by decide) ?_
  refine lv_aload_n hx hb dX4_put_54 rfl (lv_at hl 0 rfl) ?_
  refine g_30_2 E hh tb155 (E.hn 30 t ht) dX4_put_55 ?_
  refine lv_iload_n hx hb dX4_put_58 rfl (lv_at hl 1 rfl) ?_
  refine lv_iload_n hx hb dX4_put_59 rfl (lv_at hl 2 rfl) ?_
  obtain ⟨hi5, hw⟩ := hw
  refine x_iast E hh (E.hn 31 t ht) ly_31 hi5 dX4_put_60 (fun S5 H locs e5 hh => ?_)
  have hw := hw S5 e5
  exact x_vret E hh hw dX4_put_61
theorem kX4_put : kI yX4_put cX4_put 3 none 2 := ⟨tb703, tb704, tb6, tb705, by decide, by decide, by decide +kernel⟩
theorem mX4_put {l : Launch} {D : va_G} {ad : Nat → Nat → Nat} {cs : Nat → ClassId} {P : Nat → Nat → Prop} {sz tU : Nat} {adK adV : Nat → Nat} {t : Nat} {x1 : Int32} {x2 : Int32} {S : St} {K : St → Prop} (hI : wI ad P) (hn : ∀ kd i, i < cnA kd → P kd i) (ht : t < 4) (hw : wpX4_put t x1 x2 S K) : MV l yX4_put cX4_put 3 none 1 60 D ad cs P sz tU adK adV [.ref (ad 30 t), .int x1, .int x2] S K :=
  Met_of (by decide) (Nat.le_of_ble_eq_true rfl) hI hn (fun p e R s m args below meth c ls E hl hh => bX4_put E ht hw hh (lv_sub hl [0, 1, 2] rfl))
def wpX7_within (x0 : Int32) (x1 : Int32) (x2 : Int32) (S : St) (K : Int32 → St → Prop) : Prop := if x0 < x1 then (K 0 S) else (if x2 < x0 then (K 0 S) else (K 1 S))
set_option maxRecDepth 4000 in
theorem bX7_within {p : Program} {l : Launch} {e : Env} {R : Room} {s : State} {m : MethodId} {args : Array Value} {below : List Frame} {meth : Method} {c : Code} {D : va_G} {ad : Nat → Nat → Nat} {cs : Nat → ClassId} {P : Nat → Nat → Prop} {sz tU : Nat} {adK adV : Nat → Nat} {K : Int32 → St → Prop} {x0 : Int32} {x1 : Int32} {x2 : Int32} {S : St} {H : Heap} {locs : List Loc} {ls : Array Slot} (E : Ex p s m args meth c R RX7 cX7_within 3 (some .boolean) 1 60 D ad cs P (wA ad P) tU adK adV cn0) (hw : wpX7_within x0 x1 x2 S K) (hh : wH D ad cs P (wA ad P) s.heap sz S H locs) (hl : lv_has ls 3 [(0, .int x0), (1, .int x1), (2, .int x2)]) : W p l e R s m args below meth c H locs 0 0 (MQ below (va_Qi (fun r S => K r S ∧ narrow .boolean (.int r) = .int r) (QX D ad cs P sz) (wA ad P)) args s 0 0 (wA ad P)) (F0 m 0 ls []) := by
  have hx := E.hx
  have hb := E.hb
  refine lv_iload_n hx hb dX7_within_0 rfl (lv_at hl 1 rfl) ?_
  refine lv_iload_n hx hb dX7_within_1 rfl (lv_at hl 0 rfl) ?_
  refine lv_icmp_gt (tgt := 14) hx hb dX7_within_2 (by decide) (fun c1 => ?_) (fun c1 => ?_)
  · have hw := ifT hw c1
    refine lv_iconst (v := 0) hx hb dX7_within_14 (by decide) ?_
    exact x_zret E hh hw rfl dX7_within_15
  · have hw := ifF hw c1
    refine lv_iload_n hx hb dX7_within_5 rfl (lv_at hl 0 rfl) ?_
    refine lv_iload_n hx hb dX7_within_6 rfl (lv_at hl 2 rfl) ?_
    refine lv_icmp_gt (tgt := 14) hx hb dX7_within_7 (by decide) (fun c2 => ?_) (fun c2 => ?_)
    · have hw := ifT hw c2
      refine lv_iconst (v := 0) hx hb dX7_within_14 (by decide) ?_
      exact x_zret E hh hw rfl dX7_within_15
    · have hw := ifF hw c2
      refine lv_iconst (v := 1) hx hb dX7_within_10 (by decide) ?_
      refine lv_goto (tgt := 15) hx hb dX7_within_11 (by decide) ?_
      exact x_zret E hh hw rfl dX7_within_15
theorem kX7_within : kS yX7_within cX7_within 3 (some .boolean) 3 := ⟨tb406, tb1, tb407, by decide, by decide, by decide +kernel⟩
theorem mX7_within {l : Launch} {D : va_G} {ad : Nat → Nat → Nat} {cs : Nat → ClassId} {P : Nat → Nat → Prop} {sz tU : Nat} {adK adV : Nat → Nat} {x0 : Int32} {x1 : Int32} {x2 : Int32} {S : St} {K : Int32 → St → Prop} (hI : wI ad P) (hn : ∀ kd i, i < cn0 kd → P kd i) (hw : wpX7_within x0 x1 x2 S K) : MI l yX7_within cX7_within 3 (some .boolean) 1 60 D ad cs P sz tU adK adV [.int x0, .int x1, .int x2] S (fun r S => K r S ∧ narrow .boolean (.int r) = .int r) :=
  Met_of (by decide) (Nat.le_of_ble_eq_true rfl) hI hn (fun p e R s m args below meth c ls E hl hh => bX7_within E  hw hh (lv_sub hl [0, 1, 2] rfl))
def wpX7_replace (kd0 : Nat) (u0 : Nat) (n0 : Nat) (x1 : Int32) (x2 : Int32) (S : St) (K : Int32 → St → Prop) : Prop := (vp_in x1 n0 ∧ (vp_in x1 n0 ∧ ∀ S2, S2 = su S kd0 u0 x1.toNatClampNeg x2 → K (S.1 kd0 u0 x1.toNatClampNeg) S2))
set_option maxRecDepth 4000 in
theorem bX7_replace {p : Program} {l : Launch} {e : Env} {R : Room} {s : State} {m : MethodId} {args : Array Value} {below : List Frame} {meth : Method} {c : Code} {D : va_G} {ad : Nat → Nat → Nat} {cs : Nat → ClassId} {P : Nat → Nat → Prop} {sz tU : Nat} {adK adV : Nat → Nat} {K : Int32 → St → Prop} {kd0 : Nat} {u0 : Nat} {n0 : Nat} {x1 : Int32} {x2 : Int32} {S : St} {H : Heap} {locs : List Loc} {ls : Array Slot} (E : Ex p s m args meth c R RX7 cX7_replace 4 (some .int) 1 60 D ad cs P (wA ad P) tU adK adV cn0) (hp0 : P kd0 u0) (ha0 : ∀ (f : Nat → Int32) (w : Int64), lay ad cs kd0 u0 f w = .inl (cs 0, n0, .inl f)) (hw : wpX7_replace kd0 u0 n0 x1 x2 S K) (hh : wH D ad cs P (wA ad P) s.heap sz S H locs) (hl : lv_has ls 4 [(0, .ref (ad kd0 u0)), (1, .int x1), (2, .int x2)]) : W p l e R s m args below meth c H locs 0 0 (MQ below (va_Qi K (QX D ad cs P sz) (wA ad P)) args s 0 0 (wA ad P)) (F0 m 0 ls []) := by
  have hx := E.hx
  have hb := E.hb
  refine lv_aload_n hx hb dX7_replace_0 rfl (lv_at hl 0 rfl) ?_
  refine lv_iload_n hx hb dX7_replace_1 rfl (lv_at hl 1 rfl) ?_
  obtain ⟨hi1, hw⟩ := hw
  refine x_iald E hh hp0 ha0 hi1 dX7_replace_2 ?_
  refine lv_istore_n (lv' := [(3, .int (S.1 kd0 u0 x1.toNatClampNeg)), (0, .ref (ad kd0 u0)), (1, .int x1), (2, .int x2)]) hx hb dX7_replace_3 rfl hl (by decide) rfl (fun ls hl => ?_)
  refine lv_aload_n hx hb dX7_replace_4 rfl (lv_at hl 1 rfl) ?_
  refine lv_iload_n hx hb dX7_replace_5 rfl (lv_at hl 2 rfl) ?_
  refine lv_iload_n hx hb dX7_replace_6 rfl (lv_at hl 3 rfl) ?_
  obtain ⟨hi2, hw⟩ := hw
  refine x_iast E hh hp0 ha0 hi2 dX7_replace_7 (fun S2 H locs e2 hh => ?_)
  have hw := hw S2 e2
  refine lv_iload_n hx hb dX7_replace_8 rfl (lv_at hl 0 rfl) ?_
  exact x_iret E hh hw dX7_replace_9
theorem kX7_replace : kS yX7_replace cX7_replace 4 (some .int) 3 := ⟨tb432, tb1, tb433, by decide, by decide, by decide +kernel⟩
theorem mX7_replace {l : Launch} {D : va_G} {ad : Nat → Nat → Nat} {cs : Nat → ClassId} {P : Nat → Nat → Prop} {sz tU : Nat} {adK adV : Nat → Nat} {kd0 : Nat} {u0 : Nat} {n0 : Nat} {x1 : Int32} {x2 : Int32} {S : St} {K : Int32 → St → Prop} (hI : wI ad P) (hn : ∀ kd i, i < cn0 kd → P kd i) (hp0 : P kd0 u0) (ha0 : ∀ (f : Nat → Int32) (w : Int64), lay ad cs kd0 u0 f w = .inl (cs 0, n0, .inl f)) (hw : wpX7_replace kd0 u0 n0 x1 x2 S K) : MI l yX7_replace cX7_replace 4 (some .int) 1 60 D ad cs P sz tU adK adV [.ref (ad kd0 u0), .int x1, .int x2] S K :=
  Met_of (by decide) (Nat.le_of_ble_eq_true rfl) hI hn (fun p e R s m args below meth c ls E hl hh => bX7_replace E hp0 ha0 hw hh (lv_sub hl [0, 1, 2] rfl))
def wpX7_isSheet (x0 : Int32) (S : St) (K : Int32 → St → Prop) : Prop := wpX7_within x0 0 3 S (fun r1 S1 => K r1 S1)
set_option maxRecDepth 4000 in
theorem bX7_isSheet {p : Program} {l : Launch} {e : Env} {R : Room} {s : State} {m : MethodId} {args : Array Value} {below : List Frame} {meth : Method} {c : Code} {D : va_G} {ad : Nat → Nat → Nat} {cs : Nat → ClassId} {P : Nat → Nat → Prop} {sz tU : Nat} {adK adV : Nat → Nat} {K : Int32 → St → Prop} {x0 : Int32} {S : St} {H : Heap} {locs : List Loc} {ls : Array Slot} (E : Ex p s m args meth c R RX7 cX7_isSheet 1 (some .boolean) 2 82 D ad cs P (wA ad P) tU adK adV cn0) (hw : wpX7_isSheet x0 S K) (hh : wH D ad cs P (wA ad P) s.heap sz S H locs) (hl : lv_has ls 1 [(0, .int x0)]) : W p l e R s m args below meth c H locs 0 0 (MQ below (va_Qi (fun r S => K r S ∧ narrow .boolean (.int r) = .int r) (QX D ad cs P sz) (wA ad P)) args s 0 0 (wA ad P)) (F0 m 0 ls []) := by
  have hx := E.hx
  have hb := E.hb
  refine lv_iload_n hx hb dX7_isSheet_0 rfl (lv_at hl 0 rfl) ?_
  refine lv_iconst (v := 0) hx hb dX7_isSheet_1 (by decide) ?_
  refine lv_iconst (v := 3) hx hb dX7_isSheet_2 (by decide) ?_
  refine x_ci E.hA hh (x_runS E hh (mX7_within E.hI E.hn hw) kX7_within tb405 ⟨by decide, by decide⟩ rfl hl.1 rfl (Nat.le_of_ble_eq_true rfl) dX7_isSheet_3 ⟨Nat.zero_le _, Nat.zero_le _⟩) (fun r1 S1 H locs hw hh => ?_)
  have hq1 := hw.2
  have hw := hw.1
  exact x_zret E hh hw hq1 dX7_isSheet_6
theorem kX7_isSheet : kS yX7_isSheet cX7_isSheet 1 (some .boolean) 1 := ⟨tb622, tb1, tb623, by decide, by decide, by decide +kernel⟩
theorem mX7_isSheet {l : Launch} {D : va_G} {ad : Nat → Nat → Nat} {cs : Nat → ClassId} {P : Nat → Nat → Prop} {sz tU : Nat} {adK adV : Nat → Nat} {x0 : Int32} {S : St} {K : Int32 → St → Prop} (hI : wI ad P) (hn : ∀ kd i, i < cn0 kd → P kd i) (hw : wpX7_isSheet x0 S K) : MI l yX7_isSheet cX7_isSheet 1 (some .boolean) 2 82 D ad cs P sz tU adK adV [.int x0] S (fun r S => K r S ∧ narrow .boolean (.int r) = .int r) :=
  Met_of (by decide) (Nat.le_of_ble_eq_true rfl) hI hn (fun p e R s m args below meth c ls E hl hh => bX7_isSheet E  hw hh (lv_sub hl [0] rfl))
def wbX7_commonDivisor_21 (R2 : Int32 → St → Prop) (K : Int32 → St → Prop) (x0 : Int32) (x1 : Int32) (x2 : Int32) (S : St) : Prop := R2 (x2 + (-1)) S
set_option maxRecDepth 4000 in
theorem bX7_commonDivisor_21 {p : Program} {l : Launch} {e : Env} {R : Room} {s : State} {m : MethodId} {args : Array Value} {below : List Frame} {meth : Method} {c : Code} {D : va_G} {ad : Nat → Nat → Nat} {cs : Nat → ClassId} {P : Nat → Nat → Prop} {sz tU : Nat} {adK adV : Nat → Nat} {R2 : Int32 → St → Prop} {K : Int32 → St → Prop} {x0 : Int32} {x1 : Int32} {x2 : Int32} {S : St} {H : Heap} {locs : List Loc} {ls : Array Slot} (E : Ex p s m args meth c R RX7 cX7_commonDivisor 3 (some .int) 1 60 D ad cs P (wA ad P) tU adK adV cn0) (hR2 : ∀ (z2 : Int32) (S : St) (H : Heap) (locs : List Loc) (ls : Array Slot), R2 z2 S → wH D ad cs P (wA ad P) s.heap sz S H locs → lv_has ls 3 [(0, .int x0), (1, .int x1), (2, .int z2)] → W p l e R s m args below meth c H locs 0 0 (MQ below (va_Qi K (QX D ad cs P sz) (wA ad P)) args s 0 0 (wA ad P)) (F0 m 2 ls [])) (hw : wbX7_commonDivisor_21 R2 K x0 x1 x2 S) (hh : wH D ad cs P (wA ad P) s.heap sz S H locs) (hl : lv_has ls 3 [(0, .int x0), (1, .int x1), (2, .int x2)]) : W p l e R s m args below meth c H locs 0 0 (MQ below (va_Qi K (QX D ad cs P sz) (wA ad P)) args s 0 0 (wA ad P)) (F0 m 21 ls []) := by
  have hx := E.hx
  have hb := E.hb
  refine lv_iinc (k := 2) (v := x2 + (-1)) (lv' := [(2, .int (x2 + (-1))), (0, .int x0), (1, .int x1)]) hx hb dX7_commonDivisor_21 hl rfl rfl (by decide) rfl (fun ls hl => ?_)
  refine lv_goto (tgt := 2) hx hb dX7_commonDivisor_24 (by decide) ?_
  exact hR2 (x2 + (-1)) S _ _ _ hw hh (lv_sub hl [1, 2, 0] rfl)
def wbX7_commonDivisor_2 (K : Int32 → St → Prop) (x0 : Int32) (x1 : Int32) : Nat → Int32 → St → Prop
  | 0, _, _ => False
  | n + 1, x2, S => if x2 ≤ 1 then (K 1 S) else ((¬ x2 = 0 ∧ if (x0 - x0 / x2 * x2) = 0 then ((¬ x2 = 0 ∧ if (x1 - x1 / x2 * x2) = 0 then (K x2 S) else (wbX7_commonDivisor_21 (fun yx2 S9 => wbX7_commonDivisor_2 K x0 x1 n yx2 S9) K x0 x1 x2 S))) else (wbX7_commonDivisor_21 (fun yx2 S9 => wbX7_commonDivisor_2 K x0 x1 n yx2 S9) K x0 x1 x2 S)))
set_option maxRecDepth 4000 in
theorem bX7_commonDivisor_2 {p : Program} {l : Launch} {e : Env} {R : Room} {s : State} {m : MethodId} {args : Array Value} {below : List Frame} {meth : Method} {c : Code} {D : va_G} {ad : Nat → Nat → Nat} {cs : Nat → ClassId} {P : Nat → Nat → Prop} {sz tU : Nat} {adK adV : Nat → Nat} {K : Int32 → St → Prop} {x0 : Int32} {x1 : Int32} (E : Ex p s m args meth c R RX7 cX7_commonDivisor 3 (some .int) 1 60 D ad cs P (wA ad P) tU adK adV cn0) : ∀ (n : Nat) (x2 : Int32) (S : St) (H : Heap) (locs : List Loc) (ls : Array Slot), wbX7_commonDivisor_2 K x0 x1 n x2 S → wH D ad cs P (wA ad P) s.heap sz S H locs → lv_has ls 3 [(0, .int x0), (1, .int x1), (2, .int x2)] → W p l e R s m args below meth c H locs 0 0 (MQ below (va_Qi K (QX D ad cs P sz) (wA ad P)) args s 0 0 (wA ad P)) (F0 m 2 ls []) := by
  have hx := E.hx
  have hb := E.hb
  intro n
  induction n with
  | zero => intro x2 S H locs ls hw hh hl; exact hw.elim
  | succ n ih =>
    intro x2 S H locs ls hw hh hl
    refine lv_iload_n hx hb dX7_commonDivisor_2 rfl (lv_at hl 2 rfl) ?_
    refine lv_iconst (v := 1) hx hb dX7_commonDivisor_3 (by decide) ?_
    refine lv_icmp_le (tgt := 27) hx hb dX7_commonDivisor_4 (by decide) (fun c1 => ?_) (fun c1 => ?_)
    · have hw := ifT hw c1
      refine lv_iconst (v := 1) hx hb dX7_commonDivisor_27 (by decide) ?_
      exact x_iret E hh hw dX7_commonDivisor_28
    · have hw := ifF hw c1
      refine lv_iload_n hx hb dX7_commonDivisor_7 rfl (lv_at hl 0 rfl) ?_
      refine lv_iload_n hx hb dX7_commonDivisor_8 rfl (lv_at hl 2 rfl) ?_
      obtain ⟨hz2, hw⟩ := hw
      refine lv_irem hx hb dX7_commonDivisor_9 hz2 ?_
      refine lv_if_ne (tgt := 21) hx hb dX7_commonDivisor_10 (by decide) (fun c3 => ?_) (fun c3 => ?_)
      · have hw := ifF hw c3
        exact bX7_commonDivisor_21 E ih hw hh (lv_sub hl [0, 1, 2] rfl)
      · have hw := ifT hw c3
        refine lv_iload_n hx hb dX7_commonDivisor_13 rfl (lv_at hl 1 rfl) ?_
        refine lv_iload_n hx hb dX7_commonDivisor_14 rfl (lv_at hl 2 rfl) ?_
        obtain ⟨hz4, hw⟩ := hw
        refine lv_irem hx hb dX7_commonDivisor_15 hz4 ?_
        refine lv_if_ne (tgt := 21) hx hb dX7_commonDivisor_16 (by decide) (fun c5 => ?_) (fun c5 => ?_)
        · have hw := ifF hw c5
          exact bX7_commonDivisor_21 E ih hw hh (lv_sub hl [0, 1, 2] rfl)
        · have hw := ifT hw c5
          refine lv_iload_n hx hb dX7_commonDivisor_19 rfl (lv_at hl 2 rfl) ?_
          exact x_iret E hh hw dX7_commonDivisor_20
def wpX7_commonDivisor (x0 : Int32) (x1 : Int32) (S : St) (K : Int32 → St → Prop) : Prop := ∃ k, wbX7_commonDivisor_2 K x0 x1 k x1 S
set_option maxRecDepth 4000 in
theorem bX7_commonDivisor {p : Program} {l : Launch} {e : Env} {R : Room} {s : State} {m : MethodId} {args : Array Value} {below : List Frame} {meth : Method} {c : Code} {D : va_G} {ad : Nat → Nat → Nat} {cs : Nat → ClassId} {P : Nat → Nat → Prop} {sz tU : Nat} {adK adV : Nat → Nat} {K : Int32 → St → Prop} {x0 : Int32} {x1 : Int32} {S : St} {H : Heap} {locs : List Loc} {ls : Array Slot} (E : Ex p s m args meth c R RX7 cX7_commonDivisor 3 (some .int) 1 60 D ad cs P (wA ad P) tU adK adV cn0) (hw : wpX7_commonDivisor x0 x1 S K) (hh : wH D ad cs P (wA ad P) s.heap sz S H locs) (hl : lv_has ls 3 [(0, .int x0), (1, .int x1)]) : W p l e R s m args below meth c H locs 0 0 (MQ below (va_Qi K (QX D ad cs P sz) (wA ad P)) args s 0 0 (wA ad P)) (F0 m 0 ls []) := by
  have hx := E.hx
  have hb := E.hb
  refine lv_iload_n hx hb dX7_commonDivisor_0 rfl (lv_at hl 1 rfl) ?_
  refine lv_istore_n (lv' := [(2, .int x1), (0, .int x0), (1, .int x1)]) hx hb dX7_commonDivisor_1 rfl hl (by decide) rfl (fun ls hl => ?_)
  obtain ⟨k, hw⟩ := hw
  exact bX7_commonDivisor_2 E k x1 S _ _ _ hw hh (lv_sub hl [1, 2, 0] rfl)
theorem kX7_commonDivisor : kS yX7_commonDivisor cX7_commonDivisor 3 (some .int) 2 := ⟨tb671, tb1, tb672, by decide, by decide, by decide +kernel⟩
theorem mX7_commonDivisor {l : Launch} {D : va_G} {ad : Nat → Nat → Nat} {cs : Nat → ClassId} {P : Nat → Nat → Prop} {sz tU : Nat} {adK adV : Nat → Nat} {x0 : Int32} {x1 : Int32} {S : St} {K : Int32 → St → Prop} (hI : wI ad P) (hn : ∀ kd i, i < cn0 kd → P kd i) (hw : wpX7_commonDivisor x0 x1 S K) : MI l yX7_commonDivisor cX7_commonDivisor 3 (some .int) 1 60 D ad cs P sz tU adK adV [.int x0, .int x1] S K :=
  Met_of (by decide) (Nat.le_of_ble_eq_true rfl) hI hn (fun p e R s m args below meth c ls E hl hh => bX7_commonDivisor E  hw hh (lv_sub hl [0, 1] rfl))
