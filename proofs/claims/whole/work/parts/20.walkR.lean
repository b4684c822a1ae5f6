/-! walks, written by wip/whole/tools/walk.py: 20.walkR -/
def wpX2_append (x1 : Int32) (S : St) (K : Int32 → St → Prop) : Prop := if (S.1 1 0 2) < 160 then ((vp_in (S.1 1 0 2) 160 ∧ ∀ S2, S2 = su S 4 0 (S.1 1 0 2).toNatClampNeg x1 → (∀ S3, S3 = su S2 1 0 2 ((S2.1 1 0 2) + 1) → K 1 S3))) else (K 0 S)
set_option maxRecDepth 4000 in
theorem bX2_append {p : Program} {l : Launch} {e : Env} {R : Room} {s : State} {m : MethodId} {args : Array Value} {below : List Frame} {meth : Method} {c : Code} {D : va_G} {ad : Nat → Nat → Nat} {cs : Nat → ClassId} {P : Nat → Nat → Prop} {sz tU : Nat} {adK adV : Nat → Nat} {K : Int32 → St → Prop} {x1 : Int32} {S : St} {H : Heap} {locs : List Loc} {ls : Array Slot} (E : Ex p s m args meth c R RX2 cX2_append 2 (some .boolean) 1 60 D ad cs P (wA ad P) tU adK adV cnB) (hw : wpX2_append x1 S K) (hh : wH D ad cs P (wA ad P) s.heap sz S H locs) (hl : lv_has ls 2 [(0, .ref (ad 1 0)), (1, .int x1)]) : W p l e R s m args below meth c H locs 0 0 (MQ below (va_Qi (fun r S => K r S ∧ narrow .boolean (.int r) = .int r) (QX D ad cs P sz) (wA ad P)) args s 0 0 (wA ad P)) (F0 m 0 ls []) := by
  have hx := E.hx
  have hb := E.hb
  refine lv_aload_n hx hb dX2_append_0 rfl (lv_at hl 0 rfl) ?_
  refine g_1_2 E hh tb35 (E.hn 1 0 (by decide)) dX2_append_1 ?_
  refine lv_sipush (v := 160) hx hb dX2_append_4 (by decide) ?_
  refine lv_icmp_lt (tgt := 12) hx hb dX2_append_7 (by decide) (fun c1 => ?_) (fun c1 => ?_)
  · have hw := ifT hw c1
    refine lv_aload_n hx hb dX2_append_12 rfl (lv_at hl 0 rfl) ?_
    refine g_1_3 E hh tb37 (E.hn 1 0 (by decide)) dX2_append_13 ?_
    refine lv_aload_n hx hb dX2_append_16 rfl (lv_at hl 0 rfl) ?_
    refine g_1_2 E hh tb35 (E.hn 1 0 (by decide)) dX2_append_17 ?_
    refine lv_iload_n hx hb dX2_append_20 rfl (lv_at hl 1 rfl) ?_
    obtain ⟨hi2, hw⟩ := hw
    refine x_iast E hh (E.hn 4 0 (by decide)) ly_4 hi2 dX2_append_21 (fun S2 H locs e2 hh => ?_)
    have hw := hw S2 e2
    refine lv_aload_n hx hb dX2_append_22 rfl (lv_at hl 0 rfl) ?_
    refine lv_dup hx hb dX2_append_23 rfl ?_
    refine g_1_2 E hh tb35 (E.hn 1 0 (by decide)) dX2_append_24 ?_
    refine lv_iconst (v := 1) hx hb dX2_append_27 (by decide) ?_
    refine lv_iadd hx hb dX2_append_28 ?_
    refine p_1_2 E hh tb35 (E.hn 1 0 (by decide)) dX2_append_29 (fun S3 H locs e3 hh => ?_)
    have hw := hw S3 e3
    refine lv_iconst (v := 1) hx hb dX2_append_32 (by decide) ?_
    exact x_zret E hh hw rfl dX2_append_33
  · have hw := ifF hw c1
    refine lv_iconst (v := 0) hx hb dX2_append_10 (by decide) ?_
    exact x_zret E hh hw rfl dX2_append_11
theorem kX2_append : kI yX2_append cX2_append 2 (some .boolean) 1 := ⟨tb214, tb215, tb2, tb216, by decide, by decide, by decide +kernel⟩
theorem mX2_append {l : Launch} {D : va_G} {ad : Nat → Nat → Nat} {cs : Nat → ClassId} {P : Nat → Nat → Prop} {sz tU : Nat} {adK adV : Nat → Nat} {x1 : Int32} {S : St} {K : Int32 → St → Prop} (hI : wI ad P) (hn : ∀ kd i, i < cnB kd → P kd i) (hw : wpX2_append x1 S K) : MI l yX2_append cX2_append 2 (some .boolean) 1 60 D ad cs P sz tU adK adV [.ref (ad 1 0), .int x1] S (fun r S => K r S ∧ narrow .boolean (.int r) = .int r) :=
  Met_of (by decide) (Nat.le_of_ble_eq_true rfl) hI hn (fun p e R s m args below meth c ls E hl hh => bX2_append E  hw hh (lv_sub hl [0, 1] rfl))
def wpX2_isDigit (x0 : Int32) (S : St) (K : Int32 → St → Prop) : Prop := if x0 < 48 then (K 0 S) else (if 57 < x0 then (K 0 S) else (K 1 S))
set_option maxRecDepth 4000 in
theorem bX2_isDigit {p : Program} {l : Launch} {e : Env} {R : Room} {s : State} {m : MethodId} {args : Array Value} {below : List Frame} {meth : Method} {c : Code} {D : va_G} {ad : Nat → Nat → Nat} {cs : Nat → ClassId} {P : Nat → Nat → Prop} {sz tU : Nat} {adK adV : Nat → Nat} {K : Int32 → St → Prop} {x0 : Int32} {S : St} {H : Heap} {locs : List Loc} {ls : Array Slot} (E : Ex p s m args meth c R RX2 cX2_isDigit 1 (some .boolean) 1 60 D ad cs P (wA ad P) tU adK adV cn0) (hw : wpX2_isDigit x0 S K) (hh : wH D ad cs P (wA ad P) s.heap sz S H locs) (hl : lv_has ls 1 [(0, .int x0)]) : W p l e R s m args below meth c H locs 0 0 (MQ below (va_Qi (fun r S => K r S ∧ narrow .boolean (.int r) = .int r) (QX D ad cs P sz) (wA ad P)) args s 0 0 (wA ad P)) (F0 m 0 ls []) := by
  have hx := E.hx
  have hb := E.hb
  refine lv_bipush (v := 48) hx hb dX2_isDigit_0 (by decide) ?_
  refine lv_iload_n hx hb dX2_isDigit_2 rfl (lv_at hl 0 rfl) ?_
  refine lv_icmp_gt (tgt := 16) hx hb dX2_isDigit_3 (by decide) (fun c1 => ?_) (fun c1 => ?_)
  · have hw := ifT hw c1
    refine lv_iconst (v := 0) hx hb dX2_isDigit_16 (by decide) ?_
    exact x_zret E hh hw rfl dX2_isDigit_17
  · have hw := ifF hw c1
    refine lv_iload_n hx hb dX2_isDigit_6 rfl (lv_at hl 0 rfl) ?_
    refine lv_bipush (v := 57) hx hb dX2_isDigit_7 (by decide) ?_
    refine lv_icmp_gt (tgt := 16) hx hb dX2_isDigit_9 (by decide) (fun c2 => ?_) (fun c2 => ?_)
    · have hw := ifT hw c2
      refine lv_iconst (v := 0) hx hb dX2_isDigit_16 (by decide) ?_
      exact x_zret E hh hw rfl dX2_isDigit_17
    · have hw := ifF hw c2
      refine lv_iconst (v := 1) hx hb dX2_isDigit_12 (by decide) ?_
      refine lv_goto (tgt := 17) hx hb dX2_isDigit_13 (by decide) ?_
      exact x_zret E hh hw rfl dX2_isDigit_17
theorem kX2_isDigit : kS yX2_isDigit cX2_isDigit 1 (some .boolean) 1 := ⟨tb254, tb2, tb255, by decide, by decide, by decide +kernel⟩
theorem mX2_isDigit {l : Launch} {D : va_G} {ad : Nat → Nat → Nat} {cs : Nat → ClassId} {P : Nat → Nat → Prop} {sz tU : Nat} {adK adV : Nat → Nat} {x0 : Int32} {S : St} {K : Int32 → St → Prop} (hI : wI ad P) (hn : ∀ kd i, i < cn0 kd → P kd i) (hw : wpX2_isDigit x0 S K) : MI l yX2_isDigit cX2_isDigit 1 (some .boolean) 1 60 D ad cs P sz tU adK adV [.int x0] S (fun r S => K r S ∧ narrow .boolean (.int r) = .int r) :=
  Met_of (by decide) (Nat.le_of_ble_eq_true rfl) hI hn (fun p e R s m args below meth c ls E hl hh => bX2_isDigit E  hw hh (lv_sub hl [0] rfl))
def wpX2_isLetter (x0 : Int32) (S : St) (K : Int32 → St → Prop) : Prop := if x0 < 97 then (K 0 S) else (if 122 < x0 then (K 0 S) else (K 1 S))
set_option maxRecDepth 4000 in
theorem bX2_isLetter {p : Program} {l : Launch} {e : Env} {R : Room} {s : State} {m : MethodId} {args : Array Value} {below : List Frame} {meth : Method} {c : Code} {D : va_G} {ad : Nat → Nat → Nat} {cs : Nat → ClassId} {P : Nat → Nat → Prop} {sz tU : Nat} {adK adV : Nat → Nat} {K : Int32 → St → Prop} {x0 : Int32} {S : St} {H : Heap} {locs : List Loc} {ls : Array Slot} (E : Ex p s m args meth c R RX2 cX2_isLetter 1 (some .boolean) 1 60 D ad cs P (wA ad P) tU adK adV cn0) (hw : wpX2_isLetter x0 S K) (hh : wH D ad cs P (wA ad P) s.heap sz S H locs) (hl : lv_has ls 1 [(0, .int x0)]) : W p l e R s m args below meth c H locs 0 0 (MQ below (va_Qi (fun r S => K r S ∧ narrow .boolean (.int r) = .int r) (QX D ad cs P sz) (wA ad P)) args s 0 0 (wA ad P)) (F0 m 0 ls []) := by
  have hx := E.hx
  have hb := E.hb
  refine lv_bipush (v := 97) hx hb dX2_isLetter_0 (by decide) ?_
  refine lv_iload_n hx hb dX2_isLetter_2 rfl (lv_at hl 0 rfl) ?_
  refine lv_icmp_gt (tgt := 16) hx hb dX2_isLetter_3 (by decide) (fun c1 => ?_) (fun c1 => ?_)
  · have hw := ifT hw c1
    refine lv_iconst (v := 0) hx hb dX2_isLetter_16 (by decide) ?_
    exact x_zret E hh hw rfl dX2_isLetter_17
  · have hw := ifF hw c1
    refine lv_iload_n hx hb dX2_isLetter_6 rfl (lv_at hl 0 rfl) ?_
    refine lv_bipush (v := 122) hx hb dX2_isLetter_7 (by decide) ?_
    refine lv_icmp_gt (tgt := 16) hx hb dX2_isLetter_9 (by decide) (fun c2 => ?_) (fun c2 => ?_)
    · have hw := ifT hw c2
      refine lv_iconst (v := 0) hx hb dX2_isLetter_16 (by decide) ?_
      exact x_zret E hh hw rfl dX2_isLetter_17
    · have hw := ifF hw c2
      refine lv_iconst (v := 1) hx hb dX2_isLetter_12 (by decide) ?_
      refine lv_goto (tgt := 17) hx hb dX2_isLetter_13 (by decide) ?_
      exact x_zret E hh hw rfl dX2_isLetter_17
theorem kX2_isLetter : kS yX2_isLetter cX2_isLetter 1 (some .boolean) 1 := ⟨tb226, tb2, tb227, by decide, by decide, by decide +kernel⟩
theorem mX2_isLetter {l : Launch} {D : va_G} {ad : Nat → Nat → Nat} {cs : Nat → ClassId} {P : Nat → Nat → Prop} {sz tU : Nat} {adK adV : Nat → Nat} {x0 : Int32} {S : St} {K : Int32 → St → Prop} (hI : wI ad P) (hn : ∀ kd i, i < cn0 kd → P kd i) (hw : wpX2_isLetter x0 S K) : MI l yX2_isLetter cX2_isLetter 1 (some .boolean) 1 60 D ad cs P sz tU adK adV [.int x0] S (fun r S => K r S ∧ narrow .boolean (.int r) = .int r) :=
  Met_of (by decide) (Nat.le_of_ble_eq_true rfl) hI hn (fun p e R s m args below meth c ls E hl hh => bX2_isLetter E  hw hh (lv_sub hl [0] rfl))
def wpX2_isSign (x0 : Int32) (S : St) (K : Int32 → St → Prop) : Prop := (if x0 = 40 then (K 1 S) else (if x0 = 41 then (K 1 S) else (if x0 = 42 then (K 1 S) else (if x0 = 43 then (K 1 S) else (if x0 = 44 then (K 0 S) else (if x0 = 45 then (K 1 S) else (if x0 = 46 then (K 0 S) else (if x0 = 47 then (K 0 S) else (if x0 = 48 then (K 0 S) else (if x0 = 49 then (K 0 S) else (if x0 = 50 then (K 0 S) else (if x0 = 51 then (K 0 S) else (if x0 = 52 then (K 0 S) else (if x0 = 53 then (K 0 S) else (if x0 = 54 then (K 0 S) else (if x0 = 55 then (K 0 S) else (if x0 = 56 then (K 0 S) else (if x0 = 57 then (K 0 S) else (if x0 = 58 then (K 0 S) else (if x0 = 59 then (K 1 S) else (if x0 = 60 then (K 1 S) else (if x0 = 61 then (K 1 S) else (K 0 S)))))))))))))))))))))))
set_option maxRecDepth 4000 in
theorem bX2_isSign {p : Program} {l : Launch} {e : Env} {R : Room} {s : State} {m : MethodId} {args : Array Value} {below : List Frame} {meth : Method} {c : Code} {D : va_G} {ad : Nat → Nat → Nat} {cs : Nat → ClassId} {P : Nat → Nat → Prop} {sz tU : Nat} {adK adV : Nat → Nat} {K : Int32 → St → Prop} {x0 : Int32} {S : St} {H : Heap} {locs : List Loc} {ls : Array Slot} (E : Ex p s m args meth c R RX2 cX2_isSign 1 (some .boolean) 1 60 D ad cs P (wA ad P) tU adK adV cn0) (hw : wpX2_isSign x0 S K) (hh : wH D ad cs P (wA ad P) s.heap sz S H locs) (hl : lv_has ls 1 [(0, .int x0)]) : W p l e R s m args below meth c H locs 0 0 (MQ below (va_Qi (fun r S => K r S ∧ narrow .boolean (.int r) = .int r) (QX D ad cs P sz) (wA ad P)) args s 0 0 (wA ad P)) (F0 m 0 ls []) := by
  have hx := E.hx
  have hb := E.hb
  refine lv_iload_n hx hb dX2_isSign_0 rfl (lv_at hl 0 rfl) ?_
  by_cases c1 : x0 = 40
  · have hw := ifT hw c1
    refine lv_tableIn (tgt := 104) hx hb dX2_isSign_1 (by rw [c1] <;> decide) (by rw [c1] <;> decide) (by rw [c1] <;> rfl) (by decide) ?_
    refine lv_iconst (v := 1) hx hb dX2_isSign_104 (by decide) ?_
    exact x_zret E hh hw rfl dX2_isSign_105
  have hw := ifF hw c1
  by_cases c2 : x0 = 41
  · have hw := ifT hw c2
    refine lv_tableIn (tgt := 104) hx hb dX2_isSign_1 (by rw [c2] <;> decide) (by rw [c2] <;> decide) (by rw [c2] <;> rfl) (by decide) ?_
    refine lv_iconst (v := 1) hx hb dX2_isSign_104 (by decide) ?_
    exact x_zret E hh hw rfl dX2_isSign_105
  have hw := ifF hw c2
  by_cases c3 : x0 = 42
  · have hw := ifT hw c3
    refine lv_tableIn (tgt := 104) hx hb dX2_isSign_1 (by rw [c3] <;> decide) (by rw [c3] <;> decide) (by rw [c3] <;> rfl) (by decide) ?_
    refine lv_iconst (v := 1) hx hb dX2_isSign_104 (by decide) ?_
    exact x_zret E hh hw rfl dX2_isSign_105
  have hw := ifF hw c3
  by_cases c4 : x0 = 43
  · have hw := ifT hw c4
    refine lv_tableIn (tgt := 104) hx hb dX2_isSign_1 (by rw [c4] <;> decide) (by rw [c4] <;> decide) (by rw [c4] <;> rfl) (by decide) ?_
    refine lv_iconst (v := 1) hx hb dX2_isSign_104 (by decide) ?_
    exact x_zret E hh hw rfl dX2_isSign_105
  have hw := ifF hw c4
  by_cases c5 : x0 = 44
  · have hw := ifT hw c5
    refine lv_tableIn (tgt := 106) hx hb dX2_isSign_1 (by rw [c5] <;> decide) (by rw [c5] <;> decide) (by rw [c5] <;> rfl) (by decide) ?_
    refine lv_iconst (v := 0) hx hb dX2_isSign_106 (by decide) ?_
    exact x_zret E hh hw rfl dX2_isSign_107
  have hw := ifF hw c5
  by_cases c6 : x0 = 45
  · have hw := ifT hw c6
    refine lv_tableIn (tgt := 104) hx hb dX2_isSign_1 (by rw [c6] <;> decide) (by rw [c6] <;> decide) (by rw [c6] <;> rfl) (by decide) ?_
    refine lv_iconst (v := 1) hx hb dX2_isSign_104 (by decide) ?_
    exact x_zret E hh hw rfl dX2_isSign_105
  have hw := ifF hw c6
  by_cases c7 : x0 = 46
  · have hw := ifT hw c7
    refine lv_tableIn (tgt := 106) hx hb dX2_isSign_1 (by rw [c7] <;> decide) (by rw [c7] <;> decide) (by rw [c7] <;> rfl) (by decide) ?_
    refine lv_iconst (v := 0) hx hb dX2_isSign_106 (by decide) ?_
    exact x_zret E hh hw rfl dX2_isSign_107
  have hw := ifF hw c7
  by_cases c8 : x0 = 47
  · have hw := ifT hw c8
    refine lv_tableIn (tgt := 106) hx hb dX2_isSign_1 (by rw [c8] <;> decide) (by rw [c8] <;> decide) (by rw [c8] <;> rfl) (by decide) ?_
    refine lv_iconst (v := 0) hx hb dX2_isSign_106 (by decide) ?_
    exact x_zret E hh hw rfl dX2_isSign_107
  have hw := ifF hw c8
  by_cases c9 : x0 = 48
  · have hw := ifT hw c9
    refine lv_tableIn (tgt := 106) hx hb dX2_isSign_1 (by rw [c9] <;> decide) (by rw [c9] <;> decide) (by rw [c9] <;> rfl) (by decide) ?_
    refine lv_iconst (v := 0) hx hb dX2_isSign_106 (by decide) ?_
    exact x_zret E hh hw rfl dX2_isSign_107
  have hw := ifF hw c9
  by_cases c10 : x0 = 49
  · have hw := ifT hw c10
    refine lv_tableIn (tgt := 106) hx hb dX2_isSign_1 (by rw [c10] <;> decide) (by rw [c10] <;> decide) (by rw [c10] <;> rfl) (by decide) ?_
    refine lv_iconst (v := 0) hx hb dX2_isSign_106 (by decide) ?_
    exact x_zret E hh hw rfl dX2_isSign_107
  have hw := ifF hw c10
  by_cases c11 : x0 = 50
  · have hw := ifT hw c11
    refine lv_tableIn (tgt := 106) hx hb dX2_isSign_1 (by rw [c11] <;> decide) (by rw [c11] <;> decide) (by rw [c11] <;> rfl) (by decide) ?_
    refine lv_iconst (v := 0) hx hb dX2_isSign_106 (by decide) ?_
    exact x_zret E hh hw rfl dX2_isSign_107
  have hw := ifF hw c11
  by_cases c12 : x0 = 51
  · have hw := ifT hw c12
    refine lv_tableIn (tgt := 106) hx hb dX2_isSign_1 (by rw [c12] <;> decide) (by rw [c12] <;> decide) (by rw [c12] <;> rfl) (by decide) ?_
    refine lv_iconst (v := 0) hx hb dX2_isSign_106 (by decide) ?_
    exact x_zret E hh hw rfl dX2_isSign_107
  have hw := ifF hw c12
  by_cases c13 : x0 = 52
  · have hw := ifT hw c13
    refine lv_tableIn (tgt := 106) hx hb dX2_isSign_1 (by rw [c13] <;> decide) (by rw [c13] <;> decide) (by rw [c13] <;> rfl) (by decide) ?_
    refine lv_iconst (v := 0) hx hb dX2_isSign_106 (by decide) ?_
    exact x_zret E hh hw rfl dX2_isSign_107
  have hw := ifF hw c13
  by_cases c14 : x0 = 53
  · have hw := ifT hw c14
    refine lv_tableIn (tgt := 106) hx hb dX2_isSign_1 (by rw [c14] <;> decide) (by rw [c14] <;> decide) (by rw [c14] <;> rfl) (by decide) ?_
    refine lv_iconst (v := 0) hx hb dX2_isSign_106 (by decide) ?_
    exact x_zret E hh hw rfl dX2_isSign_107
  have hw := ifF hw c14
  by_cases c15 : x0 = 54
  · have hw := ifT hw c15
    refine lv_tableIn (tgt := 106) hx hb dX2_isSign_1 (by rw [c15] <;> decide) (by rw [c15] <;> decide) (by rw [c15] <;> rfl) (by decide) ?_
    refine lv_iconst (v := 0) hx hb dX2_isSign_106 (by decide) ?_
    exact x_zret E hh hw rfl dX2_isSign_107
  have hw := ifF hw c15
  by_cases c16 : x0 = 55
  · have hw := ifT hw c16
    refine lv_tableIn (tgt := 106) hx hb dX2_isSign_1 (by rw [c16] <;> decide) (by rw [c16] <;> decide) (by rw [c16] <;> rfl) (by decide) ?_
    refine lv_iconst (v := 0) hx hb dX2_isSign_106 (by decide) ?_
    exact x_zret E hh hw rfl dX2_isSign_107
  have hw := ifF hw c16
  by_cases c17 : x0 = 56
  · have hw := ifT hw c17
    refine lv_tableIn (tgt := 106) hx hb dX2_isSign_1 (by rw [c17] <;> decide) (by rw [c17] <;> decide) (by rw [c17] <;> rfl) (by decide) ?_
    refine lv_iconst (v := 0) hx hb dX2_isSign_106 (by decide) ?_
    exact x_zret E hh hw rfl dX2_isSign_107
  have hw := ifF hw c17
  by_cases c18 : x0 = 57
  · have hw := ifT hw c18
    refine lv_tableIn (tgt := 106) hx hb dX2_isSign_1 (by rw [c18] <;> decide) (by rw [c18] <;> decide) (by rw [c18] <;> rfl) (by decide) ?_
    refine lv_iconst (v := 0) hx hb dX2_isSign_106 (by decide) ?_
    exact x_zret E hh hw rfl dX2_isSign_107
  have hw := ifF hw c18
  by_cases c19 : x0 = 58
  · have hw := ifT hw c19
    refine lv_tableIn (tgt := 106) hx hb dX2_isSign_1 (by rw [c19] <;> decide) (by rw [c19] <;> decide) (by rw [c19] <;> rfl) (by decide) ?_
    refine lv_iconst (v := 0) hx hb dX2_isSign_106 (by decide) ?_
    exact x_zret E hh hw rfl dX2_isSign_107
  have hw := ifF hw c19
  by_cases c20 : x0 = 59
  · have hw := ifT hw c20
    refine lv_tableIn (tgt := 104) hx hb dX2_isSign_1 (by rw [c20] <;> decide) (by rw [c20] <;> decide) (by rw [c20] <;> rfl) (by decide) ?_
    refine lv_iconst (v := 1) hx hb dX2_isSign_104 (by decide) ?_
    exact x_zret E hh hw rfl dX2_isSign_105
  have hw := ifF hw c20
  by_cases c21 : x0 = 60
  · have hw := ifT hw c21
    refine lv_tableIn (tgt := 104) hx hb dX2_isSign_1 (by rw [c21] <;> decide) (by rw [c21] <;> decide) (by rw [c21] <;> rfl) (by decide) ?_
    refine lv_iconst (v := 1) hx hb dX2_isSign_104 (by decide) ?_
    exact x_zret E hh hw rfl dX2_isSign_105
  have hw := ifF hw c21
  by_cases c22 : x0 = 61
  · have hw := ifT hw c22
    refine lv_tableIn (tgt := 104) hx hb dX2_isSign_1 (by rw [c22] <;> decide) (by rw [c22] <;> decide) (by rw [c22] <;> rfl) (by decide) ?_
    refine lv_iconst (v := 1) hx hb dX2_isSign_104 (by decide) ?_
    exact x_zret E hh hw rfl dX2_isSign_105
  have hw := ifF hw c22
  refine lv_tableOut (tgt := 106) hx hb dX2_isSign_1 (by have n0 := lv_neT c1 (a := 40) rfl; have n1 := lv_neT c2 (a := 41) rfl; have n2 := lv_neT c3 (a := 42) rfl; have n3 := lv_neT c4 (a := 43) rfl; have n4 := lv_neT c5 (a := 44) rfl; have n5 := lv_neT c6 (a := 45) rfl; have n6 := lv_neT c7 (a := 46) rfl; have n7 := lv_neT c8 (a := 47) rfl; have n8 := lv_neT c9 (a := 48) rfl; have n9 := lv_neT c10 (a := 49) rfl; have n10 := lv_neT c11 (a := 50) rfl; have n11 := lv_neT c12 (a := 51) rfl; have n12 := lv_neT c13 (a := 52) rfl; have n13 := lv_neT c14 (a := 53) rfl; have n14 := lv_neT c15 (a := 54) rfl; have n15 := lv_neT c16 (a := 55) rfl; have n16 := lv_neT c17 (a := 56) rfl; have n17 := lv_neT c18 (a := 57) rfl; have n18 := lv_neT c19 (a := 58) rfl; have n19 := lv_neT c20 (a := 59) rfl; have n20 := lv_neT c21 (a := 60) rfl; have n21 := lv_neT c22 (a := 61) rfl; omega) (by decide) ?_
  refine lv_iconst (v := 0) hx hb dX2_isSign_106 (by decide) ?_
  exact x_zret E hh hw rfl dX2_isSign_107
theorem kX2_isSign : kS yX2_isSign cX2_isSign 1 (some .boolean) 1 := ⟨tb261, tb2, tb262, by decide, by decide, by decide +kernel⟩
theorem mX2_isSign {l : Launch} {D : va_G} {ad : Nat → Nat → Nat} {cs : Nat → ClassId} {P : Nat → Nat → Prop} {sz tU : Nat} {adK adV : Nat → Nat} {x0 : Int32} {S : St} {K : Int32 → St → Prop} (hI : wI ad P) (hn : ∀ kd i, i < cn0 kd → P kd i) (hw : wpX2_isSign x0 S K) : MI l yX2_isSign cX2_isSign 1 (some .boolean) 1 60 D ad cs P sz tU adK adV [.int x0] S (fun r S => K r S ∧ narrow .boolean (.int r) = .int r) :=
  Met_of (by decide) (Nat.le_of_ble_eq_true rfl) hI hn (fun p e R s m args below meth c ls E hl hh => bX2_isSign E  hw hh (lv_sub hl [0] rfl))
def wbX2_takeNumber_88 (K : St → Prop) (v0 : Int32) (S : St) : Prop := (∀ S10, S10 = su S 1 0 7 v0 → K S10)
set_option maxRecDepth 4000 in
theorem bX2_takeNumber_88 {p : Program} {l : Launch} {e : Env} {R : Room} {s : State} {m : MethodId} {args : Array Value} {below : List Frame} {meth : Method} {c : Code} {D : va_G} {ad : Nat → Nat → Nat} {cs : Nat → ClassId} {P : Nat → Nat → Prop} {sz tU : Nat} {adK adV : Nat → Nat} {K : St → Prop} {v0 : Int32} {S : St} {H : Heap} {locs : List Loc} {ls : Array Slot} (E : Ex p s m args meth c R RX2 cX2_takeNumber 1 none 2 80 D ad cs P (wA ad P) tU adK adV cnB) (hw : wbX2_takeNumber_88 K v0 S) (hh : wH D ad cs P (wA ad P) s.heap sz S H locs) (hl : lv_has ls 1 []) : W p l e R s m args below meth c H locs 0 0 (MQ below (va_Qv K (QX D ad cs P sz) (wA ad P)) args s 0 0 (wA ad P)) (F0 m 88 ls [.int v0, .ref (ad 1 0)]) := by
  have hx := E.hx
  have hb := E.hb
  refine p_1_7 E hh tb41 (E.hn 1 0 (by decide)) dX2_takeNumber_88 (fun S10 H locs e10 hh => ?_)
  have hw := hw S10 e10
  exact x_vret E hh hw dX2_takeNumber_91
def wbX2_takeNumber_68 (K : St → Prop) (S : St) : Prop := if ((S.1 1 0 5) - (S.1 1 0 6)) ≤ 4 then (wbX2_takeNumber_88 K 0 S) else (wbX2_takeNumber_88 K (-2) S)
set_option maxRecDepth 4000 in
theorem bX2_takeNumber_68 {p : Program} {l : Launch} {e : Env} {R : Room} {s : State} {m : MethodId} {args : Array Value} {below : List Frame} {meth : Method} {c : Code} {D : va_G} {ad : Nat → Nat → Nat} {cs : Nat → ClassId} {P : Nat → Nat → Prop} {sz tU : Nat} {adK adV : Nat → Nat} {K : St → Prop} {S : St} {H : Heap} {locs : List Loc} {ls : Array Slot} (E : Ex p s m args meth c R RX2 cX2_takeNumber 1 none 2 80 D ad cs P (wA ad P) tU adK adV cnB) (hw : wbX2_takeNumber_68 K S) (hh : wH D ad cs P (wA ad P) s.heap sz S H locs) (hl : lv_has ls 1 [(0, .ref (ad 1 0))]) : W p l e R s m args below meth c H locs 0 0 (MQ below (va_Qv K (QX D ad cs P sz) (wA ad P)) args s 0 0 (wA ad P)) (F0 m 68 ls []) := by
  have hx := E.hx
  have hb := E.hb
  refine lv_aload_n hx hb dX2_takeNumber_68 rfl (lv_at hl 0 rfl) ?_
  refine lv_aload_n hx hb dX2_takeNumber_69 rfl (lv_at hl 0 rfl) ?_
  refine g_1_5 E hh tb39 (E.hn 1 0 (by decide)) dX2_takeNumber_70 ?_
  refine lv_aload_n hx hb dX2_takeNumber_73 rfl (lv_at hl 0 rfl) ?_
  refine g_1_6 E hh tb40 (E.hn 1 0 (by decide)) dX2_takeNumber_74 ?_
  refine lv_isub hx hb dX2_takeNumber_77 ?_
  refine lv_iconst (v := 4) hx hb dX2_takeNumber_78 (by decide) ?_
  refine lv_icmp_le (tgt := 87) hx hb dX2_takeNumber_79 (by decide) (fun c9 => ?_) (fun c9 => ?_)
  · have hw := ifT hw c9
    refine lv_iconst (v := 0) hx hb dX2_takeNumber_87 (by decide) ?_
    exact bX2_takeNumber_88 E hw hh (lv_sub hl [] rfl)
  · have hw := ifF hw c9
    refine lv_bipush (v := (-2)) hx hb dX2_takeNumber_82 (by decide) ?_
    refine lv_goto (tgt := 88) hx hb dX2_takeNumber_84 (by decide) ?_
    exact bX2_takeNumber_88 E hw hh (lv_sub hl [] rfl)
def wbX2_takeNumber_5 (K : St → Prop) : Nat → St → Prop
  | 0, _ => False
  | n + 1, S => if (S.1 1 0 2) ≤ (S.1 1 0 5) then (wbX2_takeNumber_68 K S) else ((vp_in (S.1 1 0 5) 160 ∧ wpX2_isDigit (S.1 4 0 (S.1 1 0 5).toNatClampNeg) S (fun r4 S4 => if r4 = 0 then (wbX2_takeNumber_68 K S4) else ((vp_in (S4.1 1 0 5) 160 ∧ (∀ S7, S7 = su S4 1 0 8 ((((S4.1 1 0 8) * 10) + (S4.1 4 0 (S4.1 1 0 5).toNatClampNeg)) - 48) → (∀ S8, S8 = su S7 1 0 5 ((S7.1 1 0 5) + 1) → wbX2_takeNumber_5 K n S8)))))))
set_option maxRecDepth 4000 in
theorem bX2_takeNumber_5 {p : Program} {l : Launch} {e : Env} {R : Room} {s : State} {m : MethodId} {args : Array Value} {below : List Frame} {meth : Method} {c : Code} {D : va_G} {ad : Nat → Nat → Nat} {cs : Nat → ClassId} {P : Nat → Nat → Prop} {sz tU : Nat} {adK adV : Nat → Nat} {K : St → Prop} (E : Ex p s m args meth c R RX2 cX2_takeNumber 1 none 2 80 D ad cs P (wA ad P) tU adK adV cnB) : ∀ (n : Nat) (S : St) (H : Heap) (locs : List Loc) (ls : Array Slot), wbX2_takeNumber_5 K n S → wH D ad cs P (wA ad P) s.heap sz S H locs → lv_has ls 1 [(0, .ref (ad 1 0))] → W p l e R s m args below meth c H locs 0 0 (MQ below (va_Qv K (QX D ad cs P sz) (wA ad P)) args s 0 0 (wA ad P)) (F0 m 5 ls []) := by
  have hx := E.hx
  have hb := E.hb
  intro n
  induction n with
  | zero => intro S H locs ls hw hh hl; exact hw.elim
  | succ n ih =>
    intro S H locs ls hw hh hl
    refine lv_aload_n hx hb dX2_takeNumber_5 rfl (lv_at hl 0 rfl) ?_
    refine g_1_5 E hh tb39 (E.hn 1 0 (by decide)) dX2_takeNumber_6 ?_
    refine lv_aload_n hx hb dX2_takeNumber_9 rfl (lv_at hl 0 rfl) ?_
    refine g_1_2 E hh tb35 (E.hn 1 0 (by decide)) dX2_takeNumber_10 ?_
    refine lv_icmp_ge (tgt := 68) hx hb dX2_takeNumber_13 (by decide) (fun c2 => ?_) (fun c2 => ?_)
    · have hw := ifT hw c2
      exact bX2_takeNumber_68 E hw hh (lv_sub hl [0] rfl)
    · have hw := ifF hw c2
      refine lv_aload_n hx hb dX2_takeNumber_16 rfl (lv_at hl 0 rfl) ?_
      refine g_1_3 E hh tb37 (E.hn 1 0 (by decide)) dX2_takeNumber_17 ?_
      refine lv_aload_n hx hb dX2_takeNumber_20 rfl (lv_at hl 0 rfl) ?_
      refine g_1_5 E hh tb39 (E.hn 1 0 (by decide)) dX2_takeNumber_21 ?_
      obtain ⟨hi3, hw⟩ := hw
      refine x_iald E hh (E.hn 4 0 (by decide)) ly_4 hi3 dX2_takeNumber_24 ?_
      refine x_ci E.hA hh (x_runS E hh (mX2_isDigit E.hI (fun _ _ h => absurd h (Nat.not_lt_zero _)) hw) kX2_isDigit tb253 ⟨by decide, by decide⟩ rfl hl.1 rfl (Nat.le_of_ble_eq_true rfl) dX2_takeNumber_25 ⟨Nat.zero_le _, Nat.zero_le _⟩) (fun r4 S4 H locs hw hh => ?_)
      have hq4 := hw.2
      have hw := hw.1
      refine lv_if_eq (tgt := 68) hx hb dX2_takeNumber_28 (by decide) (fun c5 => ?_) (fun c5 => ?_)
      · have hw := ifT hw c5
        exact bX2_takeNumber_68 E hw hh (lv_sub hl [0] rfl)
      · have hw := ifF hw c5
        refine lv_aload_n hx hb dX2_takeNumber_31 rfl (lv_at hl 0 rfl) ?_
        refine lv_aload_n hx hb dX2_takeNumber_32 rfl (lv_at hl 0 rfl) ?_
        refine g_1_8 E hh tb42 (E.hn 1 0 (by decide)) dX2_takeNumber_33 ?_
        refine lv_bipush (v := 10) hx hb dX2_takeNumber_36 (by decide) ?_
        refine lv_imul hx hb dX2_takeNumber_38 ?_
        refine lv_aload_n hx hb dX2_takeNumber_39 rfl (lv_at hl 0 rfl) ?_
        refine g_1_3 E hh tb37 (E.hn 1 0 (by decide)) dX2_takeNumber_40 ?_
        refine lv_aload_n hx hb dX2_takeNumber_43 rfl (lv_at hl 0 rfl) ?_
        refine g_1_5 E hh tb39 (E.hn 1 0 (by decide)) dX2_takeNumber_44 ?_
        obtain ⟨hi6, hw⟩ := hw
        refine x_iald E hh (E.hn 4 0 (by decide)) ly_4 hi6 dX2_takeNumber_47 ?_
        refine lv_iadd hx hb dX2_takeNumber_48 ?_
        refine lv_bipush (v := 48) hx hb dX2_takeNumber_49 (by decide) ?_
        refine lv_isub hx hb dX2_takeNumber_51 ?_
        refine p_1_8 E hh tb42 (E.hn 1 0 (by decide)) dX2_takeNumber_52 (fun S7 H locs e7 hh => ?_)
        have hw := hw S7 e7
        refine lv_aload_n hx hb dX2_takeNumber_55 rfl (lv_at hl 0 rfl) ?_
        refine lv_dup hx hb dX2_takeNumber_56 rfl ?_
        refine g_1_5 E hh tb39 (E.hn 1 0 (by decide)) dX2_takeNumber_57 ?_
        refine lv_iconst (v := 1) hx hb dX2_takeNumber_60 (by decide) ?_
        refine lv_iadd hx hb dX2_takeNumber_61 ?_
        refine p_1_5 E hh tb39 (E.hn 1 0 (by decide)) dX2_takeNumber_62 (fun S8 H locs e8 hh => ?_)
        have hw := hw S8 e8
        refine lv_goto (tgt := 5) hx hb dX2_takeNumber_65 (by decide) ?_
        exact ih  S8 _ _ _ hw hh (lv_sub hl [0] rfl)
def wpX2_takeNumber (S : St) (K : St → Prop) : Prop := (∀ S1, S1 = su S 1 0 8 0 → ∃ k, wbX2_takeNumber_5 K k S1)
set_option maxRecDepth 4000 in
theorem bX2_takeNumber {p : Program} {l : Launch} {e : Env} {R : Room} {s : State} {m : MethodId} {args : Array Value} {below : List Frame} {meth : Method} {c : Code} {D : va_G} {ad : Nat → Nat → Nat} {cs : Nat → ClassId} {P : Nat → Nat → Prop} {sz tU : Nat} {adK adV : Nat → Nat} {K : St → Prop} {S : St} {H : Heap} {locs : List Loc} {ls : Array Slot} (E : Ex p s m args meth c R RX2 cX2_takeNumber 1 none 2 80 D ad cs P (wA ad P) tU adK adV cnB) (hw : wpX2_takeNumber S K) (hh : wH D ad cs P (wA ad P) s.heap sz S H locs) (hl : lv_has ls 1 [(0, .ref (ad 1 0))]) : W p l e R s m args below meth c H locs 0 0 (MQ below (va_Qv K (QX D ad cs P sz) (wA ad P)) args s 0 0 (wA ad P)) (F0 m 0 ls []) := by
  have hx := E.hx
  have hb := E.hb
  refine lv_aload_n hx hb dX2_takeNumber_0 rfl (lv_at hl 0 rfl) ?_
  refine lv_iconst (v := 0) hx hb dX2_takeNumber_1 (by decide) ?_
  refine p_1_8 E hh tb42 (E.hn 1 0 (by decide)) dX2_takeNumber_2 (fun S1 H locs e1 hh => ?_)
  have hw := hw S1 e1
  obtain ⟨k, hw⟩ := hw
  exact bX2_takeNumber_5 E k S1 _ _ _ hw hh (lv_sub hl [0] rfl)
theorem kX2_takeNumber : kI yX2_takeNumber cX2_takeNumber 1 none 0 := ⟨tb258, ts3, tb2, tb259, by decide, by decide, by decide +kernel⟩
theorem mX2_takeNumber {l : Launch} {D : va_G} {ad : Nat → Nat → Nat} {cs : Nat → ClassId} {P : Nat → Nat → Prop} {sz tU : Nat} {adK adV : Nat → Nat} {S : St} {K : St → Prop} (hI : wI ad P) (hn : ∀ kd i, i < cnB kd → P kd i) (hw : wpX2_takeNumber S K) : MV l yX2_takeNumber cX2_takeNumber 1 none 2 80 D ad cs P sz tU adK adV [.ref (ad 1 0)] S K :=
  Met_of (by decide) (Nat.le_of_ble_eq_true rfl) hI hn (fun p e R s m args below meth c ls E hl hh => bX2_takeNumber E  hw hh (lv_sub hl [0] rfl))
def wpX2_spelling (x0 : Int32) (S : St) (K : Nat → St → Prop) : Prop := (if x0 = 1 then (K 0 S) else (if x0 = 2 then (K 1 S) else (if x0 = 3 then (K 2 S) else (if x0 = 4 then (K 3 S) else (if x0 = 5 then (K 4 S) else (if x0 = 6 then (K 5 S) else (if x0 = 7 then (K 6 S) else (if x0 = 8 then (K 7 S) else (if x0 = 9 then (K 8 S) else (if x0 = 10 then (K 9 S) else (if x0 = 11 then (K 10 S) else (K 11 S))))))))))))
set_option maxRecDepth 4000 in
theorem bX2_spelling {p : Program} {l : Launch} {e : Env} {R : Room} {s : State} {m : MethodId} {args : Array Value} {below : List Frame} {meth : Method} {c : Code} {D : va_G} {ad : Nat → Nat → Nat} {cs : Nat → ClassId} {P : Nat → Nat → Prop} {sz tU : Nat} {adK adV : Nat → Nat} {K : Nat → St → Prop} {x0 : Int32} {S : St} {H : Heap} {locs : List Loc} {ls : Array Slot} (E : Ex p s m args meth c R RX2 cX2_spelling 1 (some (.object "java/lang/String")) 1 60 D ad cs P (wA ad P) tU adK adV cn0) (hw : wpX2_spelling x0 S K) (hh : wH D ad cs P (wA ad P) s.heap sz S H locs) (hl : lv_has ls 1 [(0, .int x0)]) : W p l e R s m args below meth c H locs 0 0 (MQ below (va_Qr (fun u : Nat × St => K u.1 u.2 ∧ u.1 < 13) (QS D ad cs P sz adK) (wA ad P)) args s 0 0 (wA ad P)) (F0 m 0 ls []) := by
  have hx := E.hx
  have hb := E.hb
  refine lv_iload_n hx hb dX2_spelling_0 rfl (lv_at hl 0 rfl) ?_
  by_cases c1 : x0 = 1
  · have hw := ifT hw c1
    refine lv_tableIn (tgt := 60) hx hb dX2_spelling_1 (by rw [c1] <;> decide) (by rw [c1] <;> decide) (by rw [c1] <;> rfl) (by decide) ?_
    refine va_ldcS hx hb E.hown (E.hE.2.2.2.2.1 0 (by decide)) dX2_spelling_60 ?_
    exact x_sret E hh hw (by decide) dX2_spelling_62
  have hw := ifF hw c1
  by_cases c2 : x0 = 2
  · have hw := ifT hw c2
    refine lv_tableIn (tgt := 63) hx hb dX2_spelling_1 (by rw [c2] <;> decide) (by rw [c2] <;> decide) (by rw [c2] <;> rfl) (by decide) ?_
    refine va_ldcS hx hb E.hown (E.hE.2.2.2.2.1 1 (by decide)) dX2_spelling_63 ?_
    exact x_sret E hh hw (by decide) dX2_spelling_65
  have hw := ifF hw c2
  by_cases c3 : x0 = 3
  · have hw := ifT hw c3
    refine lv_tableIn (tgt := 66) hx hb dX2_spelling_1 (by rw [c3] <;> decide) (by rw [c3] <;> decide) (by rw [c3] <;> rfl) (by decide) ?_
    refine va_ldcS hx hb E.hown (E.hE.2.2.2.2.1 2 (by decide)) dX2_spelling_66 ?_
    exact x_sret E hh hw (by decide) dX2_spelling_68
  have hw := ifF hw c3
  by_cases c4 : x0 = 4
  · have hw := ifT hw c4
    refine lv_tableIn (tgt := 69) hx hb dX2_spelling_1 (by rw [c4] <;> decide) (by rw [c4] <;> decide) (by rw [c4] <;> rfl) (by decide) ?_
    refine va_ldcS hx hb E.hown (E.hE.2.2.2.2.1 3 (by decide)) dX2_spelling_69 ?_
    exact x_sret E hh hw (by decide) dX2_spelling_71
  have hw := ifF hw c4
  by_cases c5 : x0 = 5
  · have hw := ifT hw c5
    refine lv_tableIn (tgt := 72) hx hb dX2_spelling_1 (by rw [c5] <;> decide) (by rw [c5] <;> decide) (by rw [c5] <;> rfl) (by decide) ?_
    refine va_ldcS hx hb E.hown (E.hE.2.2.2.2.1 4 (by decide)) dX2_spelling_72 ?_
    exact x_sret E hh hw (by decide) dX2_spelling_74
  have hw := ifF hw c5
  by_cases c6 : x0 = 6
  · have hw := ifT hw c6
    refine lv_tableIn (tgt := 75) hx hb dX2_spelling_1 (by rw [c6] <;> decide) (by rw [c6] <;> decide) (by rw [c6] <;> rfl) (by decide) ?_
    refine va_ldcS hx hb E.hown (E.hE.2.2.2.2.1 5 (by decide)) dX2_spelling_75 ?_
    exact x_sret E hh hw (by decide) dX2_spelling_77
  have hw := ifF hw c6
  by_cases c7 : x0 = 7
  · have hw := ifT hw c7
    refine lv_tableIn (tgt := 78) hx hb dX2_spelling_1 (by rw [c7] <;> decide) (by rw [c7] <;> decide) (by rw [c7] <;> rfl) (by decide) ?_
    refine va_ldcS hx hb E.hown (E.hE.2.2.2.2.1 6 (by decide)) dX2_spelling_78 ?_
    exact x_sret E hh hw (by decide) dX2_spelling_80
  have hw := ifF hw c7
  by_cases c8 : x0 = 8
  · have hw := ifT hw c8
    refine lv_tableIn (tgt := 81) hx hb dX2_spelling_1 (by rw [c8] <;> decide) (by rw [c8] <;> decide) (by rw [c8] <;> rfl) (by decide) ?_
    refine va_ldcS hx hb E.hown (E.hE.2.2.2.2.1 7 (by decide)) dX2_spelling_81 ?_
    exact x_sret E hh hw (by decide) dX2_spelling_83
  have hw := ifF hw c8
  by_cases c9 : x0 = 9
  · have hw := ifT hw c9
    refine lv_tableIn (tgt := 84) hx hb dX2_spelling_1 (by rw [c9] <;> decide) (by rw [c9] <;> decide) (by rw [c9] <;> rfl) (by decide) ?_
    refine va_ldcS hx hb E.hown (E.hE.2.2.2.2.1 8 (by decide)) dX2_spelling_84 ?_
    exact x_sret E hh hw (by decide) dX2_spelling_86
  have hw := ifF hw c9
  by_cases c10 : x0 = 10
  · have hw := ifT hw c10
    refine lv_tableIn (tgt := 87) hx hb dX2_spelling_1 (by rw [c10] <;> decide) (by rw [c10] <;> decide) (by rw [c10] <;> rfl) (by decide) ?_
    refine va_ldcS hx hb E.hown (E.hE.2.2.2.2.1 9 (by decide)) dX2_spelling_87 ?_
    exact x_sret E hh hw (by decide) dX2_spelling_89
  have hw := ifF hw c10
  by_cases c11 : x0 = 11
  · have hw := ifT hw c11
    refine lv_tableIn (tgt := 90) hx hb dX2_spelling_1 (by rw [c11] <;> decide) (by rw [c11] <;> decide) (by rw [c11] <;> rfl) (by decide) ?_
    refine va_ldcS hx hb E.hown (E.hE.2.2.2.2.1 10 (by decide)) dX2_spelling_90 ?_
    exact x_sret E hh hw (by decide) dX2_spelling_92
  have hw := ifF hw c11
  refine lv_tableOut (tgt := 93) hx hb dX2_spelling_1 (by have n0 := lv_neT c1 (a := 1) rfl; have n1 := lv_neT c2 (a := 2) rfl; have n2 := lv_neT c3 (a := 3) rfl; have n3 := lv_neT c4 (a := 4) rfl; have n4 := lv_neT c5 (a := 5) rfl; have n5 := lv_neT c6 (a := 6) rfl; have n6 := lv_neT c7 (a := 7) rfl; have n7 := lv_neT c8 (a := 8) rfl; have n8 := lv_neT c9 (a := 9) rfl; have n9 := lv_neT c10 (a := 10) rfl; have n10 := lv_neT c11 (a := 11) rfl; omega) (by decide) ?_
  refine va_ldcS hx hb E.hown (E.hE.2.2.2.2.1 11 (by decide)) dX2_spelling_93 ?_
  exact x_sret E hh hw (by decide) dX2_spelling_95
theorem kX2_spelling : kS yX2_spelling cX2_spelling 1 (some (.object "java/lang/String")) 1 := ⟨tb233, tb2, tb234, by decide, by decide, by decide +kernel⟩
theorem mX2_spelling {l : Launch} {D : va_G} {ad : Nat → Nat → Nat} {cs : Nat → ClassId} {P : Nat → Nat → Prop} {sz tU : Nat} {adK adV : Nat → Nat} {x0 : Int32} {S : St} {K : Nat → St → Prop} (hI : wI ad P) (hn : ∀ kd i, i < cn0 kd → P kd i) (hw : wpX2_spelling x0 S K) : MS l yX2_spelling cX2_spelling 1 (some (.object "java/lang/String")) 1 60 D ad cs P sz tU adK adV [.int x0] S K :=
  Met_of (by decide) (Nat.le_of_ble_eq_true rfl) hI hn (fun p e R s m args below meth c ls E hl hh => bX2_spelling E  hw hh (lv_sub hl [0] rfl))
def wbX2_spells_20 (u1 : Nat) (K : Int32 → St → Prop) : Nat → Int32 → St → Prop
  | 0, _, _ => False
  | n + 1, x2, S => wpJ0_length_8abf5 u1 S (fun r3 S3 => if r3 ≤ x2 then (K 1 S3) else ((vp_in ((S3.1 1 0 6) + x2) 160 ∧ wpJ0_charAt_5068e u1 x2 S3 (fun r6 S6 => if (S3.1 4 0 ((S3.1 1 0 6) + x2).toNatClampNeg) = r6 then (wbX2_spells_20 u1 K n (x2 + 1) S6) else (K 0 S6)))))
set_option maxRecDepth 4000 in
theorem bX2_spells_20 {p : Program} {l : Launch} {e : Env} {R : Room} {s : State} {m : MethodId} {args : Array Value} {below : List Frame} {meth : Method} {c : Code} {D : va_G} {ad : Nat → Nat → Nat} {cs : Nat → ClassId} {P : Nat → Nat → Prop} {sz tU : Nat} {adK adV : Nat → Nat} {u1 : Nat} {K : Int32 → St → Prop} (E : Ex p s m args meth c R RX2 cX2_spells 3 (some .boolean) 6 166 D ad cs P (wA ad P) tU adK adV cnB) (hu1 : u1 < nJS) : ∀ (n : Nat) (x2 : Int32) (S : St) (H : Heap) (locs : List Loc) (ls : Array Slot), wbX2_spells_20 u1 K n x2 S → wH D ad cs P (wA ad P) s.heap sz S H locs → lv_has ls 3 [(0, .ref (ad 1 0)), (1, .ref (adK u1)), (2, .int x2)] → W p l e R s m args below meth c H locs 0 0 (MQ below (va_Qi (fun r S => K r S ∧ narrow .boolean (.int r) = .int r) (QX D ad cs P sz) (wA ad P)) args s 0 0 (wA ad P)) (F0 m 20 ls []) := by
  have hx := E.hx
  have hb := E.hb
  intro n
  induction n with
  | zero => intro x2 S H locs ls hw hh hl; exact hw.elim
  | succ n ih =>
    intro x2 S H locs ls hw hh hl
    refine lv_iload_n hx hb dX2_spells_20 rfl (lv_at hl 2 rfl) ?_
    refine lv_aload_n hx hb dX2_spells_21 rfl (lv_at hl 1 rfl) ?_
    refine x_ci E.hA hh (x_runK E hh (mJ0_length_8abf5 E.hI (fun _ _ h => absurd h (Nat.not_lt_zero _)) hu1 hw) kJ0_length_8abf5 tb251 hu1 rfl ⟨by decide, by decide⟩ rfl hl.1 rfl (Nat.le_of_ble_eq_true rfl) dX2_spells_22 ⟨Nat.zero_le _, Nat.zero_le _⟩) (fun r3 S3 H locs hw hh => ?_)
    refine lv_icmp_ge (tgt := 55) hx hb dX2_spells_25 (by decide) (fun c4 => ?_) (fun c4 => ?_)
    · have hw := ifT hw c4
      refine lv_iconst (v := 1) hx hb dX2_spells_55 (by decide) ?_
      exact x_zret E hh hw rfl dX2_spells_56
    · have hw := ifF hw c4
      refine lv_aload_n hx hb dX2_spells_28 rfl (lv_at hl 0 rfl) ?_
      refine g_1_3 E hh tb37 (E.hn 1 0 (by decide)) dX2_spells_29 ?_
      refine lv_aload_n hx hb dX2_spells_32 rfl (lv_at hl 0 rfl) ?_
      refine g_1_6 E hh tb40 (E.hn 1 0 (by decide)) dX2_spells_33 ?_
      refine lv_iload_n hx hb dX2_spells_36 rfl (lv_at hl 2 rfl) ?_
      refine lv_iadd hx hb dX2_spells_37 ?_
      obtain ⟨hi5, hw⟩ := hw
      refine x_iald E hh (E.hn 4 0 (by decide)) ly_4 hi5 dX2_spells_38 ?_
      refine lv_aload_n hx hb dX2_spells_39 rfl (lv_at hl 1 rfl) ?_
      refine lv_iload_n hx hb dX2_spells_40 rfl (lv_at hl 2 rfl) ?_
      refine x_ci E.hA hh (x_runK E hh (mJ0_charAt_5068e E.hI (fun _ _ h => absurd h (Nat.not_lt_zero _)) hu1 hw) kJ0_charAt_5068e tb252 hu1 rfl ⟨by decide, by decide⟩ rfl hl.1 rfl (Nat.le_of_ble_eq_true rfl) dX2_spells_41 ⟨Nat.zero_le _, Nat.zero_le _⟩) (fun r6 S6 H locs hw hh => ?_)
      have hq6 := hw.2
      have hw := hw.1
      refine lv_icmp_eq (tgt := 49) hx hb dX2_spells_44 (by decide) (fun c7 => ?_) (fun c7 => ?_)
      · have hw := ifT hw c7
        refine lv_iinc (k := 2) (v := x2 + 1) (lv' := [(2, .int (x2 + 1)), (0, .ref (ad 1 0)), (1, .ref (adK u1))]) hx hb dX2_spells_49 hl rfl rfl (by decide) rfl (fun ls hl => ?_)
        refine lv_goto (tgt := 20) hx hb dX2_spells_52 (by decide) ?_
        exact ih (x2 + 1) S6 _ _ _ hw hh (lv_sub hl [1, 2, 0] rfl)
      · have hw := ifF hw c7
        refine lv_iconst (v := 0) hx hb dX2_spells_47 (by decide) ?_
        exact x_zret E hh hw rfl dX2_spells_48
def wpX2_spells (u1 : Nat) (S : St) (K : Int32 → St → Prop) : Prop := wpJ0_length_8abf5 u1 S (fun r1 S1 => if ((S.1 1 0 5) - (S.1 1 0 6)) = r1 then (∃ k, wbX2_spells_20 u1 K k 0 S1) else (K 0 S1))
set_option maxRecDepth 4000 in
theorem bX2_spells {p : Program} {l : Launch} {e : Env} {R : Room} {s : State} {m : MethodId} {args : Array Value} {below : List Frame} {meth : Method} {c : Code} {D : va_G} {ad : Nat → Nat → Nat} {cs : Nat → ClassId} {P : Nat → Nat → Prop} {sz tU : Nat} {adK adV : Nat → Nat} {K : Int32 → St → Prop} {u1 : Nat} {S : St} {H : Heap} {locs : List Loc} {ls : Array Slot} (E : Ex p s m args meth c R RX2 cX2_spells 3 (some .boolean) 6 166 D ad cs P (wA ad P) tU adK adV cnB) (hu1 : u1 < nJS) (hw : wpX2_spells u1 S K) (hh : wH D ad cs P (wA ad P) s.heap sz S H locs) (hl : lv_has ls 3 [(0, .ref (ad 1 0)), (1, .ref (adK u1))]) : W p l e R s m args below meth c H locs 0 0 (MQ below (va_Qi (fun r S => K r S ∧ narrow .boolean (.int r) = .int r) (QX D ad cs P sz) (wA ad P)) args s 0 0 (wA ad P)) (F0 m 0 ls []) := by
  have hx := E.hx
  have hb := E.hb
  refine lv_aload_n hx hb dX2_spells_0 rfl (lv_at hl 0 rfl) ?_
  refine g_1_5 E hh tb39 (E.hn 1 0 (by decide)) dX2_spells_1 ?_
  refine lv_aload_n hx hb dX2_spells_4 rfl (lv_at hl 0 rfl) ?_
  refine g_1_6 E hh tb40 (E.hn 1 0 (by decide)) dX2_spells_5 ?_
  refine lv_isub hx hb dX2_spells_8 ?_
  refine lv_aload_n hx hb dX2_spells_9 rfl (lv_at hl 1 rfl) ?_
  refine x_ci E.hA hh (x_runK E hh (mJ0_length_8abf5 E.hI (fun _ _ h => absurd h (Nat.not_lt_zero _)) hu1 hw) kJ0_length_8abf5 tb251 hu1 rfl ⟨by decide, by decide⟩ rfl hl.1 rfl (Nat.le_of_ble_eq_true rfl) dX2_spells_10 ⟨Nat.zero_le _, Nat.zero_le _⟩) (fun r1 S1 H locs hw hh => ?_)
  refine lv_icmp_eq (tgt := 18) hx hb dX2_spells_13 (by decide) (fun c2 => ?_) (fun c2 => ?_)
  · have hw := ifT hw c2
    refine lv_iconst (v := 0) hx hb dX2_spells_18 (by decide) ?_
    refine lv_istore_n (lv' := [(2, .int 0), (0, .ref (ad 1 0)), (1, .ref (adK u1))]) hx hb dX2_spells_19 rfl hl (by decide) rfl (fun ls hl => ?_)
    obtain ⟨k, hw⟩ := hw
    exact bX2_spells_20 E hu1 k 0 S1 _ _ _ hw hh (lv_sub hl [1, 2, 0] rfl)
  · have hw := ifF hw c2
    refine lv_iconst (v := 0) hx hb dX2_spells_16 (by decide) ?_
    exact x_zret E hh hw rfl dX2_spells_17
theorem kX2_spells : kI yX2_spells cX2_spells 3 (some .boolean) 1 := ⟨tb249, ts2, tb2, tb250, by decide, by decide, by decide +kernel⟩
theorem mX2_spells {l : Launch} {D : va_G} {ad : Nat → Nat → Nat} {cs : Nat → ClassId} {P : Nat → Nat → Prop} {sz tU : Nat} {adK adV : Nat → Nat} {u1 : Nat} {S : St} {K : Int32 → St → Prop} (hI : wI ad P) (hn : ∀ kd i, i < cnB kd → P kd i) (hu1 : u1 < nJS) (hw : wpX2_spells u1 S K) : MI l yX2_spells cX2_spells 3 (some .boolean) 6 166 D ad cs P sz tU adK adV [.ref (ad 1 0), .ref (adK u1)] S (fun r S => K r S ∧ narrow .boolean (.int r) = .int r) :=
  Met_of (by decide) (Nat.le_of_ble_eq_true rfl) hI hn (fun p e R s m args below meth c ls E hl hh => bX2_spells E hu1 hw hh (lv_sub hl [0, 1] rfl))
def wbX2_takeWord_69 (R47 : Int32 → St → Prop) (K : St → Prop) (x1 : Int32) (S : St) : Prop := R47 (x1 + 1) S
set_option maxRecDepth 4000 in
theorem bX2_takeWord_69 {p : Program} {l : Launch} {e : Env} {R : Room} {s : State} {m : MethodId} {args : Array Value} {below : List Frame} {meth : Method} {c : Code} {D : va_G} {ad : Nat → Nat → Nat} {cs : Nat → ClassId} {P : Nat → Nat → Prop} {sz tU : Nat} {adK adV : Nat → Nat} {R47 : Int32 → St → Prop} {K : St → Prop} {x1 : Int32} {S : St} {H : Heap} {locs : List Loc} {ls : Array Slot} (E : Ex p s m args meth c R RX2 cX2_takeWord 2 none 7 188 D ad cs P (wA ad P) tU adK adV cnB) (hR47 : ∀ (z1 : Int32) (S : St) (H : Heap) (locs : List Loc) (ls : Array Slot), R47 z1 S → wH D ad cs P (wA ad P) s.heap sz S H locs → lv_has ls 2 [(0, .ref (ad 1 0)), (1, .int z1)] → W p l e R s m args below meth c H locs 0 0 (MQ below (va_Qv K (QX D ad cs P sz) (wA ad P)) args s 0 0 (wA ad P)) (F0 m 47 ls [])) (hw : wbX2_takeWord_69 R47 K x1 S) (hh : wH D ad cs P (wA ad P) s.heap sz S H locs) (hl : lv_has ls 2 [(0, .ref (ad 1 0)), (1, .int x1)]) : W p l e R s m args below meth c H locs 0 0 (MQ below (va_Qv K (QX D ad cs P sz) (wA ad P)) args s 0 0 (wA ad P)) (F0 m 69 ls []) := by
  have hx := E.hx
  have hb := E.hb
  refine lv_iinc (k := 1) (v := x1 + 1) (lv' := [(1, .int (x1 + 1)), (0, .ref (ad 1 0))]) hx hb dX2_takeWord_69 hl rfl rfl (by decide) rfl (fun ls hl => ?_)
  refine lv_goto (tgt := 47) hx hb dX2_takeWord_72 (by decide) ?_
  exact hR47 (x1 + 1) S _ _ _ hw hh (lv_sub hl [1, 0] rfl)
def wbX2_takeWord_47 (K : St → Prop) : Nat → Int32 → St → Prop
  | 0, _, _ => False
  | n + 1, x1, S => if 12 < x1 then (K S) else (wpX2_spelling x1 S (fun r8 S8 => wpX2_spells r8 S8 (fun r9 S9 => if r9 = 0 then (wbX2_takeWord_69 (fun yx1 S9 => wbX2_takeWord_47 K n yx1 S9) K x1 S9) else ((∀ S11, S11 = su S9 1 0 7 x1 → wbX2_takeWord_69 (fun yx1 S9 => wbX2_takeWord_47 K n yx1 S9) K x1 S11)))))
set_option maxRecDepth 4000 in
theorem bX2_takeWord_47 {p : Program} {l : Launch} {e : Env} {R : Room} {s : State} {m : MethodId} {args : Array Value} {below : List Frame} {meth : Method} {c : Code} {D : va_G} {ad : Nat → Nat → Nat} {cs : Nat → ClassId} {P : Nat → Nat → Prop} {sz tU : Nat} {adK adV : Nat → Nat} {K : St → Prop} (E : Ex p s m args meth c R RX2 cX2_takeWord 2 none 7 188 D ad cs P (wA ad P) tU adK adV cnB) : ∀ (n : Nat) (x1 : Int32) (S : St) (H : Heap) (locs : List Loc) (ls : Array Slot), wbX2_takeWord_47 K n x1 S → wH D ad cs P (wA ad P) s.heap sz S H locs → lv_has ls 2 [(0, .ref (ad 1 0)), (1, .int x1)] → W p l e R s m args below meth c H locs 0 0 (MQ below (va_Qv K (QX D ad cs P sz) (wA ad P)) args s 0 0 (wA ad P)) (F0 m 47 ls []) := by
  have hx := E.hx
  have hb := E.hb
  intro n
  induction n with
  | zero => intro x1 S H locs ls hw hh hl; exact hw.elim
  | succ n ih =>
    intro x1 S H locs ls hw hh hl
    refine lv_iload_n hx hb dX2_takeWord_47 rfl (lv_at hl 1 rfl) ?_
    refine lv_bipush (v := 12) hx hb dX2_takeWord_48 (by decide) ?_
    refine lv_icmp_gt (tgt := 75) hx hb dX2_takeWord_50 (by decide) (fun c7 => ?_) (fun c7 => ?_)
    · have hw := ifT hw c7
      exact x_vret E hh hw dX2_takeWord_75
    · have hw := ifF hw c7
      refine lv_aload_n hx hb dX2_takeWord_53 rfl (lv_at hl 0 rfl) ?_
      refine lv_iload_n hx hb dX2_takeWord_54 rfl (lv_at hl 1 rfl) ?_
      refine x_cs E.hA hh (x_runS E hh (mX2_spelling E.hI (fun _ _ h => absurd h (Nat.not_lt_zero _)) hw) kX2_spelling tb232 ⟨by decide, by decide⟩ rfl hl.1 rfl (Nat.le_of_ble_eq_true rfl) dX2_takeWord_55 ⟨Nat.zero_le _, Nat.zero_le _⟩) (fun r8 S8 H locs hw hq8 hh => ?_)
      refine x_ci E.hA hh (x_runV E hh (mX2_spells E.hI E.hn hq8 hw) kX2_spells tb247 (E.hn 1 0 (by decide)) rv_1 ⟨by decide, by decide⟩ rfl hl.1 rfl (Nat.le_of_ble_eq_true rfl) dX2_takeWord_58 ⟨Nat.zero_le _, Nat.zero_le _⟩) (fun r9 S9 H locs hw hh => ?_)
      have hq9 := hw.2
      have hw := hw.1
      refine lv_if_eq (tgt := 69) hx hb dX2_takeWord_61 (by decide) (fun c10 => ?_) (fun c10 => ?_)
      · have hw := ifT hw c10
        exact bX2_takeWord_69 E ih hw hh (lv_sub hl [0, 1] rfl)
      · have hw := ifF hw c10
        refine lv_aload_n hx hb dX2_takeWord_64 rfl (lv_at hl 0 rfl) ?_
        refine lv_iload_n hx hb dX2_takeWord_65 rfl (lv_at hl 1 rfl) ?_
        refine p_1_7 E hh tb41 (E.hn 1 0 (by decide)) dX2_takeWord_66 (fun S11 H locs e11 hh => ?_)
        have hw := hw S11 e11
        exact bX2_takeWord_69 E ih hw hh (lv_sub hl [0, 1] rfl)
def wbX2_takeWord_39 (K : St → Prop) (S : St) : Prop := (∀ S6, S6 = su S 1 0 7 (-2) → ∃ k, wbX2_takeWord_47 K k 1 S6)
set_option maxRecDepth 4000 in
theorem bX2_takeWord_39 {p : Program} {l : Launch} {e : Env} {R : Room} {s : State} {m : MethodId} {args : Array Value} {below : List Frame} {meth : Method} {c : Code} {D : va_G} {ad : Nat → Nat → Nat} {cs : Nat → ClassId} {P : Nat → Nat → Prop} {sz tU : Nat} {adK adV : Nat → Nat} {K : St → Prop} {S : St} {H : Heap} {locs : List Loc} {ls : Array Slot} (E : Ex p s m args meth c R RX2 cX2_takeWord 2 none 7 188 D ad cs P (wA ad P) tU adK adV cnB) (hw : wbX2_takeWord_39 K S) (hh : wH D ad cs P (wA ad P) s.heap sz S H locs) (hl : lv_has ls 2 [(0, .ref (ad 1 0))]) : W p l e R s m args below meth c H locs 0 0 (MQ below (va_Qv K (QX D ad cs P sz) (wA ad P)) args s 0 0 (wA ad P)) (F0 m 39 ls []) := by
  have hx := E.hx
  have hb := E.hb
  refine lv_aload_n hx hb dX2_takeWord_39 rfl (lv_at hl 0 rfl) ?_
  refine lv_bipush (v := (-2)) hx hb dX2_takeWord_40 (by decide) ?_
  refine p_1_7 E hh tb41 (E.hn 1 0 (by decide)) dX2_takeWord_42 (fun S6 H locs e6 hh => ?_)
  have hw := hw S6 e6
  refine lv_iconst (v := 1) hx hb dX2_takeWord_45 (by decide) ?_
  refine lv_istore_n (lv' := [(1, .int 1), (0, .ref (ad 1 0))]) hx hb dX2_takeWord_46 rfl hl (by decide) rfl (fun ls hl => ?_)
  obtain ⟨k, hw⟩ := hw
  exact bX2_takeWord_47 E k 1 S6 _ _ _ hw hh (lv_sub hl [1, 0] rfl)
def wbX2_takeWord_0 (K : St → Prop) : Nat → St → Prop
  | 0, _ => False
  | n + 1, S => if (S.1 1 0 2) ≤ (S.1 1 0 5) then (wbX2_takeWord_39 K S) else ((vp_in (S.1 1 0 5) 160 ∧ wpX2_isLetter (S.1 4 0 (S.1 1 0 5).toNatClampNeg) S (fun r3 S3 => if r3 = 0 then (wbX2_takeWord_39 K S3) else ((∀ S5, S5 = su S3 1 0 5 ((S3.1 1 0 5) + 1) → wbX2_takeWord_0 K n S5)))))
set_option maxRecDepth 4000 in
theorem bX2_takeWord_0 {p : Program} {l : Launch} {e : Env} {R : Room} {s : State} {m : MethodId} {args : Array Value} {below : List Frame} {meth : Method} {c : Code} {D : va_G} {ad : Nat → Nat → Nat} {cs : Nat → ClassId} {P : Nat → Nat → Prop} {sz tU : Nat} {adK adV : Nat → Nat} {K : St → Prop} (E : Ex p s m args meth c R RX2 cX2_takeWord 2 none 7 188 D ad cs P (wA ad P) tU adK adV cnB) : ∀ (n : Nat) (S : St) (H : Heap) (locs : List Loc) (ls : Array Slot), wbX2_takeWord_0 K n S → wH D ad cs P (wA ad P) s.heap sz S H locs → lv_has ls 2 [(0, .ref (ad 1 0))] → W p l e R s m args below meth c H locs 0 0 (MQ below (va_Qv K (QX D ad cs P sz) (wA ad P)) args s 0 0 (wA ad P)) (F0 m 0 ls []) := by
  have hx := E.hx
  have hb := E.hb
  intro n
  induction n with
  | zero => intro S H locs ls hw hh hl; exact hw.elim
  | succ n ih =>
    intro S H locs ls hw hh hl
    refine lv_aload_n hx hb dX2_takeWord_0 rfl (lv_at hl 0 rfl) ?_
    refine g_1_5 E hh tb39 (E.hn 1 0 (by decide)) dX2_takeWord_1 ?_
    refine lv_aload_n hx hb dX2_takeWord_4 rfl (lv_at hl 0 rfl) ?_
    refine g_1_2 E hh tb35 (E.hn 1 0 (by decide)) dX2_takeWord_5 ?_
    refine lv_icmp_ge (tgt := 39) hx hb dX2_takeWord_8 (by decide) (fun c1 => ?_) (fun c1 => ?_)
    · have hw := ifT hw c1
      exact bX2_takeWord_39 E hw hh (lv_sub hl [0] rfl)
    · have hw := ifF hw c1
      refine lv_aload_n hx hb dX2_takeWord_11 rfl (lv_at hl 0 rfl) ?_
      refine g_1_3 E hh tb37 (E.hn 1 0 (by decide)) dX2_takeWord_12 ?_
      refine lv_aload_n hx hb dX2_takeWord_15 rfl (lv_at hl 0 rfl) ?_
      refine g_1_5 E hh tb39 (E.hn 1 0 (by decide)) dX2_takeWord_16 ?_
      obtain ⟨hi2, hw⟩ := hw
      refine x_iald E hh (E.hn 4 0 (by decide)) ly_4 hi2 dX2_takeWord_19 ?_
      refine x_ci E.hA hh (x_runS E hh (mX2_isLetter E.hI (fun _ _ h => absurd h (Nat.not_lt_zero _)) hw) kX2_isLetter tb225 ⟨by decide, by decide⟩ rfl hl.1 rfl (Nat.le_of_ble_eq_true rfl) dX2_takeWord_20 ⟨Nat.zero_le _, Nat.zero_le _⟩) (fun r3 S3 H locs hw hh => ?_)
      have hq3 := hw.2
      have hw := hw.1
      refine lv_if_eq (tgt := 39) hx hb dX2_takeWord_23 (by decide) (fun c4 => ?_) (fun c4 => ?_)
      · have hw := ifT hw c4
        exact bX2_takeWord_39 E hw hh (lv_sub hl [0] rfl)
      · have hw := ifF hw c4
        refine lv_aload_n hx hb dX2_takeWord_26 rfl (lv_at hl 0 rfl) ?_
        refine lv_dup hx hb dX2_takeWord_27 rfl ?_
        refine g_1_5 E hh tb39 (E.hn 1 0 (by decide)) dX2_takeWord_28 ?_
        refine lv_iconst (v := 1) hx hb dX2_takeWord_31 (by decide) ?_
        refine lv_iadd hx hb dX2_takeWord_32 ?_
        refine p_1_5 E hh tb39 (E.hn 1 0 (by decide)) dX2_takeWord_33 (fun S5 H locs e5 hh => ?_)
        have hw := hw S5 e5
        refine lv_goto (tgt := 0) hx hb dX2_takeWord_36 (by decide) ?_
        exact ih  S5 _ _ _ hw hh (lv_sub hl [0] rfl)
def wpX2_takeWord (S : St) (K : St → Prop) : Prop := ∃ k, wbX2_takeWord_0 K k S
set_option maxRecDepth 4000 in
theorem bX2_takeWord {p : Program} {l : Launch} {e : Env} {R : Room} {s : State} {m : MethodId} {args : Array Value} {below : List Frame} {meth : Method} {c : Code} {D : va_G} {ad : Nat → Nat → Nat} {cs : Nat → ClassId} {P : Nat → Nat → Prop} {sz tU : Nat} {adK adV : Nat → Nat} {K : St → Prop} {S : St} {H : Heap} {locs : List Loc} {ls : Array Slot} (E : Ex p s m args meth c R RX2 cX2_takeWord 2 none 7 188 D ad cs P (wA ad P) tU adK adV cnB) (hw : wpX2_takeWord S K) (hh : wH D ad cs P (wA ad P) s.heap sz S H locs) (hl : lv_has ls 2 [(0, .ref (ad 1 0))]) : W p l e R s m args below meth c H locs 0 0 (MQ below (va_Qv K (QX D ad cs P sz) (wA ad P)) args s 0 0 (wA ad P)) (F0 m 0 ls []) := by
  have hx := E.hx
  have hb := E.hb
  obtain ⟨k, hw⟩ := hw
  exact bX2_takeWord_0 E k S _ _ _ hw hh (lv_sub hl [0] rfl)
theorem kX2_takeWord : kI yX2_takeWord cX2_takeWord 2 none 0 := ⟨tb230, ts1, tb2, tb231, by decide, by decide, by decide +kernel⟩
theorem mX2_takeWord {l : Launch} {D : va_G} {ad : Nat → Nat → Nat} {cs : Nat → ClassId} {P : Nat → Nat → Prop} {sz tU : Nat} {adK adV : Nat → Nat} {S : St} {K : St → Prop} (hI : wI ad P) (hn : ∀ kd i, i < cnB kd → P kd i) (hw : wpX2_takeWord S K) : MV l yX2_takeWord cX2_takeWord 2 none 7 188 D ad cs P sz tU adK adV [.ref (ad 1 0)] S K :=
  Met_of (by decide) (Nat.le_of_ble_eq_true rfl) hI hn (fun p e R s m args below meth c ls E hl hh => bX2_takeWord E  hw hh (lv_sub hl [0] rfl))
def wbX2_advance_153 (K : St → Prop) (v0 : Int32) (S : St) : Prop := (∀ S22, S22 = su S 1 0 7 v0 → (∀ S23, S23 = su S22 1 0 5 ((S22.1 1 0 5) + 1) → K S23))
set_option maxRecDepth 4000 in
theorem bX2_advance_153 {p : Program} {l : Launch} {e : Env} {R : Room} {s : State} {m : MethodId} {args : Array Value} {below : List Frame} {meth : Method} {c : Code} {D : va_G} {ad : Nat → Nat → Nat} {cs : Nat → ClassId} {P : Nat → Nat → Prop} {sz tU : Nat} {adK adV : Nat → Nat} {K : St → Prop} {v0 : Int32} {S : St} {H : Heap} {locs : List Loc} {ls : Array Slot} (E : Ex p s m args meth c R RX2 cX2_advance 1 none 8 209 D ad cs P (wA ad P) tU adK adV cnB) (hw : wbX2_advance_153 K v0 S) (hh : wH D ad cs P (wA ad P) s.heap sz S H locs) (hl : lv_has ls 1 [(0, .ref (ad 1 0))]) : W p l e R s m args below meth c H locs 0 0 (MQ below (va_Qv K (QX D ad cs P sz) (wA ad P)) args s 0 0 (wA ad P)) (F0 m 153 ls [.int v0, .ref (ad 1 0)]) := by
  have hx := E.hx
  have hb := E.hb
  refine p_1_7 E hh tb41 (E.hn 1 0 (by decide)) dX2_advance_153 (fun S22 H locs e22 hh => ?_)
  have hw := hw S22 e22
  refine lv_aload_n hx hb dX2_advance_156 rfl (lv_at hl 0 rfl) ?_
  refine lv_dup hx hb dX2_advance_157 rfl ?_
  refine g_1_5 E hh tb39 (E.hn 1 0 (by decide)) dX2_advance_158 ?_
  refine lv_iconst (v := 1) hx hb dX2_advance_161 (by decide) ?_
  refine lv_iadd hx hb dX2_advance_162 ?_
  refine p_1_5 E hh tb39 (E.hn 1 0 (by decide)) dX2_advance_163 (fun S23 H locs e23 hh => ?_)
  have hw := hw S23 e23
  exact x_vret E hh hw dX2_advance_166
def wbX2_advance_52 (K : St → Prop) (S : St) : Prop := (∀ S6, S6 = su S 1 0 6 (S.1 1 0 5) → if (S6.1 1 0 5) < (S6.1 1 0 2) then ((vp_in (S6.1 1 0 5) 160 ∧ wpX2_isLetter (S6.1 4 0 (S6.1 1 0 5).toNatClampNeg) S6 (fun r9 S9 => if r9 = 0 then ((vp_in (S9.1 1 0 5) 160 ∧ wpX2_isDigit (S9.1 4 0 (S9.1 1 0 5).toNatClampNeg) S9 (fun r12 S12 => if r12 = 0 then ((vp_in (S12.1 1 0 5) 160 ∧ wpX2_isSign (S12.1 4 0 (S12.1 1 0 5).toNatClampNeg) S12 (fun r15 S15 => if r15 = 0 then (wbX2_advance_153 K (-2) S15) else ((vp_in (S15.1 1 0 5) 160 ∧ wbX2_advance_153 K (S15.1 4 0 (S15.1 1 0 5).toNatClampNeg) S15))))) else (wpX2_takeNumber S12 (fun S18 => K S18))))) else (wpX2_takeWord S9 (fun S19 => K S19))))) else ((∀ S20, S20 = su S6 1 0 7 (-1) → K S20)))
set_option maxRecDepth 4000 in
theorem bX2_advance_52 {p : Program} {l : Launch} {e : Env} {R : Room} {s : State} {m : MethodId} {args : Array Value} {below : List Frame} {meth : Method} {c : Code} {D : va_G} {ad : Nat → Nat → Nat} {cs : Nat → ClassId} {P : Nat → Nat → Prop} {sz tU : Nat} {adK adV : Nat → Nat} {K : St → Prop} {S : St} {H : Heap} {locs : List Loc} {ls : Array Slot} (E : Ex p s m args meth c R RX2 cX2_advance 1 none 8 209 D ad cs P (wA ad P) tU adK adV cnB) (hw : wbX2_advance_52 K S) (hh : wH D ad cs P (wA ad P) s.heap sz S H locs) (hl : lv_has ls 1 [(0, .ref (ad 1 0))]) : W p l e R s m args below meth c H locs 0 0 (MQ below (va_Qv K (QX D ad cs P sz) (wA ad P)) args s 0 0 (wA ad P)) (F0 m 52 ls []) := by
  have hx := E.hx
  have hb := E.hb
  refine lv_aload_n hx hb dX2_advance_52 rfl (lv_at hl 0 rfl) ?_
  refine lv_aload_n hx hb dX2_advance_53 rfl (lv_at hl 0 rfl) ?_
  refine g_1_5 E hh tb39 (E.hn 1 0 (by decide)) dX2_advance_54 ?_
  refine p_1_6 E hh tb40 (E.hn 1 0 (by decide)) dX2_advance_57 (fun S6 H locs e6 hh => ?_)
  have hw := hw S6 e6
  refine lv_aload_n hx hb dX2_advance_60 rfl (lv_at hl 0 rfl) ?_
  refine g_1_5 E hh tb39 (E.hn 1 0 (by decide)) dX2_advance_61 ?_
  refine lv_aload_n hx hb dX2_advance_64 rfl (lv_at hl 0 rfl) ?_
  refine g_1_2 E hh tb35 (E.hn 1 0 (by decide)) dX2_advance_65 ?_
  refine lv_icmp_lt (tgt := 79) hx hb dX2_advance_68 (by decide) (fun c7 => ?_) (fun c7 => ?_)
  · have hw := ifT hw c7
    refine lv_aload_n hx hb dX2_advance_79 rfl (lv_at hl 0 rfl) ?_
    refine g_1_3 E hh tb37 (E.hn 1 0 (by decide)) dX2_advance_80 ?_
    refine lv_aload_n hx hb dX2_advance_83 rfl (lv_at hl 0 rfl) ?_
    refine g_1_5 E hh tb39 (E.hn 1 0 (by decide)) dX2_advance_84 ?_
    obtain ⟨hi8, hw⟩ := hw
    refine x_iald E hh (E.hn 4 0 (by decide)) ly_4 hi8 dX2_advance_87 ?_
    refine x_ci E.hA hh (x_runS E hh (mX2_isLetter E.hI (fun _ _ h => absurd h (Nat.not_lt_zero _)) hw) kX2_isLetter tb225 ⟨by decide, by decide⟩ rfl hl.1 rfl (Nat.le_of_ble_eq_true rfl) dX2_advance_88 ⟨Nat.zero_le _, Nat.zero_le _⟩) (fun r9 S9 H locs hw hh => ?_)
    have hq9 := hw.2
    have hw := hw.1
    refine lv_if_eq (tgt := 101) hx hb dX2_advance_91 (by decide) (fun c10 => ?_) (fun c10 => ?_)
    · have hw := ifT hw c10
      refine lv_aload_n hx hb dX2_advance_101 rfl (lv_at hl 0 rfl) ?_
      refine g_1_3 E hh tb37 (E.hn 1 0 (by decide)) dX2_advance_102 ?_
      refine lv_aload_n hx hb dX2_advance_105 rfl (lv_at hl 0 rfl) ?_
      refine g_1_5 E hh tb39 (E.hn 1 0 (by decide)) dX2_advance_106 ?_
      obtain ⟨hi11, hw⟩ := hw
      refine x_iald E hh (E.hn 4 0 (by decide)) ly_4 hi11 dX2_advance_109 ?_
      refine x_ci E.hA hh (x_runS E hh (mX2_isDigit E.hI (fun _ _ h => absurd h (Nat.not_lt_zero _)) hw) kX2_isDigit tb253 ⟨by decide, by decide⟩ rfl hl.1 rfl (Nat.le_of_ble_eq_true rfl) dX2_advance_110 ⟨Nat.zero_le _, Nat.zero_le _⟩) (fun r12 S12 H locs hw hh => ?_)
      have hq12 := hw.2
      have hw := hw.1
      refine lv_if_eq (tgt := 123) hx hb dX2_advance_113 (by decide) (fun c13 => ?_) (fun c13 => ?_)
      · have hw := ifT hw c13
        refine lv_aload_n hx hb dX2_advance_123 rfl (lv_at hl 0 rfl) ?_
        refine lv_aload_n hx hb dX2_advance_124 rfl (lv_at hl 0 rfl) ?_
        refine g_1_3 E hh tb37 (E.hn 1 0 (by decide)) dX2_advance_125 ?_
        refine lv_aload_n hx hb dX2_advance_128 rfl (lv_at hl 0 rfl) ?_
        refine g_1_5 E hh tb39 (E.hn 1 0 (by decide)) dX2_advance_129 ?_
        obtain ⟨hi14, hw⟩ := hw
        refine x_iald E hh (E.hn 4 0 (by decide)) ly_4 hi14 dX2_advance_132 ?_
        refine x_ci E.hA hh (x_runS E hh (mX2_isSign E.hI (fun _ _ h => absurd h (Nat.not_lt_zero _)) hw) kX2_isSign tb260 ⟨by decide, by decide⟩ rfl hl.1 rfl (Nat.le_of_ble_eq_true rfl) dX2_advance_133 ⟨Nat.zero_le _, Nat.zero_le _⟩) (fun r15 S15 H locs hw hh => ?_)
        have hq15 := hw.2
        have hw := hw.1
        refine lv_if_eq (tgt := 151) hx hb dX2_advance_136 (by decide) (fun c16 => ?_) (fun c16 => ?_)
        · have hw := ifT hw c16
          refine lv_bipush (v := (-2)) hx hb dX2_advance_151 (by decide) ?_
          exact bX2_advance_153 E hw hh (lv_sub hl [0] rfl)
        · have hw := ifF hw c16
          refine lv_aload_n hx hb dX2_advance_139 rfl (lv_at hl 0 rfl) ?_
          refine g_1_3 E hh tb37 (E.hn 1 0 (by decide)) dX2_advance_140 ?_
          refine lv_aload_n hx hb dX2_advance_143 rfl (lv_at hl 0 rfl) ?_
          refine g_1_5 E hh tb39 (E.hn 1 0 (by decide)) dX2_advance_144 ?_
          obtain ⟨hi17, hw⟩ := hw
          refine x_iald E hh (E.hn 4 0 (by decide)) ly_4 hi17 dX2_advance_147 ?_
          refine lv_goto (tgt := 153) hx hb dX2_advance_148 (by decide) ?_
          exact bX2_advance_153 E hw hh (lv_sub hl [0] rfl)
      · have hw := ifF hw c13
        refine lv_aload_n hx hb dX2_advance_116 rfl (lv_at hl 0 rfl) ?_
        refine x_cv E.hA hh (x_runV E hh (mX2_takeNumber E.hI E.hn hw) kX2_takeNumber tb256 (E.hn 1 0 (by decide)) rv_1 ⟨by decide, by decide⟩ rfl hl.1 rfl (Nat.le_of_ble_eq_true rfl) dX2_advance_117 ⟨Nat.zero_le _, Nat.zero_le _⟩) (fun S18 H locs hw hh => ?_)
        refine lv_goto (tgt := 166) hx hb dX2_advance_120 (by decide) ?_
        exact x_vret E hh hw dX2_advance_166
    · have hw := ifF hw c10
      refine lv_aload_n hx hb dX2_advance_94 rfl (lv_at hl 0 rfl) ?_
      refine x_cv E.hA hh (x_runV E hh (mX2_takeWord E.hI E.hn hw) kX2_takeWord tb228 (E.hn 1 0 (by decide)) rv_1 ⟨by decide, by decide⟩ rfl hl.1 rfl (Nat.le_of_ble_eq_true rfl) dX2_advance_95 ⟨Nat.zero_le _, Nat.zero_le _⟩) (fun S19 H locs hw hh => ?_)
      refine lv_goto (tgt := 166) hx hb dX2_advance_98 (by decide) ?_
      exact x_vret E hh hw dX2_advance_166
  · have hw := ifF hw c7
    refine lv_aload_n hx hb dX2_advance_71 rfl (lv_at hl 0 rfl) ?_
    refine lv_iconst (v := (-1)) hx hb dX2_advance_72 (by decide) ?_
    refine p_1_7 E hh tb41 (E.hn 1 0 (by decide)) dX2_advance_73 (fun S20 H locs e20 hh => ?_)
    have hw := hw S20 e20
    refine lv_goto (tgt := 166) hx hb dX2_advance_76 (by decide) ?_
    exact x_vret E hh hw dX2_advance_166
def wbX2_advance_39 (R0 : St → Prop) (K : St → Prop) (S : St) : Prop := (∀ S21, S21 = su S 1 0 5 ((S.1 1 0 5) + 1) → R0 S21)
set_option maxRecDepth 4000 in
theorem bX2_advance_39 {p : Program} {l : Launch} {e : Env} {R : Room} {s : State} {m : MethodId} {args : Array Value} {below : List Frame} {meth : Method} {c : Code} {D : va_G} {ad : Nat → Nat → Nat} {cs : Nat → ClassId} {P : Nat → Nat → Prop} {sz tU : Nat} {adK adV : Nat → Nat} {R0 : St → Prop} {K : St → Prop} {S : St} {H : Heap} {locs : List Loc} {ls : Array Slot} (E : Ex p s m args meth c R RX2 cX2_advance 1 none 8 209 D ad cs P (wA ad P) tU adK adV cnB) (hR0 : ∀ (S : St) (H : Heap) (locs : List Loc) (ls : Array Slot), R0 S → wH D ad cs P (wA ad P) s.heap sz S H locs → lv_has ls 1 [(0, .ref (ad 1 0))] → W p l e R s m args below meth c H locs 0 0 (MQ below (va_Qv K (QX D ad cs P sz) (wA ad P)) args s 0 0 (wA ad P)) (F0 m 0 ls [])) (hw : wbX2_advance_39 R0 K S) (hh : wH D ad cs P (wA ad P) s.heap sz S H locs) (hl : lv_has ls 1 [(0, .ref (ad 1 0))]) : W p l e R s m args below meth c H locs 0 0 (MQ below (va_Qv K (QX D ad cs P sz) (wA ad P)) args s 0 0 (wA ad P)) (F0 m 39 ls []) := by
  have hx := E.hx
  have hb := E.hb
  refine lv_aload_n hx hb dX2_advance_39 rfl (lv_at hl 0 rfl) ?_
  refine lv_dup hx hb dX2_advance_40 rfl ?_
  refine g_1_5 E hh tb39 (E.hn 1 0 (by decide)) dX2_advance_41 ?_
  refine lv_iconst (v := 1) hx hb dX2_advance_44 (by decide) ?_
  refine lv_iadd hx hb dX2_advance_45 ?_
  refine p_1_5 E hh tb39 (E.hn 1 0 (by decide)) dX2_advance_46 (fun S21 H locs e21 hh => ?_)
  have hw := hw S21 e21
  refine lv_goto (tgt := 0) hx hb dX2_advance_49 (by decide) ?_
  exact hR0  S21 _ _ _ hw hh (lv_sub hl [0] rfl)
def wbX2_advance_0 (K : St → Prop) : Nat → St → Prop
  | 0, _ => False
  | n + 1, S => if (S.1 1 0 2) ≤ (S.1 1 0 5) then (wbX2_advance_52 K S) else ((vp_in (S.1 1 0 5) 160 ∧ if (S.1 4 0 (S.1 1 0 5).toNatClampNeg) = 32 then (wbX2_advance_39 (fun S9 => wbX2_advance_0 K n S9) K S) else ((vp_in (S.1 1 0 5) 160 ∧ if (S.1 4 0 (S.1 1 0 5).toNatClampNeg) = 10 then (wbX2_advance_39 (fun S9 => wbX2_advance_0 K n S9) K S) else (wbX2_advance_52 K S)))))
set_option maxRecDepth 4000 in
theorem bX2_advance_0 {p : Program} {l : Launch} {e : Env} {R : Room} {s : State} {m : MethodId} {args : Array Value} {below : List Frame} {meth : Method} {c : Code} {D : va_G} {ad : Nat → Nat → Nat} {cs : Nat → ClassId} {P : Nat → Nat → Prop} {sz tU : Nat} {adK adV : Nat → Nat} {K : St → Prop} (E : Ex p s m args meth c R RX2 cX2_advance 1 none 8 209 D ad cs P (wA ad P) tU adK adV cnB) : ∀ (n : Nat) (S : St) (H : Heap) (locs : List Loc) (ls : Array Slot), wbX2_advance_0 K n S → wH D ad cs P (wA ad P) s.heap sz S H locs → lv_has ls 1 [(0, .ref (ad 1 0))] → W p l e R s m args below meth c H locs 0 0 (MQ below (va_Qv K (QX D ad cs P sz) (wA ad P)) args s 0 0 (wA ad P)) (F0 m 0 ls []) := by
  have hx := E.hx
  have hb := E.hb
  intro n
  induction n with
  | zero => intro S H locs ls hw hh hl; exact hw.elim
  | succ n ih =>
    intro S H locs ls hw hh hl
    refine lv_aload_n hx hb dX2_advance_0 rfl (lv_at hl 0 rfl) ?_
    refine g_1_5 E hh tb39 (E.hn 1 0 (by decide)) dX2_advance_1 ?_
    refine lv_aload_n hx hb dX2_advance_4 rfl (lv_at hl 0 rfl) ?_
    refine g_1_2 E hh tb35 (E.hn 1 0 (by decide)) dX2_advance_5 ?_
    refine lv_icmp_ge (tgt := 52) hx hb dX2_advance_8 (by decide) (fun c1 => ?_) (fun c1 => ?_)
    · have hw := ifT hw c1
      exact bX2_advance_52 E hw hh (lv_sub hl [0] rfl)
    · have hw := ifF hw c1
      refine lv_aload_n hx hb dX2_advance_11 rfl (lv_at hl 0 rfl) ?_
      refine g_1_3 E hh tb37 (E.hn 1 0 (by decide)) dX2_advance_12 ?_
      refine lv_aload_n hx hb dX2_advance_15 rfl (lv_at hl 0 rfl) ?_
      refine g_1_5 E hh tb39 (E.hn 1 0 (by decide)) dX2_advance_16 ?_
      obtain ⟨hi2, hw⟩ := hw
      refine x_iald E hh (E.hn 4 0 (by decide)) ly_4 hi2 dX2_advance_19 ?_
      refine lv_bipush (v := 32) hx hb dX2_advance_20 (by decide) ?_
      refine lv_icmp_eq (tgt := 39) hx hb dX2_advance_22 (by decide) (fun c3 => ?_) (fun c3 => ?_)
      · have hw := ifT hw c3
        exact bX2_advance_39 E ih hw hh (lv_sub hl [0] rfl)
      · have hw := ifF hw c3
        refine lv_aload_n hx hb dX2_advance_25 rfl (lv_at hl 0 rfl) ?_
        refine g_1_3 E hh tb37 (E.hn 1 0 (by decide)) dX2_advance_26 ?_
        refine lv_aload_n hx hb dX2_advance_29 rfl (lv_at hl 0 rfl) ?_
        refine g_1_5 E hh tb39 (E.hn 1 0 (by decide)) dX2_advance_30 ?_
        obtain ⟨hi4, hw⟩ := hw
        refine x_iald E hh (E.hn 4 0 (by decide)) ly_4 hi4 dX2_advance_33 ?_
        refine lv_bipush (v := 10) hx hb dX2_advance_34 (by decide) ?_
        refine lv_icmp_ne (tgt := 52) hx hb dX2_advance_36 (by decide) (fun c5 => ?_) (fun c5 => ?_)
        · have hw := ifF hw c5
          exact bX2_advance_52 E hw hh (lv_sub hl [0] rfl)
        · have hw := ifT hw c5
          exact bX2_advance_39 E ih hw hh (lv_sub hl [0] rfl)
def wpX2_advance (S : St) (K : St → Prop) : Prop := ∃ k, wbX2_advance_0 K k S
set_option maxRecDepth 4000 in
theorem bX2_advance {p : Program} {l : Launch} {e : Env} {R : Room} {s : State} {m : MethodId} {args : Array Value} {below : List Frame} {meth : Method} {c : Code} {D : va_G} {ad : Nat → Nat → Nat} {cs : Nat → ClassId} {P : Nat → Nat → Prop} {sz tU : Nat} {adK adV : Nat → Nat} {K : St → Prop} {S : St} {H : Heap} {locs : List Loc} {ls : Array Slot} (E : Ex p s m args meth c R RX2 cX2_advance 1 none 8 209 D ad cs P (wA ad P) tU adK adV cnB) (hw : wpX2_advance S K) (hh : wH D ad cs P (wA ad P) s.heap sz S H locs) (hl : lv_has ls 1 [(0, .ref (ad 1 0))]) : W p l e R s m args below meth c H locs 0 0 (MQ below (va_Qv K (QX D ad cs P sz) (wA ad P)) args s 0 0 (wA ad P)) (F0 m 0 ls []) := by
  have hx := E.hx
  have hb := E.hb
  obtain ⟨k, hw⟩ := hw
  exact bX2_advance_0 E k S _ _ _ hw hh (lv_sub hl [0] rfl)
theorem kX2_advance : kI yX2_advance cX2_advance 1 none 0 := ⟨tb223, ts0, tb2, tb224, by decide, by decide, by decide +kernel⟩
theorem mX2_advance {l : Launch} {D : va_G} {ad : Nat → Nat → Nat} {cs : Nat → ClassId} {P : Nat → Nat → Prop} {sz tU : Nat} {adK adV : Nat → Nat} {S : St} {K : St → Prop} (hI : wI ad P) (hn : ∀ kd i, i < cnB kd → P kd i) (hw : wpX2_advance S K) : MV l yX2_advance cX2_advance 1 none 8 209 D ad cs P sz tU adK adV [.ref (ad 1 0)] S K :=
  Met_of (by decide) (Nat.le_of_ble_eq_true rfl) hI hn (fun p e R s m args below meth c ls E hl hh => bX2_advance E  hw hh (lv_sub hl [0] rfl))
def wbX2_fail_16 (K : St → Prop) (S : St) : Prop := (∀ S3, S3 = su S 1 0 7 (-2) → K S3)
set_option maxRecDepth 4000 in
theorem bX2_fail_16 {p : Program} {l : Launch} {e : Env} {R : Room} {s : State} {m : MethodId} {args : Array Value} {below : List Frame} {meth : Method} {c : Code} {D : va_G} {ad : Nat → Nat → Nat} {cs : Nat → ClassId} {P : Nat → Nat → Prop} {sz tU : Nat} {adK adV : Nat → Nat} {K : St → Prop} {S : St} {H : Heap} {locs : List Loc} {ls : Array Slot} (E : Ex p s m args meth c R RX2 cX2_fail 1 none 1 60 D ad cs P (wA ad P) tU adK adV cnB) (hw : wbX2_fail_16 K S) (hh : wH D ad cs P (wA ad P) s.heap sz S H locs) (hl : lv_has ls 1 [(0, .ref (ad 1 0))]) : W p l e R s m args below meth c H locs 0 0 (MQ below (va_Qv K (QX D ad cs P sz) (wA ad P)) args s 0 0 (wA ad P)) (F0 m 16 ls []) := by
  have hx := E.hx
  have hb := E.hb
  refine lv_aload_n hx hb dX2_fail_16 rfl (lv_at hl 0 rfl) ?_
  refine lv_bipush (v := (-2)) hx hb dX2_fail_17 (by decide) ?_
  refine p_1_7 E hh tb41 (E.hn 1 0 (by decide)) dX2_fail_19 (fun S3 H locs e3 hh => ?_)
  have hw := hw S3 e3
  exact x_vret E hh hw dX2_fail_22
def wpX2_fail (S : St) (K : St → Prop) : Prop := if (S.1 1 0 9) = (-1) then ((∀ S2, S2 = su S 1 0 9 (S.1 1 0 6) → wbX2_fail_16 K S2)) else (wbX2_fail_16 K S)
set_option maxRecDepth 4000 in
theorem bX2_fail {p : Program} {l : Launch} {e : Env} {R : Room} {s : State} {m : MethodId} {args : Array Value} {below : List Frame} {meth : Method} {c : Code} {D : va_G} {ad : Nat → Nat → Nat} {cs : Nat → ClassId} {P : Nat → Nat → Prop} {sz tU : Nat} {adK adV : Nat → Nat} {K : St → Prop} {S : St} {H : Heap} {locs : List Loc} {ls : Array Slot} (E : Ex p s m args meth c R RX2 cX2_fail 1 none 1 60 D ad cs P (wA ad P) tU adK adV cnB) (hw : wpX2_fail S K) (hh : wH D ad cs P (wA ad P) s.heap sz S H locs) (hl : lv_has ls 1 [(0, .ref (ad 1 0))]) : W p l e R s m args below meth c H locs 0 0 (MQ below (va_Qv K (QX D ad cs P sz) (wA ad P)) args s 0 0 (wA ad P)) (F0 m 0 ls []) := by
  have hx := E.hx
  have hb := E.hb
  refine lv_aload_n hx hb dX2_fail_0 rfl (lv_at hl 0 rfl) ?_
  refine g_1_9 E hh tb43 (E.hn 1 0 (by decide)) dX2_fail_1 ?_
  refine lv_iconst (v := (-1)) hx hb dX2_fail_4 (by decide) ?_
  refine lv_icmp_ne (tgt := 16) hx hb dX2_fail_5 (by decide) (fun c1 => ?_) (fun c1 => ?_)
  · have hw := ifF hw c1
    exact bX2_fail_16 E hw hh (lv_sub hl [0] rfl)
  · have hw := ifT hw c1
    refine lv_aload_n hx hb dX2_fail_8 rfl (lv_at hl 0 rfl) ?_
    refine lv_aload_n hx hb dX2_fail_9 rfl (lv_at hl 0 rfl) ?_
    refine g_1_6 E hh tb40 (E.hn 1 0 (by decide)) dX2_fail_10 ?_
    refine p_1_9 E hh tb43 (E.hn 1 0 (by decide)) dX2_fail_13 (fun S2 H locs e2 hh => ?_)
    have hw := hw S2 e2
    exact bX2_fail_16 E hw hh (lv_sub hl [0] rfl)
theorem kX2_fail : kI yX2_fail cX2_fail 1 none 0 := ⟨tb269, ts5, tb2, tb270, by decide, by decide, by decide +kernel⟩
theorem mX2_fail {l : Launch} {D : va_G} {ad : Nat → Nat → Nat} {cs : Nat → ClassId} {P : Nat → Nat → Prop} {sz tU : Nat} {adK adV : Nat → Nat} {S : St} {K : St → Prop} (hI : wI ad P) (hn : ∀ kd i, i < cnB kd → P kd i) (hw : wpX2_fail S K) : MV l yX2_fail cX2_fail 1 none 1 60 D ad cs P sz tU adK adV [.ref (ad 1 0)] S K :=
  Met_of (by decide) (Nat.le_of_ble_eq_true rfl) hI hn (fun p e R s m args below meth c ls E hl hh => bX2_fail E  hw hh (lv_sub hl [0] rfl))
def wpX2_expect (x1 : Int32) (S : St) (K : St → Prop) : Prop := if (S.1 1 0 7) = x1 then (if (S.1 1 0 7) = (-1) then (K S) else (wpX2_advance S (fun S3 => K S3))) else (wpX2_fail S (fun S4 => K S4))
set_option maxRecDepth 4000 in
theorem bX2_expect {p : Program} {l : Launch} {e : Env} {R : Room} {s : State} {m : MethodId} {args : Array Value} {below : List Frame} {meth : Method} {c : Code} {D : va_G} {ad : Nat → Nat → Nat} {cs : Nat → ClassId} {P : Nat → Nat → Prop} {sz tU : Nat} {adK adV : Nat → Nat} {K : St → Prop} {x1 : Int32} {S : St} {H : Heap} {locs : List Loc} {ls : Array Slot} (E : Ex p s m args meth c R RX2 cX2_expect 2 none 9 229 D ad cs P (wA ad P) tU adK adV cnB) (hw : wpX2_expect x1 S K) (hh : wH D ad cs P (wA ad P) s.heap sz S H locs) (hl : lv_has ls 2 [(0, .ref (ad 1 0)), (1, .int x1)]) : W p l e R s m args below meth c H locs 0 0 (MQ below (va_Qv K (QX D ad cs P sz) (wA ad P)) args s 0 0 (wA ad P)) (F0 m 0 ls []) := by
  have hx := E.hx
  have hb := E.hb
  refine lv_aload_n hx hb dX2_expect_0 rfl (lv_at hl 0 rfl) ?_
  refine g_1_7 E hh tb41 (E.hn 1 0 (by decide)) dX2_expect_1 ?_
  refine lv_iload_n hx hb dX2_expect_4 rfl (lv_at hl 1 rfl) ?_
  refine lv_icmp_eq (tgt := 15) hx hb dX2_expect_5 (by decide) (fun c1 => ?_) (fun c1 => ?_)
  · have hw := ifT hw c1
    refine lv_aload_n hx hb dX2_expect_15 rfl (lv_at hl 0 rfl) ?_
    refine g_1_7 E hh tb41 (E.hn 1 0 (by decide)) dX2_expect_16 ?_
    refine lv_iconst (v := (-1)) hx hb dX2_expect_19 (by decide) ?_
    refine lv_icmp_eq (tgt := 27) hx hb dX2_expect_20 (by decide) (fun c2 => ?_) (fun c2 => ?_)
    · have hw := ifT hw c2
      exact x_vret E hh hw dX2_expect_27
    · have hw := ifF hw c2
      refine lv_aload_n hx hb dX2_expect_23 rfl (lv_at hl 0 rfl) ?_
      refine x_cv E.hA hh (x_runV E hh (mX2_advance E.hI E.hn hw) kX2_advance tb221 (E.hn 1 0 (by decide)) rv_1 ⟨by decide, by decide⟩ rfl hl.1 rfl (Nat.le_of_ble_eq_true rfl) dX2_expect_24 ⟨Nat.zero_le _, Nat.zero_le _⟩) (fun S3 H locs hw hh => ?_)
      exact x_vret E hh hw dX2_expect_27
  · have hw := ifF hw c1
    refine lv_aload_n hx hb dX2_expect_8 rfl (lv_at hl 0 rfl) ?_
    refine x_cv E.hA hh (x_runV E hh (mX2_fail E.hI E.hn hw) kX2_fail tb267 (E.hn 1 0 (by decide)) rv_1 ⟨by decide, by decide⟩ rfl hl.1 rfl (Nat.le_of_ble_eq_true rfl) dX2_expect_9 ⟨Nat.zero_le _, Nat.zero_le _⟩) (fun S4 H locs hw hh => ?_)
    refine lv_goto (tgt := 27) hx hb dX2_expect_12 (by decide) ?_
    exact x_vret E hh hw dX2_expect_27
theorem kX2_expect : kI yX2_expect cX2_expect 2 none 1 := ⟨tb265, ts4, tb2, tb266, by decide, by decide, by decide +kernel⟩
theorem mX2_expect {l : Launch} {D : va_G} {ad : Nat → Nat → Nat} {cs : Nat → ClassId} {P : Nat → Nat → Prop} {sz tU : Nat} {adK adV : Nat → Nat} {x1 : Int32} {S : St} {K : St → Prop} (hI : wI ad P) (hn : ∀ kd i, i < cnB kd → P kd i) (hw : wpX2_expect x1 S K) : MV l yX2_expect cX2_expect 2 none 9 229 D ad cs P sz tU adK adV [.ref (ad 1 0), .int x1] S K :=
  Met_of (by decide) (Nat.le_of_ble_eq_true rfl) hI hn (fun p e R s m args below meth c ls E hl hh => bX2_expect E  hw hh (lv_sub hl [0, 1] rfl))
def wpX2_emit (x1 : Int32) (S : St) (K : St → Prop) : Prop := if 160 ≤ (S.1 1 0 4) then (K S) else ((vp_in (S.1 1 0 4) 160 ∧ ∀ S2, S2 = su S 2 0 (S.1 1 0 4).toNatClampNeg x1 → (∀ S3, S3 = su S2 1 0 4 ((S2.1 1 0 4) + 1) → K S3)))
set_option maxRecDepth 4000 in
theorem bX2_emit {p : Program} {l : Launch} {e : Env} {R : Room} {s : State} {m : MethodId} {args : Array Value} {below : List Frame} {meth : Method} {c : Code} {D : va_G} {ad : Nat → Nat → Nat} {cs : Nat → ClassId} {P : Nat → Nat → Prop} {sz tU : Nat} {adK adV : Nat → Nat} {K : St → Prop} {x1 : Int32} {S : St} {H : Heap} {locs : List Loc} {ls : Array Slot} (E : Ex p s m args meth c R RX2 cX2_emit 2 none 1 60 D ad cs P (wA ad P) tU adK adV cnB) (hw : wpX2_emit x1 S K) (hh : wH D ad cs P (wA ad P) s.heap sz S H locs) (hl : lv_has ls 2 [(0, .ref (ad 1 0)), (1, .int x1)]) : W p l e R s m args below meth c H locs 0 0 (MQ below (va_Qv K (QX D ad cs P sz) (wA ad P)) args s 0 0 (wA ad P)) (F0 m 0 ls []) := by
  have hx := E.hx
  have hb := E.hb
  refine lv_aload_n hx hb dX2_emit_0 rfl (lv_at hl 0 rfl) ?_
  refine g_1_4 E hh tb38 (E.hn 1 0 (by decide)) dX2_emit_1 ?_
  refine lv_aload_n hx hb dX2_emit_4 rfl (lv_at hl 0 rfl) ?_
  refine g_1_0 E hh tb31 (E.hn 1 0 (by decide)) dX2_emit_5 ?_
  refine x_alen (v := 160) E hh (E.hn 2 0 (by decide)) ly_2 (by decide) rfl dX2_emit_8 ?_
  refine lv_icmp_ge (tgt := 32) hx hb dX2_emit_9 (by decide) (fun c1 => ?_) (fun c1 => ?_)
  · have hw := ifT hw c1
    exact x_vret E hh hw dX2_emit_32
  · have hw := ifF hw c1
    refine lv_aload_n hx hb dX2_emit_12 rfl (lv_at hl 0 rfl) ?_
    refine g_1_0 E hh tb31 (E.hn 1 0 (by decide)) dX2_emit_13 ?_
    refine lv_aload_n hx hb dX2_emit_16 rfl (lv_at hl 0 rfl) ?_
    refine g_1_4 E hh tb38 (E.hn 1 0 (by decide)) dX2_emit_17 ?_
    refine lv_iload_n hx hb dX2_emit_20 rfl (lv_at hl 1 rfl) ?_
    obtain ⟨hi2, hw⟩ := hw
    refine x_iast E hh (E.hn 2 0 (by decide)) ly_2 hi2 dX2_emit_21 (fun S2 H locs e2 hh => ?_)
    have hw := hw S2 e2
    refine lv_aload_n hx hb dX2_emit_22 rfl (lv_at hl 0 rfl) ?_
    refine lv_dup hx hb dX2_emit_23 rfl ?_
    refine g_1_4 E hh tb38 (E.hn 1 0 (by decide)) dX2_emit_24 ?_
    refine lv_iconst (v := 1) hx hb dX2_emit_27 (by decide) ?_
    refine lv_iadd hx hb dX2_emit_28 ?_
    refine p_1_4 E hh tb38 (E.hn 1 0 (by decide)) dX2_emit_29 (fun S3 H locs e3 hh => ?_)
    have hw := hw S3 e3
    exact x_vret E hh hw dX2_emit_32
theorem kX2_emit : kI yX2_emit cX2_emit 2 none 1 := ⟨tb281, ts8, tb2, tb282, by decide, by decide, by decide +kernel⟩
theorem mX2_emit {l : Launch} {D : va_G} {ad : Nat → Nat → Nat} {cs : Nat → ClassId} {P : Nat → Nat → Prop} {sz tU : Nat} {adK adV : Nat → Nat} {x1 : Int32} {S : St} {K : St → Prop} (hI : wI ad P) (hn : ∀ kd i, i < cnB kd → P kd i) (hw : wpX2_emit x1 S K) : MV l yX2_emit cX2_emit 2 none 1 60 D ad cs P sz tU adK adV [.ref (ad 1 0), .int x1] S K :=
  Met_of (by decide) (Nat.le_of_ble_eq_true rfl) hI hn (fun p e R s m args below meth c ls E hl hh => bX2_emit E  hw hh (lv_sub hl [0, 1] rfl))
def wpX2_enter (x1 : Int32) (S : St) (K : Int32 → St → Prop) : Prop := if x1 < 5 then (wpX2_advance S (fun S2 => K 1 S2)) else (wpX2_fail S (fun S3 => K 0 S3))
set_option maxRecDepth 4000 in
theorem bX2_enter {p : Program} {l : Launch} {e : Env} {R : Room} {s : State} {m : MethodId} {args : Array Value} {below : List Frame} {meth : Method} {c : Code} {D : va_G} {ad : Nat → Nat → Nat} {cs : Nat → ClassId} {P : Nat → Nat → Prop} {sz tU : Nat} {adK adV : Nat → Nat} {K : Int32 → St → Prop} {x1 : Int32} {S : St} {H : Heap} {locs : List Loc} {ls : Array Slot} (E : Ex p s m args meth c R RX2 cX2_enter 2 (some .boolean) 9 229 D ad cs P (wA ad P) tU adK adV cnB) (hw : wpX2_enter x1 S K) (hh : wH D ad cs P (wA ad P) s.heap sz S H locs) (hl : lv_has ls 2 [(0, .ref (ad 1 0)), (1, .int x1)]) : W p l e R s m args below meth c H locs 0 0 (MQ below (va_Qi (fun r S => K r S ∧ narrow .boolean (.int r) = .int r) (QX D ad cs P sz) (wA ad P)) args s 0 0 (wA ad P)) (F0 m 0 ls []) := by
  have hx := E.hx
  have hb := E.hb
  refine lv_iload_n hx hb dX2_enter_0 rfl (lv_at hl 1 rfl) ?_
  refine lv_iconst (v := 5) hx hb dX2_enter_1 (by decide) ?_
  refine lv_icmp_lt (tgt := 11) hx hb dX2_enter_2 (by decide) (fun c1 => ?_) (fun c1 => ?_)
  · have hw := ifT hw c1
    refine lv_aload_n hx hb dX2_enter_11 rfl (lv_at hl 0 rfl) ?_
    refine x_cv E.hA hh (x_runV E hh (mX2_advance E.hI E.hn hw) kX2_advance tb221 (E.hn 1 0 (by decide)) rv_1 ⟨by decide, by decide⟩ rfl hl.1 rfl (Nat.le_of_ble_eq_true rfl) dX2_enter_12 ⟨Nat.zero_le _, Nat.zero_le _⟩) (fun S2 H locs hw hh => ?_)
    refine lv_iconst (v := 1) hx hb dX2_enter_15 (by decide) ?_
    exact x_zret E hh hw rfl dX2_enter_16
  · have hw := ifF hw c1
    refine lv_aload_n hx hb dX2_enter_5 rfl (lv_at hl 0 rfl) ?_
    refine x_cv E.hA hh (x_runV E hh (mX2_fail E.hI E.hn hw) kX2_fail tb267 (E.hn 1 0 (by decide)) rv_1 ⟨by decide, by decide⟩ rfl hl.1 rfl (Nat.le_of_ble_eq_true rfl) dX2_enter_6 ⟨Nat.zero_le _, Nat.zero_le _⟩) (fun S3 H locs hw hh => ?_)
    refine lv_iconst (v := 0) hx hb dX2_enter_9 (by decide) ?_
    exact x_zret E hh hw rfl dX2_enter_10
theorem kX2_enter : kI yX2_enter cX2_enter 2 (some .boolean) 1 := ⟨tb285, ts9, tb2, tb286, by decide, by decide, by decide +kernel⟩
theorem mX2_enter {l : Launch} {D : va_G} {ad : Nat → Nat → Nat} {cs : Nat → ClassId} {P : Nat → Nat → Prop} {sz tU : Nat} {adK adV : Nat → Nat} {x1 : Int32} {S : St} {K : Int32 → St → Prop} (hI : wI ad P) (hn : ∀ kd i, i < cnB kd → P kd i) (hw : wpX2_enter x1 S K) : MI l yX2_enter cX2_enter 2 (some .boolean) 9 229 D ad cs P sz tU adK adV [.ref (ad 1 0), .int x1] S (fun r S => K r S ∧ narrow .boolean (.int r) = .int r) :=
  Met_of (by decide) (Nat.le_of_ble_eq_true rfl) hI hn (fun p e R s m args below meth c ls E hl hh => bX2_enter E  hw hh (lv_sub hl [0, 1] rfl))
def wpX2_levelOf (x0 : Int32) (S : St) (K : Int32 → St → Prop) : Prop := (if x0 = 10 then (K 0 S) else (if x0 = 11 then (K 1 S) else (if x0 = 42 then (K 4 S) else (if x0 = 43 then (K 3 S) else (if x0 = 45 then (K 3 S) else (if x0 = 60 then (K 2 S) else (if x0 = 61 then (K 2 S) else (K (-1) S))))))))
set_option maxRecDepth 4000 in
theorem bX2_levelOf {p : Program} {l : Launch} {e : Env} {R : Room} {s : State} {m : MethodId} {args : Array Value} {below : List Frame} {meth : Method} {c : Code} {D : va_G} {ad : Nat → Nat → Nat} {cs : Nat → ClassId} {P : Nat → Nat → Prop} {sz tU : Nat} {adK adV : Nat → Nat} {K : Int32 → St → Prop} {x0 : Int32} {S : St} {H : Heap} {locs : List Loc} {ls : Array Slot} (E : Ex p s m args meth c R RX2 cX2_levelOf 1 (some .int) 1 60 D ad cs P (wA ad P) tU adK adV cn0) (hw : wpX2_levelOf x0 S K) (hh : wH D ad cs P (wA ad P) s.heap sz S H locs) (hl : lv_has ls 1 [(0, .int x0)]) : W p l e R s m args below meth c H locs 0 0 (MQ below (va_Qi K (QX D ad cs P sz) (wA ad P)) args s 0 0 (wA ad P)) (F0 m 0 ls []) := by
  have hx := E.hx
  have hb := E.hb
  refine lv_iload_n hx hb dX2_levelOf_0 rfl (lv_at hl 0 rfl) ?_
  by_cases c1 : x0 = 10
  · have hw := ifT hw c1
    refine lv_lookup (off := 67) (tgt := 68) hx hb dX2_levelOf_1 (by decide) (by rw [c1] <;> rfl) (by decide) ?_
    refine lv_iconst (v := 0) hx hb dX2_levelOf_68 (by decide) ?_
    exact x_iret E hh hw dX2_levelOf_69
  have hw := ifF hw c1
  by_cases c2 : x0 = 11
  · have hw := ifT hw c2
    refine lv_lookup (off := 69) (tgt := 70) hx hb dX2_levelOf_1 (by decide) (by rw [c2] <;> rfl) (by decide) ?_
    refine lv_iconst (v := 1) hx hb dX2_levelOf_70 (by decide) ?_
    exact x_iret E hh hw dX2_levelOf_71
  have hw := ifF hw c2
  by_cases c3 : x0 = 42
  · have hw := ifT hw c3
    refine lv_lookup (off := 75) (tgt := 76) hx hb dX2_levelOf_1 (by decide) (by rw [c3] <;> rfl) (by decide) ?_
    refine lv_iconst (v := 4) hx hb dX2_levelOf_76 (by decide) ?_
    exact x_iret E hh hw dX2_levelOf_77
  have hw := ifF hw c3
  by_cases c4 : x0 = 43
  · have hw := ifT hw c4
    refine lv_lookup (off := 73) (tgt := 74) hx hb dX2_levelOf_1 (by decide) (by rw [c4] <;> rfl) (by decide) ?_
    refine lv_iconst (v := 3) hx hb dX2_levelOf_74 (by decide) ?_
    exact x_iret E hh hw dX2_levelOf_75
  have hw := ifF hw c4
  by_cases c5 : x0 = 45
  · have hw := ifT hw c5
    refine lv_lookup (off := 73) (tgt := 74) hx hb dX2_levelOf_1 (by decide) (by rw [c5] <;> rfl) (by decide) ?_
    refine lv_iconst (v := 3) hx hb dX2_levelOf_74 (by decide) ?_
    exact x_iret E hh hw dX2_levelOf_75
  have hw := ifF hw c5
  by_cases c6 : x0 = 60
  · have hw := ifT hw c6
    refine lv_lookup (off := 71) (tgt := 72) hx hb dX2_levelOf_1 (by decide) (by rw [c6] <;> rfl) (by decide) ?_
    refine lv_iconst (v := 2) hx hb dX2_levelOf_72 (by decide) ?_
    exact x_iret E hh hw dX2_levelOf_73
  have hw := ifF hw c6
  by_cases c7 : x0 = 61
  · have hw := ifT hw c7
    refine lv_lookup (off := 71) (tgt := 72) hx hb dX2_levelOf_1 (by decide) (by rw [c7] <;> rfl) (by decide) ?_
    refine lv_iconst (v := 2) hx hb dX2_levelOf_72 (by decide) ?_
    exact x_iret E hh hw dX2_levelOf_73
  have hw := ifF hw c7
  refine lv_lookup (off := 77) (tgt := 78) hx hb dX2_levelOf_1 (by decide) (by show Op.lookupswitch.offset [(10, 67), (11, 69), (42, 75), (43, 73), (45, 73), (60, 71), (61, 71)] _ _ = _; rw [lv_osw (a := 10) c1 (by decide), lv_osw (a := 11) c2 (by decide), lv_osw (a := 42) c3 (by decide), lv_osw (a := 43) c4 (by decide), lv_osw (a := 45) c5 (by decide), lv_osw (a := 60) c6 (by decide), lv_osw (a := 61) c7 (by decide)] <;> rfl) (by decide) ?_
  refine lv_iconst (v := (-1)) hx hb dX2_levelOf_78 (by decide) ?_
  exact x_iret E hh hw dX2_levelOf_79
theorem kX2_levelOf : kS yX2_levelOf cX2_levelOf 1 (some .int) 1 := ⟨tb288, tb2, tb289, by decide, by decide, by decide +kernel⟩
theorem mX2_levelOf {l : Launch} {D : va_G} {ad : Nat → Nat → Nat} {cs : Nat → ClassId} {P : Nat → Nat → Prop} {sz tU : Nat} {adK adV : Nat → Nat} {x0 : Int32} {S : St} {K : Int32 → St → Prop} (hI : wI ad P) (hn : ∀ kd i, i < cn0 kd → P kd i) (hw : wpX2_levelOf x0 S K) : MI l yX2_levelOf cX2_levelOf 1 (some .int) 1 60 D ad cs P sz tU adK adV [.int x0] S K :=
  Met_of (by decide) (Nat.le_of_ble_eq_true rfl) hI hn (fun p e R s m args below meth c ls E hl hh => bX2_levelOf E  hw hh (lv_sub hl [0] rfl))
theorem kX2_readLevel : kI yX2_readLevel cX2_readLevel 6 none 2 := ⟨tb273, ts6, tb2, tb274, by decide, by decide, by decide +kernel⟩
theorem kX2_readOne : kI yX2_readOne cX2_readOne 2 none 1 := ⟨tb277, ts7, tb2, tb278, by decide, by decide, by decide +kernel⟩
def wbX2_readLevel_72 (F : Nat → Int32 → Int32 → St → (St → Prop) → Prop) (K : St → Prop) (x1 : Int32) (x2 : Int32) (x3 : Int32) : Nat → Int32 → St → Prop
  | 0, _, _ => False
  | n + 1, x4, S => if x3 ≤ x4 then (K S) else (wpX2_levelOf (S.1 1 0 7) S (fun r12 S12 => if r12 = x1 then (wpX2_advance S12 (fun S14 => F 0 (x1 + 1) x2 S14 (fun S15 => wpX2_emit (-(S12.1 1 0 7)) S15 (fun S16 => wbX2_readLevel_72 F K x1 x2 x3 n (x4 + 1) S16)))) else (K S12)))
set_option maxRecDepth 4000 in
theorem bX2_readLevel_72 {p : Program} {l : Launch} {e : Env} {R : Room} {s : State} {m : MethodId} {args : Array Value} {below : List Frame} {meth : Method} {c : Code} {D : va_G} {ad : Nat → Nat → Nat} {cs : Nat → ClassId} {P : Nat → Nat → Prop} {sz tU : Nat} {adK adV : Nat → Nat} {F : Nat → Int32 → Int32 → St → (St → Prop) → Prop} {d : Nat} {K : St → Prop} {x1 : Int32} {x2 : Int32} {x3 : Int32} (E : Ex p s m args meth c R RX2 cX2_readLevel 6 none (10 + (d + 1)) (250 + 25 * (d + 1)) D ad cs P (wA ad P) tU adK adV cnB) (hF0 : ∀ {x1 : Int32} {x2 : Int32} {S : St} {K : St → Prop}, F 0 x1 x2 S K → MV l yX2_readLevel cX2_readLevel 6 none (10 + d) (250 + 25 * d) D ad cs P sz tU adK adV [.ref (ad 1 0), .int x1, .int x2] S K) (hF1 : ∀ {x1 : Int32} {S : St} {K : St → Prop}, F 1 x1 0 S K → MV l yX2_readOne cX2_readOne 2 none (10 + d) (250 + 25 * d) D ad cs P sz tU adK adV [.ref (ad 1 0), .int x1] S K) : ∀ (n : Nat) (x4 : Int32) (S : St) (H : Heap) (locs : List Loc) (ls : Array Slot), wbX2_readLevel_72 F K x1 x2 x3 n x4 S → wH D ad cs P (wA ad P) s.heap sz S H locs → lv_has ls 6 [(0, .ref (ad 1 0)), (1, .int x1), (2, .int x2), (3, .int x3), (4, .int x4)] → W p l e R s m args below meth c H locs 0 0 (MQ below (va_Qv K (QX D ad cs P sz) (wA ad P)) args s 0 0 (wA ad P)) (F0 m 72 ls []) := by
  have hx := E.hx
  have hb := E.hb
  intro n
  induction n with
  | zero => intro x4 S H locs ls hw hh hl; exact hw.elim
  | succ n ih =>
    intro x4 S H locs ls hw hh hl
    refine lv_iload hx hb dX2_readLevel_72 (lv_at hl 4 rfl) ?_
    refine lv_iload_n hx hb dX2_readLevel_74 rfl (lv_at hl 3 rfl) ?_
    refine lv_icmp_ge (tgt := 120) hx hb dX2_readLevel_75 (by decide) (fun c11 => ?_) (fun c11 => ?_)
    · have hw := ifT hw c11
      exact x_vret E hh hw dX2_readLevel_120
    · have hw := ifF hw c11
      refine lv_aload_n hx hb dX2_readLevel_78 rfl (lv_at hl 0 rfl) ?_
      refine g_1_7 E hh tb41 (E.hn 1 0 (by decide)) dX2_readLevel_79 ?_
      refine x_ci E.hA hh (x_runS E hh (mX2_levelOf E.hI (fun _ _ h => absurd h (Nat.not_lt_zero _)) hw) kX2_levelOf tb287 ⟨by omega, by omega⟩ rfl hl.1 rfl (Nat.le_of_ble_eq_true rfl) dX2_readLevel_82 ⟨Nat.zero_le _, Nat.zero_le _⟩) (fun r12 S12 H locs hw hh => ?_)
      refine lv_iload_n hx hb dX2_readLevel_85 rfl (lv_at hl 1 rfl) ?_
      refine lv_icmp_ne (tgt := 120) hx hb dX2_readLevel_86 (by decide) (fun c13 => ?_) (fun c13 => ?_)
      · have hw := ifF hw c13
        exact x_vret E hh hw dX2_readLevel_120
      · have hw := ifT hw c13
        refine lv_aload_n hx hb dX2_readLevel_89 rfl (lv_at hl 0 rfl) ?_
        refine g_1_7 E hh tb41 (E.hn 1 0 (by decide)) dX2_readLevel_90 ?_
        refine lv_istore (lv' := [(5, .int (S12.1 1 0 7)), (0, .ref (ad 1 0)), (1, .int x1), (2, .int x2), (3, .int x3), (4, .int x4)]) hx hb dX2_readLevel_93 hl (by decide) rfl (fun ls hl => ?_)
        refine lv_aload_n hx hb dX2_readLevel_95 rfl (lv_at hl 1 rfl) ?_
        refine x_cv E.hA hh (x_runV E hh (mX2_advance E.hI E.hn hw) kX2_advance tb221 (E.hn 1 0 (by decide)) rv_1 ⟨by omega, by omega⟩ rfl hl.1 rfl (Nat.le_of_ble_eq_true rfl) dX2_readLevel_96 ⟨Nat.zero_le _, Nat.zero_le _⟩) (fun S14 H locs hw hh => ?_)
        refine lv_aload_n hx hb dX2_readLevel_99 rfl (lv_at hl 1 rfl) ?_
        refine lv_iload_n hx hb dX2_readLevel_100 rfl (lv_at hl 2 rfl) ?_
        refine lv_iconst (v := 1) hx hb dX2_readLevel_101 (by decide) ?_
        refine lv_iadd hx hb dX2_readLevel_102 ?_
        refine lv_iload_n hx hb dX2_readLevel_103 rfl (lv_at hl 3 rfl) ?_
        refine x_cv E.hA hh (x_runV E hh (hF0 hw) kX2_readLevel tb271 (E.hn 1 0 (by decide)) rv_1 ⟨by omega, by omega⟩ rfl hl.1 rfl (Nat.le_of_ble_eq_true rfl) dX2_readLevel_104 ⟨Nat.zero_le _, Nat.zero_le _⟩) (fun S15 H locs hw hh => ?_)
        refine lv_aload_n hx hb dX2_readLevel_107 rfl (lv_at hl 1 rfl) ?_
        refine lv_iload hx hb dX2_readLevel_108 (lv_at hl 0 rfl) ?_
        refine lv_ineg hx hb dX2_readLevel_110 ?_
        refine x_cv E.hA hh (x_runV E hh (mX2_emit E.hI E.hn hw) kX2_emit tb279 (E.hn 1 0 (by decide)) rv_1 ⟨by omega, by omega⟩ rfl hl.1 rfl (Nat.le_of_ble_eq_true rfl) dX2_readLevel_111 ⟨Nat.zero_le _, Nat.zero_le _⟩) (fun S16 H locs hw hh => ?_)
        refine lv_iinc (k := 5) (v := x4 + 1) (lv' := [(4, .int (x4 + 1)), (5, .int (S12.1 1 0 7)), (0, .ref (ad 1 0)), (1, .int x1), (2, .int x2), (3, .int x3)]) hx hb dX2_readLevel_114 hl rfl rfl (by decide) rfl (fun ls hl => ?_)
        refine lv_goto (tgt := 72) hx hb dX2_readLevel_117 (by decide) ?_
        exact ih (x4 + 1) S16 _ _ _ hw hh (lv_sub hl [2, 3, 4, 5, 0] rfl)
def wbX2_readLevel_68 (F : Nat → Int32 → Int32 → St → (St → Prop) → Prop) (K : St → Prop) (x1 : Int32) (x2 : Int32) (v0 : Int32) (S : St) : Prop := ∃ k, wbX2_readLevel_72 F K x1 x2 v0 k 0 S
set_option maxRecDepth 4000 in
theorem bX2_readLevel_68 {p : Program} {l : Launch} {e : Env} {R : Room} {s : State} {m : MethodId} {args : Array Value} {below : List Frame} {meth : Method} {c : Code} {D : va_G} {ad : Nat → Nat → Nat} {cs : Nat → ClassId} {P : Nat → Nat → Prop} {sz tU : Nat} {adK adV : Nat → Nat} {F : Nat → Int32 → Int32 → St → (St → Prop) → Prop} {d : Nat} {K : St → Prop} {x1 : Int32} {x2 : Int32} {v0 : Int32} {S : St} {H : Heap} {locs : List Loc} {ls : Array Slot} (E : Ex p s m args meth c R RX2 cX2_readLevel 6 none (10 + (d + 1)) (250 + 25 * (d + 1)) D ad cs P (wA ad P) tU adK adV cnB) (hF0 : ∀ {x1 : Int32} {x2 : Int32} {S : St} {K : St → Prop}, F 0 x1 x2 S K → MV l yX2_readLevel cX2_readLevel 6 none (10 + d) (250 + 25 * d) D ad cs P sz tU adK adV [.ref (ad 1 0), .int x1, .int x2] S K) (hF1 : ∀ {x1 : Int32} {S : St} {K : St → Prop}, F 1 x1 0 S K → MV l yX2_readOne cX2_readOne 2 none (10 + d) (250 + 25 * d) D ad cs P sz tU adK adV [.ref (ad 1 0), .int x1] S K) (hw : wbX2_readLevel_68 F K x1 x2 v0 S) (hh : wH D ad cs P (wA ad P) s.heap sz S H locs) (hl : lv_has ls 6 [(0, .ref (ad 1 0)), (1, .int x1), (2, .int x2)]) : W p l e R s m args below meth c H locs 0 0 (MQ below (va_Qv K (QX D ad cs P sz) (wA ad P)) args s 0 0 (wA ad P)) (F0 m 68 ls [.int v0]) := by
  have hx := E.hx
  have hb := E.hb
  refine lv_istore_n (lv' := [(3, .int v0), (0, .ref (ad 1 0)), (1, .int x1), (2, .int x2)]) hx hb dX2_readLevel_68 rfl hl (by decide) rfl (fun ls hl => ?_)
  refine lv_iconst (v := 0) hx hb dX2_readLevel_69 (by decide) ?_
  refine lv_istore (lv' := [(4, .int 0), (3, .int v0), (0, .ref (ad 1 0)), (1, .int x1), (2, .int x2)]) hx hb dX2_readLevel_70 hl (by decide) rfl (fun ls hl => ?_)
  obtain ⟨k, hw⟩ := hw
  exact bX2_readLevel_72 E hF0 hF1 k 0 S _ _ _ hw hh (lv_sub hl [2, 3, 4, 1, 0] rfl)
def wbX2_readLevel_48 (F : Nat → Int32 → Int32 → St → (St → Prop) → Prop) (K : St → Prop) (x1 : Int32) (x2 : Int32) (S : St) : Prop := F 0 (x1 + 1) x2 S (fun S9 => if x1 = 2 then (wbX2_readLevel_68 F K x1 x2 1 S9) else (wbX2_readLevel_68 F K x1 x2 160 S9))
set_option maxRecDepth 4000 in
theorem bX2_readLevel_48 {p : Program} {l : Launch} {e : Env} {R : Room} {s : State} {m : MethodId} {args : Array Value} {below : List Frame} {meth : Method} {c : Code} {D : va_G} {ad : Nat → Nat → Nat} {cs : Nat → ClassId} {P : Nat → Nat → Prop} {sz tU : Nat} {adK adV : Nat → Nat} {F : Nat → Int32 → Int32 → St → (St → Prop) → Prop} {d : Nat} {K : St → Prop} {x1 : Int32} {x2 : Int32} {S : St} {H : Heap} {locs : List Loc} {ls : Array Slot} (E : Ex p s m args meth c R RX2 cX2_readLevel 6 none (10 + (d + 1)) (250 + 25 * (d + 1)) D ad cs P (wA ad P) tU adK adV cnB) (hF0 : ∀ {x1 : Int32} {x2 : Int32} {S : St} {K : St → Prop}, F 0 x1 x2 S K → MV l yX2_readLevel cX2_readLevel 6 none (10 + d) (250 + 25 * d) D ad cs P sz tU adK adV [.ref (ad 1 0), .int x1, .int x2] S K) (hF1 : ∀ {x1 : Int32} {S : St} {K : St → Prop}, F 1 x1 0 S K → MV l yX2_readOne cX2_readOne 2 none (10 + d) (250 + 25 * d) D ad cs P sz tU adK adV [.ref (ad 1 0), .int x1] S K) (hw : wbX2_readLevel_48 F K x1 x2 S) (hh : wH D ad cs P (wA ad P) s.heap sz S H locs) (hl : lv_has ls 6 [(0, .ref (ad 1 0)), (1, .int x1), (2, .int x2)]) : W p l e R s m args below meth c H locs 0 0 (MQ below (va_Qv K (QX D ad cs P sz) (wA ad P)) args s 0 0 (wA ad P)) (F0 m 48 ls []) := by
  have hx := E.hx
  have hb := E.hb
  refine lv_aload_n hx hb dX2_readLevel_48 rfl (lv_at hl 0 rfl) ?_
  refine lv_iload_n hx hb dX2_readLevel_49 rfl (lv_at hl 1 rfl) ?_
  refine lv_iconst (v := 1) hx hb dX2_readLevel_50 (by decide) ?_
  refine lv_iadd hx hb dX2_readLevel_51 ?_
  refine lv_iload_n hx hb dX2_readLevel_52 rfl (lv_at hl 2 rfl) ?_
  refine x_cv E.hA hh (x_runV E hh (hF0 hw) kX2_readLevel tb271 (E.hn 1 0 (by decide)) rv_1 ⟨by omega, by omega⟩ rfl hl.1 rfl (Nat.le_of_ble_eq_true rfl) dX2_readLevel_53 ⟨Nat.zero_le _, Nat.zero_le _⟩) (fun S9 H locs hw hh => ?_)
  refine lv_iload_n hx hb dX2_readLevel_56 rfl (lv_at hl 1 rfl) ?_
  refine lv_iconst (v := 2) hx hb dX2_readLevel_57 (by decide) ?_
  refine lv_icmp_ne (tgt := 65) hx hb dX2_readLevel_58 (by decide) (fun c10 => ?_) (fun c10 => ?_)
  · have hw := ifF hw c10
    refine lv_sipush (v := 160) hx hb dX2_readLevel_65 (by decide) ?_
    exact bX2_readLevel_68 E hF0 hF1 hw hh (lv_sub hl [0, 1, 2] rfl)
  · have hw := ifT hw c10
    refine lv_iconst (v := 1) hx hb dX2_readLevel_61 (by decide) ?_
    refine lv_goto (tgt := 68) hx hb dX2_readLevel_62 (by decide) ?_
    exact bX2_readLevel_68 E hF0 hF1 hw hh (lv_sub hl [0, 1, 2] rfl)
def wpX2_readLevel (F : Nat → Int32 → Int32 → St → (St → Prop) → Prop) (x1 : Int32) (x2 : Int32) (S : St) (K : St → Prop) : Prop := if x1 ≤ 4 then (if x1 = 2 then (if (S.1 1 0 7) = 12 then (wpX2_enter x2 S (fun r4 S4 => if r4 = 0 then (K S4) else (F 0 2 (x2 + 1) S4 (fun S6 => wpX2_emit (-12) S6 (fun S7 => K S7))))) else (wbX2_readLevel_48 F K x1 x2 S)) else (wbX2_readLevel_48 F K x1 x2 S)) else (F 1 x2 0 S (fun S8 => K S8))
set_option maxRecDepth 4000 in
theorem bX2_readLevel {p : Program} {l : Launch} {e : Env} {R : Room} {s : State} {m : MethodId} {args : Array Value} {below : List Frame} {meth : Method} {c : Code} {D : va_G} {ad : Nat → Nat → Nat} {cs : Nat → ClassId} {P : Nat → Nat → Prop} {sz tU : Nat} {adK adV : Nat → Nat} {F : Nat → Int32 → Int32 → St → (St → Prop) → Prop} {d : Nat} {K : St → Prop} {x1 : Int32} {x2 : Int32} {S : St} {H : Heap} {locs : List Loc} {ls : Array Slot} (E : Ex p s m args meth c R RX2 cX2_readLevel 6 none (10 + (d + 1)) (250 + 25 * (d + 1)) D ad cs P (wA ad P) tU adK adV cnB) (hF0 : ∀ {x1 : Int32} {x2 : Int32} {S : St} {K : St → Prop}, F 0 x1 x2 S K → MV l yX2_readLevel cX2_readLevel 6 none (10 + d) (250 + 25 * d) D ad cs P sz tU adK adV [.ref (ad 1 0), .int x1, .int x2] S K) (hF1 : ∀ {x1 : Int32} {S : St} {K : St → Prop}, F 1 x1 0 S K → MV l yX2_readOne cX2_readOne 2 none (10 + d) (250 + 25 * d) D ad cs P sz tU adK adV [.ref (ad 1 0), .int x1] S K) (hw : wpX2_readLevel F x1 x2 S K) (hh : wH D ad cs P (wA ad P) s.heap sz S H locs) (hl : lv_has ls 6 [(0, .ref (ad 1 0)), (1, .int x1), (2, .int x2)]) : W p l e R s m args below meth c H locs 0 0 (MQ below (va_Qv K (QX D ad cs P sz) (wA ad P)) args s 0 0 (wA ad P)) (F0 m 0 ls []) := by
  have hx := E.hx
  have hb := E.hb
  refine lv_iload_n hx hb dX2_readLevel_0 rfl (lv_at hl 1 rfl) ?_
  refine lv_iconst (v := 4) hx hb dX2_readLevel_1 (by decide) ?_
  refine lv_icmp_le (tgt := 11) hx hb dX2_readLevel_2 (by decide) (fun c1 => ?_) (fun c1 => ?_)
  · have hw := ifT hw c1
    refine lv_iload_n hx hb dX2_readLevel_11 rfl (lv_at hl 1 rfl) ?_
    refine lv_iconst (v := 2) hx hb dX2_readLevel_12 (by decide) ?_
    refine lv_icmp_ne (tgt := 48) hx hb dX2_readLevel_13 (by decide) (fun c2 => ?_) (fun c2 => ?_)
    · have hw := ifF hw c2
      exact bX2_readLevel_48 E hF0 hF1 hw hh (lv_sub hl [0, 1, 2] rfl)
    · have hw := ifT hw c2
      refine lv_aload_n hx hb dX2_readLevel_16 rfl (lv_at hl 0 rfl) ?_
      refine g_1_7 E hh tb41 (E.hn 1 0 (by decide)) dX2_readLevel_17 ?_
      refine lv_bipush (v := 12) hx hb dX2_readLevel_20 (by decide) ?_
      refine lv_icmp_ne (tgt := 48) hx hb dX2_readLevel_22 (by decide) (fun c3 => ?_) (fun c3 => ?_)
      · have hw := ifF hw c3
        exact bX2_readLevel_48 E hF0 hF1 hw hh (lv_sub hl [0, 1, 2] rfl)
      · have hw := ifT hw c3
        refine lv_aload_n hx hb dX2_readLevel_25 rfl (lv_at hl 0 rfl) ?_
        refine lv_iload_n hx hb dX2_readLevel_26 rfl (lv_at hl 2 rfl) ?_
        refine x_ci E.hA hh (x_runV E hh (mX2_enter E.hI E.hn hw) kX2_enter tb283 (E.hn 1 0 (by decide)) rv_1 ⟨by omega, by omega⟩ rfl hl.1 rfl (Nat.le_of_ble_eq_true rfl) dX2_readLevel_27 ⟨Nat.zero_le _, Nat.zero_le _⟩) (fun r4 S4 H locs hw hh => ?_)
        have hq4 := hw.2
        have hw := hw.1
        refine lv_if_eq (tgt := 47) hx hb dX2_readLevel_30 (by decide) (fun c5 => ?_) (fun c5 => ?_)
        · have hw := ifT hw c5
          exact x_vret E hh hw dX2_readLevel_47
        · have hw := ifF hw c5
          refine lv_aload_n hx hb dX2_readLevel_33 rfl (lv_at hl 0 rfl) ?_
          refine lv_iconst (v := 2) hx hb dX2_readLevel_34 (by decide) ?_
          refine lv_iload_n hx hb dX2_readLevel_35 rfl (lv_at hl 2 rfl) ?_
          refine lv_iconst (v := 1) hx hb dX2_readLevel_36 (by decide) ?_
          refine lv_iadd hx hb dX2_readLevel_37 ?_
          refine x_cv E.hA hh (x_runV E hh (hF0 hw) kX2_readLevel tb271 (E.hn 1 0 (by decide)) rv_1 ⟨by omega, by omega⟩ rfl hl.1 rfl (Nat.le_of_ble_eq_true rfl) dX2_readLevel_38 ⟨Nat.zero_le _, Nat.zero_le _⟩) (fun S6 H locs hw hh => ?_)
          refine lv_aload_n hx hb dX2_readLevel_41 rfl (lv_at hl 0 rfl) ?_
          refine lv_bipush (v := (-12)) hx hb dX2_readLevel_42 (by decide) ?_
          refine x_cv E.hA hh (x_runV E hh (mX2_emit E.hI E.hn hw) kX2_emit tb279 (E.hn 1 0 (by decide)) rv_1 ⟨by omega, by omega⟩ rfl hl.1 rfl (Nat.le_of_ble_eq_true rfl) dX2_readLevel_44 ⟨Nat.zero_le _, Nat.zero_le _⟩) (fun S7 H locs hw hh => ?_)
          exact x_vret E hh hw dX2_readLevel_47
  · have hw := ifF hw c1
    refine lv_aload_n hx hb dX2_readLevel_5 rfl (lv_at hl 0 rfl) ?_
    refine lv_iload_n hx hb dX2_readLevel_6 rfl (lv_at hl 2 rfl) ?_
    refine x_cv E.hA hh (x_runV E hh (hF1 hw) kX2_readOne tb275 (E.hn 1 0 (by decide)) rv_1 ⟨by omega, by omega⟩ rfl hl.1 rfl (Nat.le_of_ble_eq_true rfl) dX2_readLevel_7 ⟨Nat.zero_le _, Nat.zero_le _⟩) (fun S8 H locs hw hh => ?_)
    exact x_vret E hh hw dX2_readLevel_10
def wbX2_readOne_55 (F : Nat → Int32 → Int32 → St → (St → Prop) → Prop) (K : St → Prop) (x1 : Int32) (S : St) : Prop := if (S.1 1 0 7) = 45 then (wpX2_enter x1 S (fun r15 S15 => if r15 = 0 then (K S15) else (F 1 (x1 + 1) 0 S15 (fun S17 => wpX2_emit (-13) S17 (fun S18 => K S18))))) else (if (S.1 1 0 7) = 40 then (wpX2_enter x1 S (fun r11 S11 => if r11 = 0 then (K S11) else (F 0 0 (x1 + 1) S11 (fun S13 => wpX2_expect 41 S13 (fun S14 => K S14))))) else (wpX2_fail S (fun S10 => K S10)))
set_option maxRecDepth 4000 in
theorem bX2_readOne_55 {p : Program} {l : Launch} {e : Env} {R : Room} {s : State} {m : MethodId} {args : Array Value} {below : List Frame} {meth : Method} {c : Code} {D : va_G} {ad : Nat → Nat → Nat} {cs : Nat → ClassId} {P : Nat → Nat → Prop} {sz tU : Nat} {adK adV : Nat → Nat} {F : Nat → Int32 → Int32 → St → (St → Prop) → Prop} {d : Nat} {K : St → Prop} {x1 : Int32} {S : St} {H : Heap} {locs : List Loc} {ls : Array Slot} (E : Ex p s m args meth c R RX2 cX2_readOne 2 none (10 + (d + 1)) (250 + 25 * (d + 1)) D ad cs P (wA ad P) tU adK adV cnB) (hF0 : ∀ {x1 : Int32} {x2 : Int32} {S : St} {K : St → Prop}, F 0 x1 x2 S K → MV l yX2_readLevel cX2_readLevel 6 none (10 + d) (250 + 25 * d) D ad cs P sz tU adK adV [.ref (ad 1 0), .int x1, .int x2] S K) (hF1 : ∀ {x1 : Int32} {S : St} {K : St → Prop}, F 1 x1 0 S K → MV l yX2_readOne cX2_readOne 2 none (10 + d) (250 + 25 * d) D ad cs P sz tU adK adV [.ref (ad 1 0), .int x1] S K) (hw : wbX2_readOne_55 F K x1 S) (hh : wH D ad cs P (wA ad P) s.heap sz S H locs) (hl : lv_has ls 2 [(0, .ref (ad 1 0)), (1, .int x1)]) : W p l e R s m args below meth c H locs 0 0 (MQ below (va_Qv K (QX D ad cs P sz) (wA ad P)) args s 0 0 (wA ad P)) (F0 m 55 ls []) := by
  have hx := E.hx
  have hb := E.hb
  refine lv_aload_n hx hb dX2_readOne_55 rfl (lv_at hl 0 rfl) ?_
  refine g_1_7 E hh tb41 (E.hn 1 0 (by decide)) dX2_readOne_56 ?_
  refine lv_bipush (v := 45) hx hb dX2_readOne_59 (by decide) ?_
  refine lv_icmp_ne (tgt := 88) hx hb dX2_readOne_61 (by decide) (fun c8 => ?_) (fun c8 => ?_)
  · have hw := ifF hw c8
    refine lv_aload_n hx hb dX2_readOne_88 rfl (lv_at hl 0 rfl) ?_
    refine g_1_7 E hh tb41 (E.hn 1 0 (by decide)) dX2_readOne_89 ?_
    refine lv_bipush (v := 40) hx hb dX2_readOne_92 (by decide) ?_
    refine lv_icmp_ne (tgt := 122) hx hb dX2_readOne_94 (by decide) (fun c9 => ?_) (fun c9 => ?_)
    · have hw := ifF hw c9
      refine lv_aload_n hx hb dX2_readOne_122 rfl (lv_at hl 0 rfl) ?_
      refine x_cv E.hA hh (x_runV E hh (mX2_fail E.hI E.hn hw) kX2_fail tb267 (E.hn 1 0 (by decide)) rv_1 ⟨by omega, by omega⟩ rfl hl.1 rfl (Nat.le_of_ble_eq_true rfl) dX2_readOne_123 ⟨Nat.zero_le _, Nat.zero_le _⟩) (fun S10 H locs hw hh => ?_)
      exact x_vret E hh hw dX2_readOne_126
    · have hw := ifT hw c9
      refine lv_aload_n hx hb dX2_readOne_97 rfl (lv_at hl 0 rfl) ?_
      refine lv_iload_n hx hb dX2_readOne_98 rfl (lv_at hl 1 rfl) ?_
      refine x_ci E.hA hh (x_runV E hh (mX2_enter E.hI E.hn hw) kX2_enter tb283 (E.hn 1 0 (by decide)) rv_1 ⟨by omega, by omega⟩ rfl hl.1 rfl (Nat.le_of_ble_eq_true rfl) dX2_readOne_99 ⟨Nat.zero_le _, Nat.zero_le _⟩) (fun r11 S11 H locs hw hh => ?_)
      have hq11 := hw.2
      have hw := hw.1
      refine lv_if_eq (tgt := 126) hx hb dX2_readOne_102 (by decide) (fun c12 => ?_) (fun c12 => ?_)
      · have hw := ifT hw c12
        exact x_vret E hh hw dX2_readOne_126
      · have hw := ifF hw c12
        refine lv_aload_n hx hb dX2_readOne_105 rfl (lv_at hl 0 rfl) ?_
        refine lv_iconst (v := 0) hx hb dX2_readOne_106 (by decide) ?_
        refine lv_iload_n hx hb dX2_readOne_107 rfl (lv_at hl 1 rfl) ?_
        refine lv_iconst (v := 1) hx hb dX2_readOne_108 (by decide) ?_
        refine lv_iadd hx hb dX2_readOne_109 ?_
        refine x_cv E.hA hh (x_runV E hh (hF0 hw) kX2_readLevel tb271 (E.hn 1 0 (by decide)) rv_1 ⟨by omega, by omega⟩ rfl hl.1 rfl (Nat.le_of_ble_eq_true rfl) dX2_readOne_110 ⟨Nat.zero_le _, Nat.zero_le _⟩) (fun S13 H locs hw hh => ?_)
        refine lv_aload_n hx hb dX2_readOne_113 rfl (lv_at hl 0 rfl) ?_
        refine lv_bipush (v := 41) hx hb dX2_readOne_114 (by decide) ?_
        refine x_cv E.hA hh (x_runV E hh (mX2_expect E.hI E.hn hw) kX2_expect tb263 (E.hn 1 0 (by decide)) rv_1 ⟨by omega, by omega⟩ rfl hl.1 rfl (Nat.le_of_ble_eq_true rfl) dX2_readOne_116 ⟨Nat.zero_le _, Nat.zero_le _⟩) (fun S14 H locs hw hh => ?_)
        refine lv_goto (tgt := 126) hx hb dX2_readOne_119 (by decide) ?_
        exact x_vret E hh hw dX2_readOne_126
  · have hw := ifT hw c8
    refine lv_aload_n hx hb dX2_readOne_64 rfl (lv_at hl 0 rfl) ?_
    refine lv_iload_n hx hb dX2_readOne_65 rfl (lv_at hl 1 rfl) ?_
    refine x_ci E.hA hh (x_runV E hh (mX2_enter E.hI E.hn hw) kX2_enter tb283 (E.hn 1 0 (by decide)) rv_1 ⟨by omega, by omega⟩ rfl hl.1 rfl (Nat.le_of_ble_eq_true rfl) dX2_readOne_66 ⟨Nat.zero_le _, Nat.zero_le _⟩) (fun r15 S15 H locs hw hh => ?_)
    have hq15 := hw.2
    have hw := hw.1
    refine lv_if_eq (tgt := 126) hx hb dX2_readOne_69 (by decide) (fun c16 => ?_) (fun c16 => ?_)
    · have hw := ifT hw c16
      exact x_vret E hh hw dX2_readOne_126
    · have hw := ifF hw c16
      refine lv_aload_n hx hb dX2_readOne_72 rfl (lv_at hl 0 rfl) ?_
      refine lv_iload_n hx hb dX2_readOne_73 rfl (lv_at hl 1 rfl) ?_
      refine lv_iconst (v := 1) hx hb dX2_readOne_74 (by decide) ?_
      refine lv_iadd hx hb dX2_readOne_75 ?_
      refine x_cv E.hA hh (x_runV E hh (hF1 hw) kX2_readOne tb275 (E.hn 1 0 (by decide)) rv_1 ⟨by omega, by omega⟩ rfl hl.1 rfl (Nat.le_of_ble_eq_true rfl) dX2_readOne_76 ⟨Nat.zero_le _, Nat.zero_le _⟩) (fun S17 H locs hw hh => ?_)
      refine lv_aload_n hx hb dX2_readOne_79 rfl (lv_at hl 0 rfl) ?_
      refine lv_bipush (v := (-13)) hx hb dX2_readOne_80 (by decide) ?_
      refine x_cv E.hA hh (x_runV E hh (mX2_emit E.hI E.hn hw) kX2_emit tb279 (E.hn 1 0 (by decide)) rv_1 ⟨by omega, by omega⟩ rfl hl.1 rfl (Nat.le_of_ble_eq_true rfl) dX2_readOne_82 ⟨Nat.zero_le _, Nat.zero_le _⟩) (fun S18 H locs hw hh => ?_)
      refine lv_goto (tgt := 126) hx hb dX2_readOne_85 (by decide) ?_
      exact x_vret E hh hw dX2_readOne_126
def wpX2_readOne (F : Nat → Int32 → Int32 → St → (St → Prop) → Prop) (x1 : Int32) (S : St) (K : St → Prop) : Prop := if (S.1 1 0 7) = 0 then (wpX2_emit (S.1 1 0 8) S (fun S6 => wpX2_advance S6 (fun S7 => K S7))) else (if (S.1 1 0 7) < 1 then (wbX2_readOne_55 F K x1 S) else (if 6 < (S.1 1 0 7) then (wbX2_readOne_55 F K x1 S) else (wpX2_emit (-(S.1 1 0 7)) S (fun S4 => wpX2_advance S4 (fun S5 => K S5)))))
set_option maxRecDepth 4000 in
theorem bX2_readOne {p : Program} {l : Launch} {e : Env} {R : Room} {s : State} {m : MethodId} {args : Array Value} {below : List Frame} {meth : Method} {c : Code} {D : va_G} {ad : Nat → Nat → Nat} {cs : Nat → ClassId} {P : Nat → Nat → Prop} {sz tU : Nat} {adK adV : Nat → Nat} {F : Nat → Int32 → Int32 → St → (St → Prop) → Prop} {d : Nat} {K : St → Prop} {x1 : Int32} {S : St} {H : Heap} {locs : List Loc} {ls : Array Slot} (E : Ex p s m args meth c R RX2 cX2_readOne 2 none (10 + (d + 1)) (250 + 25 * (d + 1)) D ad cs P (wA ad P) tU adK adV cnB) (hF0 : ∀ {x1 : Int32} {x2 : Int32} {S : St} {K : St → Prop}, F 0 x1 x2 S K → MV l yX2_readLevel cX2_readLevel 6 none (10 + d) (250 + 25 * d) D ad cs P sz tU adK adV [.ref (ad 1 0), .int x1, .int x2] S K) (hF1 : ∀ {x1 : Int32} {S : St} {K : St → Prop}, F 1 x1 0 S K → MV l yX2_readOne cX2_readOne 2 none (10 + d) (250 + 25 * d) D ad cs P sz tU adK adV [.ref (ad 1 0), .int x1] S K) (hw : wpX2_readOne F x1 S K) (hh : wH D ad cs P (wA ad P) s.heap sz S H locs) (hl : lv_has ls 2 [(0, .ref (ad 1 0)), (1, .int x1)]) : W p l e R s m args below meth c H locs 0 0 (MQ below (va_Qv K (QX D ad cs P sz) (wA ad P)) args s 0 0 (wA ad P)) (F0 m 0 ls []) := by
  have hx := E.hx
  have hb := E.hb
  refine lv_aload_n hx hb dX2_readOne_0 rfl (lv_at hl 0 rfl) ?_
  refine g_1_7 E hh tb41 (E.hn 1 0 (by decide)) dX2_readOne_1 ?_
  refine lv_if_ne (tgt := 22) hx hb dX2_readOne_4 (by decide) (fun c1 => ?_) (fun c1 => ?_)
  · have hw := ifF hw c1
    refine lv_aload_n hx hb dX2_readOne_22 rfl (lv_at hl 0 rfl) ?_
    refine g_1_7 E hh tb41 (E.hn 1 0 (by decide)) dX2_readOne_23 ?_
    refine lv_iconst (v := 1) hx hb dX2_readOne_26 (by decide) ?_
    refine lv_icmp_lt (tgt := 55) hx hb dX2_readOne_27 (by decide) (fun c2 => ?_) (fun c2 => ?_)
    · have hw := ifT hw c2
      exact bX2_readOne_55 E hF0 hF1 hw hh (lv_sub hl [0, 1] rfl)
    · have hw := ifF hw c2
      refine lv_aload_n hx hb dX2_readOne_30 rfl (lv_at hl 0 rfl) ?_
      refine g_1_7 E hh tb41 (E.hn 1 0 (by decide)) dX2_readOne_31 ?_
      refine lv_bipush (v := 6) hx hb dX2_readOne_34 (by decide) ?_
      refine lv_icmp_gt (tgt := 55) hx hb dX2_readOne_36 (by decide) (fun c3 => ?_) (fun c3 => ?_)
      · have hw := ifT hw c3
        exact bX2_readOne_55 E hF0 hF1 hw hh (lv_sub hl [0, 1] rfl)
      · have hw := ifF hw c3
        refine lv_aload_n hx hb dX2_readOne_39 rfl (lv_at hl 0 rfl) ?_
        refine lv_aload_n hx hb dX2_readOne_40 rfl (lv_at hl 0 rfl) ?_
        refine g_1_7 E hh tb41 (E.hn 1 0 (by decide)) dX2_readOne_41 ?_
        refine lv_ineg hx hb dX2_readOne_44 ?_
        refine x_cv E.hA hh (x_runV E hh (mX2_emit E.hI E.hn hw) kX2_emit tb279 (E.hn 1 0 (by decide)) rv_1 ⟨by omega, by omega⟩ rfl hl.1 rfl (Nat.le_of_ble_eq_true rfl) dX2_readOne_45 ⟨Nat.zero_le _, Nat.zero_le _⟩) (fun S4 H locs hw hh => ?_)
        refine lv_aload_n hx hb dX2_readOne_48 rfl (lv_at hl 0 rfl) ?_
        refine x_cv E.hA hh (x_runV E hh (mX2_advance E.hI E.hn hw) kX2_advance tb221 (E.hn 1 0 (by decide)) rv_1 ⟨by omega, by omega⟩ rfl hl.1 rfl (Nat.le_of_ble_eq_true rfl) dX2_readOne_49 ⟨Nat.zero_le _, Nat.zero_le _⟩) (fun S5 H locs hw hh => ?_)
        refine lv_goto (tgt := 126) hx hb dX2_readOne_52 (by decide) ?_
        exact x_vret E hh hw dX2_readOne_126
  · have hw := ifT hw c1
    refine lv_aload_n hx hb dX2_readOne_7 rfl (lv_at hl 0 rfl) ?_
    refine lv_aload_n hx hb dX2_readOne_8 rfl (lv_at hl 0 rfl) ?_
    refine g_1_8 E hh tb42 (E.hn 1 0 (by decide)) dX2_readOne_9 ?_
    refine x_cv E.hA hh (x_runV E hh (mX2_emit E.hI E.hn hw) kX2_emit tb279 (E.hn 1 0 (by decide)) rv_1 ⟨by omega, by omega⟩ rfl hl.1 rfl (Nat.le_of_ble_eq_true rfl) dX2_readOne_12 ⟨Nat.zero_le _, Nat.zero_le _⟩) (fun S6 H locs hw hh => ?_)
    refine lv_aload_n hx hb dX2_readOne_15 rfl (lv_at hl 0 rfl) ?_
    refine x_cv E.hA hh (x_runV E hh (mX2_advance E.hI E.hn hw) kX2_advance tb221 (E.hn 1 0 (by decide)) rv_1 ⟨by omega, by omega⟩ rfl hl.1 rfl (Nat.le_of_ble_eq_true rfl) dX2_readOne_16 ⟨Nat.zero_le _, Nat.zero_le _⟩) (fun S7 H locs hw hh => ?_)
    refine lv_goto (tgt := 126) hx hb dX2_readOne_19 (by decide) ?_
    exact x_vret E hh hw dX2_readOne_126
def wpG0 : Nat → Nat → Int32 → Int32 → St → (St → Prop) → Prop
  | 0 => fun _ _ _ _ _ => False
  | d + 1 => fun tag x1 x2 S K => if tag = 0 then wpX2_readLevel (wpG0 d) x1 x2 S K else wpX2_readOne (wpG0 d) x1 S K
theorem mG0 {l : Launch} {D : va_G} {ad : Nat → Nat → Nat} {cs : Nat → ClassId} {P : Nat → Nat → Prop} {sz tU : Nat} {adK adV : Nat → Nat} (hI : wI ad P) (hn : ∀ kd i, i < cnB kd → P kd i) : ∀ d : Nat, (∀ {x1 : Int32} {x2 : Int32} {S : St} {K : St → Prop}, wpG0 d 0 x1 x2 S K → MV l yX2_readLevel cX2_readLevel 6 none (10 + d) (250 + 25 * d) D ad cs P sz tU adK adV [.ref (ad 1 0), .int x1, .int x2] S K) ∧ (∀ {x1 : Int32} {S : St} {K : St → Prop}, wpG0 d 1 x1 0 S K → MV l yX2_readOne cX2_readOne 2 none (10 + d) (250 + 25 * d) D ad cs P sz tU adK adV [.ref (ad 1 0), .int x1] S K) := by
  intro d
  induction d with
  | zero => exact ⟨(fun hw => hw.elim), (fun hw => hw.elim)⟩
  | succ d ih =>
    obtain ⟨hF0, hF1⟩ := ih
    refine ⟨?_, ?_⟩
    · intro x1 x2 S K  hw
      have hw : if (0 : Nat) = 0 then wpX2_readLevel (wpG0 d) x1 x2 S K else wpX2_readOne (wpG0 d) x1 S K := hw
      rw [if_pos rfl] at hw
      exact Met_of (by decide) (Nat.le_of_ble_eq_true rfl) hI hn (fun p e R s m args below meth c ls E hl hh => bX2_readLevel E @hF0 @hF1  hw hh (lv_sub hl [0, 1, 2] rfl))
    · intro x1 S K  hw
      have hw : if (1 : Nat) = 0 then wpX2_readLevel (wpG0 d) x1 0 S K else wpX2_readOne (wpG0 d) x1 S K := hw
      rw [if_neg (by decide)] at hw
      exact Met_of (by decide) (Nat.le_of_ble_eq_true rfl) hI hn (fun p e R s m args below meth c ls E hl hh => bX2_readOne E @hF0 @hF1  hw hh (lv_sub hl [0, 1] rfl))
theorem mG0_X2_readLevel {l : Launch} {D : va_G} {ad : Nat → Nat → Nat} {cs : Nat → ClassId} {P : Nat → Nat → Prop} {sz tU : Nat} {adK adV : Nat → Nat} {x1 : Int32} {x2 : Int32} {S : St} {K : St → Prop} (hI : wI ad P) (hn : ∀ kd i, i < cnB kd → P kd i) (d : Nat) (hw : wpG0 d 0 x1 x2 S K) : MV l yX2_readLevel cX2_readLevel 6 none (10 + d) (250 + 25 * d) D ad cs P sz tU adK adV [.ref (ad 1 0), .int x1, .int x2] S K := (mG0 hI hn d).1  hw
theorem mG0_X2_readOne {l : Launch} {D : va_G} {ad : Nat → Nat → Nat} {cs : Nat → ClassId} {P : Nat → Nat → Prop} {sz tU : Nat} {adK adV : Nat → Nat} {x1 : Int32} {S : St} {K : St → Prop} (hI : wI ad P) (hn : ∀ kd i, i < cnB kd → P kd i) (d : Nat) (hw : wpG0 d 1 x1 0 S K) : MV l yX2_readOne cX2_readOne 2 none (10 + d) (250 + 25 * d) D ad cs P sz tU adK adV [.ref (ad 1 0), .int x1] S K := (mG0 hI hn d).2  hw
def wbX2_read_21 (K : Int32 → St → Prop) : Nat → Int32 → St → Prop
  | 0, _, _ => False
  | n + 1, x1, S => if 3 ≤ x1 then (wpX2_expect (-1) S (fun S6 => K (S6.1 1 0 9) S6)) else (wpX2_expect (7 + x1) S (fun S7 => wpG0 60 0 0 0 S7 (fun S8 => wpX2_expect 59 S8 (fun S9 => (vp_in x1 3 ∧ ∀ S10, S10 = su S9 3 0 x1.toNatClampNeg (S9.1 1 0 4) → wbX2_read_21 K n (x1 + 1) S10)))))
set_option maxRecDepth 4000 in
theorem bX2_read_21 {p : Program} {l : Launch} {e : Env} {R : Room} {s : State} {m : MethodId} {args : Array Value} {below : List Frame} {meth : Method} {c : Code} {D : va_G} {ad : Nat → Nat → Nat} {cs : Nat → ClassId} {P : Nat → Nat → Prop} {sz tU : Nat} {adK adV : Nat → Nat} {K : Int32 → St → Prop} (E : Ex p s m args meth c R RX2 cX2_read 2 (some .int) 71 1775 D ad cs P (wA ad P) tU adK adV cnB) : ∀ (n : Nat) (x1 : Int32) (S : St) (H : Heap) (locs : List Loc) (ls : Array Slot), wbX2_read_21 K n x1 S → wH D ad cs P (wA ad P) s.heap sz S H locs → lv_has ls 2 [(0, .ref (ad 1 0)), (1, .int x1)] → W p l e R s m args below meth c H locs 0 0 (MQ below (va_Qi K (QX D ad cs P sz) (wA ad P)) args s 0 0 (wA ad P)) (F0 m 21 ls []) := by
  have hx := E.hx
  have hb := E.hb
  intro n
  induction n with
  | zero => intro x1 S H locs ls hw hh hl; exact hw.elim
  | succ n ih =>
    intro x1 S H locs ls hw hh hl
    refine lv_iload_n hx hb dX2_read_21 rfl (lv_at hl 1 rfl) ?_
    refine lv_iconst (v := 3) hx hb dX2_read_22 (by decide) ?_
    refine lv_icmp_ge (tgt := 62) hx hb dX2_read_23 (by decide) (fun c5 => ?_) (fun c5 => ?_)
    · have hw := ifT hw c5
      refine lv_aload_n hx hb dX2_read_62 rfl (lv_at hl 0 rfl) ?_
      refine lv_iconst (v := (-1)) hx hb dX2_read_63 (by decide) ?_
      refine x_cv E.hA hh (x_runV E hh (mX2_expect E.hI E.hn hw) kX2_expect tb263 (E.hn 1 0 (by decide)) rv_1 ⟨by decide, by decide⟩ rfl hl.1 rfl (Nat.le_of_ble_eq_true rfl) dX2_read_64 ⟨Nat.zero_le _, Nat.zero_le _⟩) (fun S6 H locs hw hh => ?_)
      refine lv_aload_n hx hb dX2_read_67 rfl (lv_at hl 0 rfl) ?_
      refine g_1_9 E hh tb43 (E.hn 1 0 (by decide)) dX2_read_68 ?_
      exact x_iret E hh hw dX2_read_71
    · have hw := ifF hw c5
      refine lv_aload_n hx hb dX2_read_26 rfl (lv_at hl 0 rfl) ?_
      refine lv_bipush (v := 7) hx hb dX2_read_27 (by decide) ?_
      refine lv_iload_n hx hb dX2_read_29 rfl (lv_at hl 1 rfl) ?_
      refine lv_iadd hx hb dX2_read_30 ?_
      refine x_cv E.hA hh (x_runV E hh (mX2_expect E.hI E.hn hw) kX2_expect tb263 (E.hn 1 0 (by decide)) rv_1 ⟨by decide, by decide⟩ rfl hl.1 rfl (Nat.le_of_ble_eq_true rfl) dX2_read_31 ⟨Nat.zero_le _, Nat.zero_le _⟩) (fun S7 H locs hw hh => ?_)
      refine lv_aload_n hx hb dX2_read_34 rfl (lv_at hl 0 rfl) ?_
      refine lv_iconst (v := 0) hx hb dX2_read_35 (by decide) ?_
      refine lv_iconst (v := 0) hx hb dX2_read_36 (by decide) ?_
      refine x_cv E.hA hh (x_runV E hh (mG0_X2_readLevel E.hI E.hn 60 hw) kX2_readLevel tb271 (E.hn 1 0 (by decide)) rv_1 ⟨by decide, by decide⟩ rfl hl.1 rfl (Nat.le_of_ble_eq_true rfl) dX2_read_37 ⟨Nat.zero_le _, Nat.zero_le _⟩) (fun S8 H locs hw hh => ?_)
      refine lv_aload_n hx hb dX2_read_40 rfl (lv_at hl 0 rfl) ?_
      refine lv_bipush (v := 59) hx hb dX2_read_41 (by decide) ?_
      refine x_cv E.hA hh (x_runV E hh (mX2_expect E.hI E.hn hw) kX2_expect tb263 (E.hn 1 0 (by decide)) rv_1 ⟨by decide, by decide⟩ rfl hl.1 rfl (Nat.le_of_ble_eq_true rfl) dX2_read_43 ⟨Nat.zero_le _, Nat.zero_le _⟩) (fun S9 H locs hw hh => ?_)
      refine lv_aload_n hx hb dX2_read_46 rfl (lv_at hl 0 rfl) ?_
      refine g_1_1 E hh tb33 (E.hn 1 0 (by decide)) dX2_read_47 ?_
      refine lv_iload_n hx hb dX2_read_50 rfl (lv_at hl 1 rfl) ?_
      refine lv_aload_n hx hb dX2_read_51 rfl (lv_at hl 0 rfl) ?_
      refine g_1_4 E hh tb38 (E.hn 1 0 (by decide)) dX2_read_52 ?_
      obtain ⟨hi10, hw⟩ := hw
      refine x_iast E hh (E.hn 3 0 (by decide)) ly_3 hi10 dX2_read_55 (fun S10 H locs e10 hh => ?_)
      have hw := hw S10 e10
      refine lv_iinc (k := 1) (v := x1 + 1) (lv' := [(1, .int (x1 + 1)), (0, .ref (ad 1 0))]) hx hb dX2_read_56 hl rfl rfl (by decide) rfl (fun ls hl => ?_)
      refine lv_goto (tgt := 21) hx hb dX2_read_59 (by decide) ?_
      exact ih (x1 + 1) S10 _ _ _ hw hh (lv_sub hl [1, 0] rfl)
def wpX2_read (S : St) (K : Int32 → St → Prop) : Prop := (∀ S1, S1 = su S 1 0 4 0 → (∀ S2, S2 = su S1 1 0 5 0 → (∀ S3, S3 = su S2 1 0 9 (-1) → wpX2_advance S3 (fun S4 => ∃ k, wbX2_read_21 K k 0 S4))))
set_option maxRecDepth 4000 in
theorem bX2_read {p : Program} {l : Launch} {e : Env} {R : Room} {s : State} {m : MethodId} {args : Array Value} {below : List Frame} {meth : Method} {c : Code} {D : va_G} {ad : Nat → Nat → Nat} {cs : Nat → ClassId} {P : Nat → Nat → Prop} {sz tU : Nat} {adK adV : Nat → Nat} {K : Int32 → St → Prop} {S : St} {H : Heap} {locs : List Loc} {ls : Array Slot} (E : Ex p s m args meth c R RX2 cX2_read 2 (some .int) 71 1775 D ad cs P (wA ad P) tU adK adV cnB) (hw : wpX2_read S K) (hh : wH D ad cs P (wA ad P) s.heap sz S H locs) (hl : lv_has ls 2 [(0, .ref (ad 1 0))]) : W p l e R s m args below meth c H locs 0 0 (MQ below (va_Qi K (QX D ad cs P sz) (wA ad P)) args s 0 0 (wA ad P)) (F0 m 0 ls []) := by
  have hx := E.hx
  have hb := E.hb
  refine lv_aload_n hx hb dX2_read_0 rfl (lv_at hl 0 rfl) ?_
  refine lv_iconst (v := 0) hx hb dX2_read_1 (by decide) ?_
  refine p_1_4 E hh tb38 (E.hn 1 0 (by decide)) dX2_read_2 (fun S1 H locs e1 hh => ?_)
  have hw := hw S1 e1
  refine lv_aload_n hx hb dX2_read_5 rfl (lv_at hl 0 rfl) ?_
  refine lv_iconst (v := 0) hx hb dX2_read_6 (by decide) ?_
  refine p_1_5 E hh tb39 (E.hn 1 0 (by decide)) dX2_read_7 (fun S2 H locs e2 hh => ?_)
  have hw := hw S2 e2
  refine lv_aload_n hx hb dX2_read_10 rfl (lv_at hl 0 rfl) ?_
  refine lv_iconst (v := (-1)) hx hb dX2_read_11 (by decide) ?_
  refine p_1_9 E hh tb43 (E.hn 1 0 (by decide)) dX2_read_12 (fun S3 H locs e3 hh => ?_)
  have hw := hw S3 e3
  refine lv_aload_n hx hb dX2_read_15 rfl (lv_at hl 0 rfl) ?_
  refine x_cv E.hA hh (x_runV E hh (mX2_advance E.hI E.hn hw) kX2_advance tb221 (E.hn 1 0 (by decide)) rv_1 ⟨by decide, by decide⟩ rfl hl.1 rfl (Nat.le_of_ble_eq_true rfl) dX2_read_16 ⟨Nat.zero_le _, Nat.zero_le _⟩) (fun S4 H locs hw hh => ?_)
  refine lv_iconst (v := 0) hx hb dX2_read_19 (by decide) ?_
  refine lv_istore_n (lv' := [(1, .int 0), (0, .ref (ad 1 0))]) hx hb dX2_read_20 rfl hl (by decide) rfl (fun ls hl => ?_)
  obtain ⟨k, hw⟩ := hw
  exact bX2_read_21 E k 0 S4 _ _ _ hw hh (lv_sub hl [1, 0] rfl)
theorem kX2_read : kI yX2_read cX2_read 2 (some .int) 0 := ⟨tb218, tb219, tb2, tb220, by decide, by decide, by decide +kernel⟩
theorem mX2_read {l : Launch} {D : va_G} {ad : Nat → Nat → Nat} {cs : Nat → ClassId} {P : Nat → Nat → Prop} {sz tU : Nat} {adK adV : Nat → Nat} {S : St} {K : Int32 → St → Prop} (hI : wI ad P) (hn : ∀ kd i, i < cnB kd → P kd i) (hw : wpX2_read S K) : MI l yX2_read cX2_read 2 (some .int) 71 1775 D ad cs P sz tU adK adV [.ref (ad 1 0)] S K :=
  Met_of (by decide) (Nat.le_of_ble_eq_true rfl) hI hn (fun p e R s m args below meth c ls E hl hh => bX2_read E  hw hh (lv_sub hl [0] rfl))
