/-! walks, written by wip/whole/tools/walk.py: 26.walkM3 -/
def wbX8_isLawful_40 (R2 : Int32 → St → Prop) (K : Int32 → St → Prop) (x1 : Int32) (S : St) : Prop := R2 (x1 + 1) S
set_option maxRecDepth 4000 in
theorem bX8_isLawful_40 {p : Program} {l : Launch} {e : Env} {R : Room} {s : State} {m : MethodId} {args : Array Value} {below : List Frame} {meth : Method} {c : Code} {D : va_G} {ad : Nat → Nat → Nat} {cs : Nat → ClassId} {P : Nat → Nat → Prop} {sz tU : Nat} {adK adV : Nat → Nat} {R2 : Int32 → St → Prop} {K : Int32 → St → Prop} {x1 : Int32} {S : St} {H : Heap} {locs : List Loc} {ls : Array Slot} (E : Ex p s m args meth c R RX8 cX8_isLawful 2 (some .boolean) 1 60 D ad cs P (wA ad P) tU adK adV cnM) (hR2 : ∀ (z1 : Int32) (S : St) (H : Heap) (locs : List Loc) (ls : Array Slot), R2 z1 S → wH D ad cs P (wA ad P) s.heap sz S H locs → lv_has ls 2 [(0, .ref (ad 40 0)), (1, .int z1)] → W p l e R s m args below meth c H locs 0 0 (MQ below (va_Qi (fun r S => K r S ∧ narrow .boolean (.int r) = .int r) (QX D ad cs P sz) (wA ad P)) args s 0 0 (wA ad P)) (F0 m 2 ls [])) (hw : wbX8_isLawful_40 R2 K x1 S) (hh : wH D ad cs P (wA ad P) s.heap sz S H locs) (hl : lv_has ls 2 [(0, .ref (ad 40 0)), (1, .int x1)]) : W p l e R s m args below meth c H locs 0 0 (MQ below (va_Qi (fun r S => K r S ∧ narrow .boolean (.int r) = .int r) (QX D ad cs P sz) (wA ad P)) args s 0 0 (wA ad P)) (F0 m 40 ls []) := by
  have hx := E.hx
  have hb := E.hb
  refine lv_iinc (k := 1) (v := x1 + 1) (lv' := [(1, .int (x1 + 1)), (0, .ref (ad 40 0))]) hx hb dX8_isLawful_40 hl rfl rfl (by decide) rfl (fun ls hl => ?_)
  refine lv_goto (tgt := 2) hx hb dX8_isLawful_43 (by decide) ?_
  exact hR2 (x1 + 1) S _ _ _ hw hh (lv_sub hl [1, 0] rfl)
def wbX8_isLawful_2 (K : Int32 → St → Prop) : Nat → Int32 → St → Prop
  | 0, _, _ => False
  | n + 1, x1, S => if (S.1 40 0 7) ≤ x1 then (K 1 S) else ((vp_in x1 4 ∧ if (S.1 56 0 x1.toNatClampNeg) = (-1) then (wbX8_isLawful_40 (fun yx1 S9 => wbX8_isLawful_2 K n yx1 S9) K x1 S) else ((vp_in x1 4 ∧ (vp_in ((4 * x1) + (S.1 56 0 x1.toNatClampNeg)) 16 ∧ if (S.1 58 0 ((4 * x1) + (S.1 56 0 x1.toNatClampNeg)).toNatClampNeg) = 0 then (wbX8_isLawful_40 (fun yx1 S9 => wbX8_isLawful_2 K n yx1 S9) K x1 S) else (K 0 S))))))
set_option maxRecDepth 4000 in
theorem bX8_isLawful_2 {p : Program} {l : Launch} {e : Env} {R : Room} {s : State} {m : MethodId} {args : Array Value} {below : List Frame} {meth : Method} {c : Code} {D : va_G} {ad : Nat → Nat → Nat} {cs : Nat → ClassId} {P : Nat → Nat → Prop} {sz tU : Nat} {adK adV : Nat → Nat} {K : Int32 → St → Prop} (E : Ex p s m args meth c R RX8 cX8_isLawful 2 (some .boolean) 1 60 D ad cs P (wA ad P) tU adK adV cnM) : ∀ (n : Nat) (x1 : Int32) (S : St) (H : Heap) (locs : List Loc) (ls : Array Slot), wbX8_isLawful_2 K n x1 S → wH D ad cs P (wA ad P) s.heap sz S H locs → lv_has ls 2 [(0, .ref (ad 40 0)), (1, .int x1)] → W p l e R s m args below meth c H locs 0 0 (MQ below (va_Qi (fun r S => K r S ∧ narrow .boolean (.int r) = .int r) (QX D ad cs P sz) (wA ad P)) args s 0 0 (wA ad P)) (F0 m 2 ls []) := by
  have hx := E.hx
  have hb := E.hb
  intro n
  induction n with
  | zero => intro x1 S H locs ls hw hh hl; exact hw.elim
  | succ n ih =>
    intro x1 S H locs ls hw hh hl
    refine lv_iload_n hx hb dX8_isLawful_2 rfl (lv_at hl 1 rfl) ?_
    refine lv_aload_n hx hb dX8_isLawful_3 rfl (lv_at hl 0 rfl) ?_
    refine g_40_7 E hh tb741 (E.hn 40 0 (by decide)) dX8_isLawful_4 ?_
    refine lv_icmp_ge (tgt := 46) hx hb dX8_isLawful_7 (by decide) (fun c1 => ?_) (fun c1 => ?_)
    · have hw := ifT hw c1
      refine lv_iconst (v := 1) hx hb dX8_isLawful_46 (by decide) ?_
      exact x_zret E hh hw rfl dX8_isLawful_47
    · have hw := ifF hw c1
      refine lv_aload_n hx hb dX8_isLawful_10 rfl (lv_at hl 0 rfl) ?_
      refine g_40_40 E hh tb774 (E.hn 40 0 (by decide)) dX8_isLawful_11 ?_
      refine lv_iload_n hx hb dX8_isLawful_14 rfl (lv_at hl 1 rfl) ?_
      obtain ⟨hi2, hw⟩ := hw
      refine x_iald E hh (E.hn 56 0 (by decide)) ly_56 hi2 dX8_isLawful_15 ?_
      refine lv_iconst (v := (-1)) hx hb dX8_isLawful_16 (by decide) ?_
      refine lv_icmp_eq (tgt := 40) hx hb dX8_isLawful_17 (by decide) (fun c3 => ?_) (fun c3 => ?_)
      · have hw := ifT hw c3
        exact bX8_isLawful_40 E ih hw hh (lv_sub hl [0, 1] rfl)
      · have hw := ifF hw c3
        refine lv_aload_n hx hb dX8_isLawful_20 rfl (lv_at hl 0 rfl) ?_
        refine g_40_44 E hh tb778 (E.hn 40 0 (by decide)) dX8_isLawful_21 ?_
        refine lv_iconst (v := 4) hx hb dX8_isLawful_24 (by decide) ?_
        refine lv_iload_n hx hb dX8_isLawful_25 rfl (lv_at hl 1 rfl) ?_
        refine lv_imul hx hb dX8_isLawful_26 ?_
        refine lv_aload_n hx hb dX8_isLawful_27 rfl (lv_at hl 0 rfl) ?_
        refine g_40_40 E hh tb774 (E.hn 40 0 (by decide)) dX8_isLawful_28 ?_
        refine lv_iload_n hx hb dX8_isLawful_31 rfl (lv_at hl 1 rfl) ?_
        obtain ⟨hi4, hw⟩ := hw
        refine x_iald E hh (E.hn 56 0 (by decide)) ly_56 hi4 dX8_isLawful_32 ?_
        refine lv_iadd hx hb dX8_isLawful_33 ?_
        obtain ⟨hi5, hw⟩ := hw
        refine x_zald E hh (E.hn 58 0 (by decide)) ly_58 hi5 dX8_isLawful_34 ?_
        refine lv_if_eq (tgt := 40) hx hb dX8_isLawful_35 (by decide) (fun c6 => ?_) (fun c6 => ?_)
        · have hw := ifT hw c6
          exact bX8_isLawful_40 E ih hw hh (lv_sub hl [0, 1] rfl)
        · have hw := ifF hw c6
          refine lv_iconst (v := 0) hx hb dX8_isLawful_38 (by decide) ?_
          exact x_zret E hh hw rfl dX8_isLawful_39
def wpX8_isLawful (S : St) (K : Int32 → St → Prop) : Prop := ∃ k, wbX8_isLawful_2 K k 0 S
set_option maxRecDepth 4000 in
theorem bX8_isLawful {p : Program} {l : Launch} {e : Env} {R : Room} {s : State} {m : MethodId} {args : Array Value} {below : List Frame} {meth : Method} {c : Code} {D : va_G} {ad : Nat → Nat → Nat} {cs : Nat → ClassId} {P : Nat → Nat → Prop} {sz tU : Nat} {adK adV : Nat → Nat} {K : Int32 → St → Prop} {S : St} {H : Heap} {locs : List Loc} {ls : Array Slot} (E : Ex p s m args meth c R RX8 cX8_isLawful 2 (some .boolean) 1 60 D ad cs P (wA ad P) tU adK adV cnM) (hw : wpX8_isLawful S K) (hh : wH D ad cs P (wA ad P) s.heap sz S H locs) (hl : lv_has ls 2 [(0, .ref (ad 40 0))]) : W p l e R s m args below meth c H locs 0 0 (MQ below (va_Qi (fun r S => K r S ∧ narrow .boolean (.int r) = .int r) (QX D ad cs P sz) (wA ad P)) args s 0 0 (wA ad P)) (F0 m 0 ls []) := by
  have hx := E.hx
  have hb := E.hb
  refine lv_iconst (v := 0) hx hb dX8_isLawful_0 (by decide) ?_
  refine lv_istore_n (lv' := [(1, .int 0), (0, .ref (ad 40 0))]) hx hb dX8_isLawful_1 rfl hl (by decide) rfl (fun ls hl => ?_)
  obtain ⟨k, hw⟩ := hw
  exact bX8_isLawful_2 E k 0 S _ _ _ hw hh (lv_sub hl [1, 0] rfl)
theorem kX8_isLawful : kI yX8_isLawful cX8_isLawful 2 (some .boolean) 0 := ⟨tb1114, ts58, tb15, tb1115, by decide, by decide, by decide +kernel⟩
theorem mX8_isLawful {l : Launch} {D : va_G} {ad : Nat → Nat → Nat} {cs : Nat → ClassId} {P : Nat → Nat → Prop} {sz tU : Nat} {adK adV : Nat → Nat} {S : St} {K : Int32 → St → Prop} (hI : wI ad P) (hn : ∀ kd i, i < cnM kd → P kd i) (hw : wpX8_isLawful S K) : MI l yX8_isLawful cX8_isLawful 2 (some .boolean) 1 60 D ad cs P sz tU adK adV [.ref (ad 40 0)] S (fun r S => K r S ∧ narrow .boolean (.int r) = .int r) :=
  Met_of (by decide) (Nat.le_of_ble_eq_true rfl) hI hn (fun p e R s m args below meth c ls E hl hh => bX8_isLawful E  hw hh (lv_sub hl [0] rfl))
def wbX8_manOf_2 (K : Int32 → St → Prop) (x1 : Int32) : Nat → Int32 → St → Prop
  | 0, _, _ => False
  | n + 1, x2, S => if (S.1 40 0 7) ≤ x2 then (K (-1) S) else ((vp_in x2 4 ∧ if (S.1 56 0 x2.toNatClampNeg) = x1 then (K x2 S) else (wbX8_manOf_2 K x1 n (x2 + 1) S)))
set_option maxRecDepth 4000 in
theorem bX8_manOf_2 {p : Program} {l : Launch} {e : Env} {R : Room} {s : State} {m : MethodId} {args : Array Value} {below : List Frame} {meth : Method} {c : Code} {D : va_G} {ad : Nat → Nat → Nat} {cs : Nat → ClassId} {P : Nat → Nat → Prop} {sz tU : Nat} {adK adV : Nat → Nat} {K : Int32 → St → Prop} {x1 : Int32} (E : Ex p s m args meth c R RX8 cX8_manOf 3 (some .int) 1 60 D ad cs P (wA ad P) tU adK adV cnM) : ∀ (n : Nat) (x2 : Int32) (S : St) (H : Heap) (locs : List Loc) (ls : Array Slot), wbX8_manOf_2 K x1 n x2 S → wH D ad cs P (wA ad P) s.heap sz S H locs → lv_has ls 3 [(0, .ref (ad 40 0)), (1, .int x1), (2, .int x2)] → W p l e R s m args below meth c H locs 0 0 (MQ below (va_Qi K (QX D ad cs P sz) (wA ad P)) args s 0 0 (wA ad P)) (F0 m 2 ls []) := by
  have hx := E.hx
  have hb := E.hb
  intro n
  induction n with
  | zero => intro x2 S H locs ls hw hh hl; exact hw.elim
  | succ n ih =>
    intro x2 S H locs ls hw hh hl
    refine lv_iload_n hx hb dX8_manOf_2 rfl (lv_at hl 2 rfl) ?_
    refine lv_aload_n hx hb dX8_manOf_3 rfl (lv_at hl 0 rfl) ?_
    refine g_40_7 E hh tb741 (E.hn 40 0 (by decide)) dX8_manOf_4 ?_
    refine lv_icmp_ge (tgt := 28) hx hb dX8_manOf_7 (by decide) (fun c1 => ?_) (fun c1 => ?_)
    · have hw := ifT hw c1
      refine lv_iconst (v := (-1)) hx hb dX8_manOf_28 (by decide) ?_
      exact x_iret E hh hw dX8_manOf_29
    · have hw := ifF hw c1
      refine lv_aload_n hx hb dX8_manOf_10 rfl (lv_at hl 0 rfl) ?_
      refine g_40_40 E hh tb774 (E.hn 40 0 (by decide)) dX8_manOf_11 ?_
      refine lv_iload_n hx hb dX8_manOf_14 rfl (lv_at hl 2 rfl) ?_
      obtain ⟨hi2, hw⟩ := hw
      refine x_iald E hh (E.hn 56 0 (by decide)) ly_56 hi2 dX8_manOf_15 ?_
      refine lv_iload_n hx hb dX8_manOf_16 rfl (lv_at hl 1 rfl) ?_
      refine lv_icmp_ne (tgt := 22) hx hb dX8_manOf_17 (by decide) (fun c3 => ?_) (fun c3 => ?_)
      · have hw := ifF hw c3
        refine lv_iinc (k := 2) (v := x2 + 1) (lv' := [(2, .int (x2 + 1)), (0, .ref (ad 40 0)), (1, .int x1)]) hx hb dX8_manOf_22 hl rfl rfl (by decide) rfl (fun ls hl => ?_)
        refine lv_goto (tgt := 2) hx hb dX8_manOf_25 (by decide) ?_
        exact ih (x2 + 1) S _ _ _ hw hh (lv_sub hl [1, 2, 0] rfl)
      · have hw := ifT hw c3
        refine lv_iload_n hx hb dX8_manOf_20 rfl (lv_at hl 2 rfl) ?_
        exact x_iret E hh hw dX8_manOf_21
def wpX8_manOf (x1 : Int32) (S : St) (K : Int32 → St → Prop) : Prop := ∃ k, wbX8_manOf_2 K x1 k 0 S
set_option maxRecDepth 4000 in
theorem bX8_manOf {p : Program} {l : Launch} {e : Env} {R : Room} {s : State} {m : MethodId} {args : Array Value} {below : List Frame} {meth : Method} {c : Code} {D : va_G} {ad : Nat → Nat → Nat} {cs : Nat → ClassId} {P : Nat → Nat → Prop} {sz tU : Nat} {adK adV : Nat → Nat} {K : Int32 → St → Prop} {x1 : Int32} {S : St} {H : Heap} {locs : List Loc} {ls : Array Slot} (E : Ex p s m args meth c R RX8 cX8_manOf 3 (some .int) 1 60 D ad cs P (wA ad P) tU adK adV cnM) (hw : wpX8_manOf x1 S K) (hh : wH D ad cs P (wA ad P) s.heap sz S H locs) (hl : lv_has ls 3 [(0, .ref (ad 40 0)), (1, .int x1)]) : W p l e R s m args below meth c H locs 0 0 (MQ below (va_Qi K (QX D ad cs P sz) (wA ad P)) args s 0 0 (wA ad P)) (F0 m 0 ls []) := by
  have hx := E.hx
  have hb := E.hb
  refine lv_iconst (v := 0) hx hb dX8_manOf_0 (by decide) ?_
  refine lv_istore_n (lv' := [(2, .int 0), (0, .ref (ad 40 0)), (1, .int x1)]) hx hb dX8_manOf_1 rfl hl (by decide) rfl (fun ls hl => ?_)
  obtain ⟨k, hw⟩ := hw
  exact bX8_manOf_2 E k 0 S _ _ _ hw hh (lv_sub hl [1, 2, 0] rfl)
theorem kX8_manOf : kI yX8_manOf cX8_manOf 3 (some .int) 1 := ⟨tb1122, ts60, tb15, tb1123, by decide, by decide, by decide +kernel⟩
theorem mX8_manOf {l : Launch} {D : va_G} {ad : Nat → Nat → Nat} {cs : Nat → ClassId} {P : Nat → Nat → Prop} {sz tU : Nat} {adK adV : Nat → Nat} {x1 : Int32} {S : St} {K : Int32 → St → Prop} (hI : wI ad P) (hn : ∀ kd i, i < cnM kd → P kd i) (hw : wpX8_manOf x1 S K) : MI l yX8_manOf cX8_manOf 3 (some .int) 1 60 D ad cs P sz tU adK adV [.ref (ad 40 0), .int x1] S K :=
  Met_of (by decide) (Nat.le_of_ble_eq_true rfl) hI hn (fun p e R s m args below meth c ls E hl hh => bX8_manOf E  hw hh (lv_sub hl [0, 1] rfl))
def wbX8_isSteady_143 (R11 : Int32 → St → Prop) (R21 : Int32 → St → Prop) (K : Int32 → St → Prop) (x1 : Int32) (x2 : Int32) (S : St) : Prop := R21 (x2 + 1) S
set_option maxRecDepth 4000 in
theorem bX8_isSteady_143 {p : Program} {l : Launch} {e : Env} {R : Room} {s : State} {m : MethodId} {args : Array Value} {below : List Frame} {meth : Method} {c : Code} {D : va_G} {ad : Nat → Nat → Nat} {cs : Nat → ClassId} {P : Nat → Nat → Prop} {sz tU : Nat} {adK adV : Nat → Nat} {R11 : Int32 → St → Prop} {R21 : Int32 → St → Prop} {K : Int32 → St → Prop} {x1 : Int32} {x2 : Int32} {S : St} {H : Heap} {locs : List Loc} {ls : Array Slot} (E : Ex p s m args meth c R RX8 cX8_isSteady 6 (some .boolean) 2 82 D ad cs P (wA ad P) tU adK adV cnM) (hR11 : ∀ (z1 : Int32) (S : St) (H : Heap) (locs : List Loc) (ls : Array Slot), R11 z1 S → wH D ad cs P (wA ad P) s.heap sz S H locs → lv_has ls 6 [(0, .ref (ad 40 0)), (1, .int z1)] → W p l e R s m args below meth c H locs 0 0 (MQ below (va_Qi (fun r S => K r S ∧ narrow .boolean (.int r) = .int r) (QX D ad cs P sz) (wA ad P)) args s 0 0 (wA ad P)) (F0 m 11 ls [])) (hR21 : ∀ (z2 : Int32) (S : St) (H : Heap) (locs : List Loc) (ls : Array Slot), R21 z2 S → wH D ad cs P (wA ad P) s.heap sz S H locs → lv_has ls 6 [(0, .ref (ad 40 0)), (1, .int x1), (2, .int z2)] → W p l e R s m args below meth c H locs 0 0 (MQ below (va_Qi (fun r S => K r S ∧ narrow .boolean (.int r) = .int r) (QX D ad cs P sz) (wA ad P)) args s 0 0 (wA ad P)) (F0 m 21 ls [])) (hw : wbX8_isSteady_143 R11 R21 K x1 x2 S) (hh : wH D ad cs P (wA ad P) s.heap sz S H locs) (hl : lv_has ls 6 [(0, .ref (ad 40 0)), (1, .int x1), (2, .int x2)]) : W p l e R s m args below meth c H locs 0 0 (MQ below (va_Qi (fun r S => K r S ∧ narrow .boolean (.int r) = .int r) (QX D ad cs P sz) (wA ad P)) args s 0 0 (wA ad P)) (F0 m 143 ls []) := by
  have hx := E.hx
  have hb := E.hb
  refine lv_iinc (k := 2) (v := x2 + 1) (lv' := [(2, .int (x2 + 1)), (0, .ref (ad 40 0)), (1, .int x1)]) hx hb dX8_isSteady_143 hl rfl rfl (by decide) rfl (fun ls hl => ?_)
  refine lv_goto (tgt := 21) hx hb dX8_isSteady_146 (by decide) ?_
  exact hR21 (x2 + 1) S _ _ _ hw hh (lv_sub hl [1, 2, 0] rfl)
def wbX8_isSteady_87 (R11 : Int32 → St → Prop) (R21 : Int32 → St → Prop) (K : Int32 → St → Prop) (x1 : Int32) (x2 : Int32) (x3 : Int32) (v0 : Int32) (S : St) : Prop := (vp_in x1 4 ∧ if (S.1 56 0 x1.toNatClampNeg) = x2 then (wbX8_isSteady_143 R11 R21 K x1 x2 S) else ((vp_in ((4 * x1) + x2) 16 ∧ if (S.1 58 0 ((4 * x1) + x2).toNatClampNeg) = 0 then ((vp_in ((4 * x1) + x2) 16 ∧ if (S.1 44 0 ((4 * x1) + x2).toNatClampNeg) ≤ x3 then (wbX8_isSteady_143 R11 R21 K x1 x2 S) else ((vp_in ((4 * x1) + x2) 16 ∧ if (S.1 45 0 ((4 * x1) + x2).toNatClampNeg) ≤ v0 then (wbX8_isSteady_143 R11 R21 K x1 x2 S) else (K 0 S))))) else (wbX8_isSteady_143 R11 R21 K x1 x2 S))))
set_option maxRecDepth 4000 in
theorem bX8_isSteady_87 {p : Program} {l : Launch} {e : Env} {R : Room} {s : State} {m : MethodId} {args : Array Value} {below : List Frame} {meth : Method} {c : Code} {D : va_G} {ad : Nat → Nat → Nat} {cs : Nat → ClassId} {P : Nat → Nat → Prop} {sz tU : Nat} {adK adV : Nat → Nat} {R11 : Int32 → St → Prop} {R21 : Int32 → St → Prop} {K : Int32 → St → Prop} {x1 : Int32} {x2 : Int32} {x3 : Int32} {v0 : Int32} {S : St} {H : Heap} {locs : List Loc} {ls : Array Slot} (E : Ex p s m args meth c R RX8 cX8_isSteady 6 (some .boolean) 2 82 D ad cs P (wA ad P) tU adK adV cnM) (hR11 : ∀ (z1 : Int32) (S : St) (H : Heap) (locs : List Loc) (ls : Array Slot), R11 z1 S → wH D ad cs P (wA ad P) s.heap sz S H locs → lv_has ls 6 [(0, .ref (ad 40 0)), (1, .int z1)] → W p l e R s m args below meth c H locs 0 0 (MQ below (va_Qi (fun r S => K r S ∧ narrow .boolean (.int r) = .int r) (QX D ad cs P sz) (wA ad P)) args s 0 0 (wA ad P)) (F0 m 11 ls [])) (hR21 : ∀ (z2 : Int32) (S : St) (H : Heap) (locs : List Loc) (ls : Array Slot), R21 z2 S → wH D ad cs P (wA ad P) s.heap sz S H locs → lv_has ls 6 [(0, .ref (ad 40 0)), (1, .int x1), (2, .int z2)] → W p l e R s m args below meth c H locs 0 0 (MQ below (va_Qi (fun r S => K r S ∧ narrow .boolean (.int r) = .int r) (QX D ad cs P sz) (wA ad P)) args s 0 0 (wA ad P)) (F0 m 21 ls [])) (hw : wbX8_isSteady_87 R11 R21 K x1 x2 x3 v0 S) (hh : wH D ad cs P (wA ad P) s.heap sz S H locs) (hl : lv_has ls 6 [(0, .ref (ad 40 0)), (1, .int x1), (2, .int x2), (3, .int x3)]) : W p l e R s m args below meth c H locs 0 0 (MQ below (va_Qi (fun r S => K r S ∧ narrow .boolean (.int r) = .int r) (QX D ad cs P sz) (wA ad P)) args s 0 0 (wA ad P)) (F0 m 87 ls [.int v0]) := by
  have hx := E.hx
  have hb := E.hb
  refine lv_istore (lv' := [(5, .int v0), (0, .ref (ad 40 0)), (1, .int x1), (2, .int x2), (3, .int x3)]) hx hb dX8_isSteady_87 hl (by decide) rfl (fun ls hl => ?_)
  refine lv_aload_n hx hb dX8_isSteady_89 rfl (lv_at hl 1 rfl) ?_
  refine g_40_40 E hh tb774 (E.hn 40 0 (by decide)) dX8_isSteady_90 ?_
  refine lv_iload_n hx hb dX8_isSteady_93 rfl (lv_at hl 2 rfl) ?_
  obtain ⟨hi12, hw⟩ := hw
  refine x_iald E hh (E.hn 56 0 (by decide)) ly_56 hi12 dX8_isSteady_94 ?_
  refine lv_iload_n hx hb dX8_isSteady_95 rfl (lv_at hl 3 rfl) ?_
  refine lv_icmp_eq (tgt := 143) hx hb dX8_isSteady_96 (by decide) (fun c13 => ?_) (fun c13 => ?_)
  · have hw := ifT hw c13
    exact bX8_isSteady_143 E hR11 hR21 hw hh (lv_sub hl [1, 2, 3] rfl)
  · have hw := ifF hw c13
    refine lv_aload_n hx hb dX8_isSteady_99 rfl (lv_at hl 1 rfl) ?_
    refine g_40_44 E hh tb778 (E.hn 40 0 (by decide)) dX8_isSteady_100 ?_
    refine lv_iconst (v := 4) hx hb dX8_isSteady_103 (by decide) ?_
    refine lv_iload_n hx hb dX8_isSteady_104 rfl (lv_at hl 2 rfl) ?_
    refine lv_imul hx hb dX8_isSteady_105 ?_
    refine lv_iload_n hx hb dX8_isSteady_106 rfl (lv_at hl 3 rfl) ?_
    refine lv_iadd hx hb dX8_isSteady_107 ?_
    obtain ⟨hi14, hw⟩ := hw
    refine x_zald E hh (E.hn 58 0 (by decide)) ly_58 hi14 dX8_isSteady_108 ?_
    refine lv_if_ne (tgt := 143) hx hb dX8_isSteady_109 (by decide) (fun c15 => ?_) (fun c15 => ?_)
    · have hw := ifF hw c15
      exact bX8_isSteady_143 E hR11 hR21 hw hh (lv_sub hl [1, 2, 3] rfl)
    · have hw := ifT hw c15
      refine lv_aload_n hx hb dX8_isSteady_112 rfl (lv_at hl 1 rfl) ?_
      refine g_40_9 E hh tb743 (E.hn 40 0 (by decide)) dX8_isSteady_113 ?_
      refine lv_iconst (v := 4) hx hb dX8_isSteady_116 (by decide) ?_
      refine lv_iload_n hx hb dX8_isSteady_117 rfl (lv_at hl 2 rfl) ?_
      refine lv_imul hx hb dX8_isSteady_118 ?_
      refine lv_iload_n hx hb dX8_isSteady_119 rfl (lv_at hl 3 rfl) ?_
      refine lv_iadd hx hb dX8_isSteady_120 ?_
      obtain ⟨hi16, hw⟩ := hw
      refine x_iald E hh (E.hn 44 0 (by decide)) ly_44 hi16 dX8_isSteady_121 ?_
      refine lv_iload_n hx hb dX8_isSteady_122 rfl (lv_at hl 4 rfl) ?_
      refine lv_icmp_le (tgt := 143) hx hb dX8_isSteady_123 (by decide) (fun c17 => ?_) (fun c17 => ?_)
      · have hw := ifT hw c17
        exact bX8_isSteady_143 E hR11 hR21 hw hh (lv_sub hl [1, 2, 3] rfl)
      · have hw := ifF hw c17
        refine lv_aload_n hx hb dX8_isSteady_126 rfl (lv_at hl 1 rfl) ?_
        refine g_40_10 E hh tb744 (E.hn 40 0 (by decide)) dX8_isSteady_127 ?_
        refine lv_iconst (v := 4) hx hb dX8_isSteady_130 (by decide) ?_
        refine lv_iload_n hx hb dX8_isSteady_131 rfl (lv_at hl 2 rfl) ?_
        refine lv_imul hx hb dX8_isSteady_132 ?_
        refine lv_iload_n hx hb dX8_isSteady_133 rfl (lv_at hl 3 rfl) ?_
        refine lv_iadd hx hb dX8_isSteady_134 ?_
        obtain ⟨hi18, hw⟩ := hw
        refine x_iald E hh (E.hn 45 0 (by decide)) ly_45 hi18 dX8_isSteady_135 ?_
        refine lv_iload hx hb dX8_isSteady_136 (lv_at hl 0 rfl) ?_
        refine lv_icmp_le (tgt := 143) hx hb dX8_isSteady_138 (by decide) (fun c19 => ?_) (fun c19 => ?_)
        · have hw := ifT hw c19
          exact bX8_isSteady_143 E hR11 hR21 hw hh (lv_sub hl [1, 2, 3] rfl)
        · have hw := ifF hw c19
          refine lv_iconst (v := 0) hx hb dX8_isSteady_141 (by decide) ?_
          exact x_zret E hh hw rfl dX8_isSteady_142
def wbX8_isSteady_58 (R11 : Int32 → St → Prop) (R21 : Int32 → St → Prop) (K : Int32 → St → Prop) (x1 : Int32) (x2 : Int32) (v0 : Int32) (S : St) : Prop := wpX8_manOf x2 S (fun r9 S9 => if r9 = (-1) then (wbX8_isSteady_87 R11 R21 K x1 x2 v0 (-1) S9) else ((vp_in ((4 * r9) + x2) 16 ∧ wbX8_isSteady_87 R11 R21 K x1 x2 v0 (S9.1 45 0 ((4 * r9) + x2).toNatClampNeg) S9)))
set_option maxRecDepth 4000 in
theorem bX8_isSteady_58 {p : Program} {l : Launch} {e : Env} {R : Room} {s : State} {m : MethodId} {args : Array Value} {below : List Frame} {meth : Method} {c : Code} {D : va_G} {ad : Nat → Nat → Nat} {cs : Nat → ClassId} {P : Nat → Nat → Prop} {sz tU : Nat} {adK adV : Nat → Nat} {R11 : Int32 → St → Prop} {R21 : Int32 → St → Prop} {K : Int32 → St → Prop} {x1 : Int32} {x2 : Int32} {v0 : Int32} {S : St} {H : Heap} {locs : List Loc} {ls : Array Slot} (E : Ex p s m args meth c R RX8 cX8_isSteady 6 (some .boolean) 2 82 D ad cs P (wA ad P) tU adK adV cnM) (hR11 : ∀ (z1 : Int32) (S : St) (H : Heap) (locs : List Loc) (ls : Array Slot), R11 z1 S → wH D ad cs P (wA ad P) s.heap sz S H locs → lv_has ls 6 [(0, .ref (ad 40 0)), (1, .int z1)] → W p l e R s m args below meth c H locs 0 0 (MQ below (va_Qi (fun r S => K r S ∧ narrow .boolean (.int r) = .int r) (QX D ad cs P sz) (wA ad P)) args s 0 0 (wA ad P)) (F0 m 11 ls [])) (hR21 : ∀ (z2 : Int32) (S : St) (H : Heap) (locs : List Loc) (ls : Array Slot), R21 z2 S → wH D ad cs P (wA ad P) s.heap sz S H locs → lv_has ls 6 [(0, .ref (ad 40 0)), (1, .int x1), (2, .int z2)] → W p l e R s m args below meth c H locs 0 0 (MQ below (va_Qi (fun r S => K r S ∧ narrow .boolean (.int r) = .int r) (QX D ad cs P sz) (wA ad P)) args s 0 0 (wA ad P)) (F0 m 21 ls [])) (hw : wbX8_isSteady_58 R11 R21 K x1 x2 v0 S) (hh : wH D ad cs P (wA ad P) s.heap sz S H locs) (hl : lv_has ls 6 [(0, .ref (ad 40 0)), (1, .int x1), (2, .int x2)]) : W p l e R s m args below meth c H locs 0 0 (MQ below (va_Qi (fun r S => K r S ∧ narrow .boolean (.int r) = .int r) (QX D ad cs P sz) (wA ad P)) args s 0 0 (wA ad P)) (F0 m 58 ls [.int v0]) := by
  have hx := E.hx
  have hb := E.hb
  refine lv_istore_n (lv' := [(3, .int v0), (0, .ref (ad 40 0)), (1, .int x1), (2, .int x2)]) hx hb dX8_isSteady_58 rfl hl (by decide) rfl (fun ls hl => ?_)
  refine lv_aload_n hx hb dX8_isSteady_59 rfl (lv_at hl 1 rfl) ?_
  refine lv_iload_n hx hb dX8_isSteady_60 rfl (lv_at hl 3 rfl) ?_
  refine x_ci E.hA hh (x_runV E hh (mX8_manOf E.hI E.hn hw) kX8_manOf tb1120 (E.hn 40 0 (by decide)) rv_40 ⟨by decide, by decide⟩ rfl hl.1 rfl (Nat.le_of_ble_eq_true rfl) dX8_isSteady_61 ⟨Nat.zero_le _, Nat.zero_le _⟩) (fun r9 S9 H locs hw hh => ?_)
  refine lv_istore (lv' := [(4, .int r9), (3, .int v0), (0, .ref (ad 40 0)), (1, .int x1), (2, .int x2)]) hx hb dX8_isSteady_64 hl (by decide) rfl (fun ls hl => ?_)
  refine lv_iload hx hb dX8_isSteady_66 (lv_at hl 0 rfl) ?_
  refine lv_iconst (v := (-1)) hx hb dX8_isSteady_68 (by decide) ?_
  refine lv_icmp_ne (tgt := 76) hx hb dX8_isSteady_69 (by decide) (fun c10 => ?_) (fun c10 => ?_)
  · have hw := ifF hw c10
    refine lv_aload_n hx hb dX8_isSteady_76 rfl (lv_at hl 2 rfl) ?_
    refine g_40_10 E hh tb744 (E.hn 40 0 (by decide)) dX8_isSteady_77 ?_
    refine lv_iconst (v := 4) hx hb dX8_isSteady_80 (by decide) ?_
    refine lv_iload hx hb dX8_isSteady_81 (lv_at hl 0 rfl) ?_
    refine lv_imul hx hb dX8_isSteady_83 ?_
    refine lv_iload_n hx hb dX8_isSteady_84 rfl (lv_at hl 4 rfl) ?_
    refine lv_iadd hx hb dX8_isSteady_85 ?_
    obtain ⟨hi11, hw⟩ := hw
    refine x_iald E hh (E.hn 45 0 (by decide)) ly_45 hi11 dX8_isSteady_86 ?_
    exact bX8_isSteady_87 E hR11 hR21 hw hh (lv_sub hl [2, 3, 4, 1] rfl)
  · have hw := ifT hw c10
    refine lv_iconst (v := (-1)) hx hb dX8_isSteady_72 (by decide) ?_
    refine lv_goto (tgt := 87) hx hb dX8_isSteady_73 (by decide) ?_
    exact bX8_isSteady_87 E hR11 hR21 hw hh (lv_sub hl [2, 3, 4, 1] rfl)
def wbX8_isSteady_21 (R11 : Int32 → St → Prop) (K : Int32 → St → Prop) (x1 : Int32) : Nat → Int32 → St → Prop
  | 0, _, _ => False
  | n + 1, x2, S => if (S.1 40 0 8) ≤ x2 then (R11 (x1 + 1) S) else ((vp_in x1 4 ∧ if (S.1 56 0 x1.toNatClampNeg) = (-1) then (wbX8_isSteady_58 R11 (fun yx2 S9 => wbX8_isSteady_21 R11 K x1 n yx2 S9) K x1 x2 (-1) S) else ((vp_in x1 4 ∧ (vp_in ((4 * x1) + (S.1 56 0 x1.toNatClampNeg)) 16 ∧ wbX8_isSteady_58 R11 (fun yx2 S9 => wbX8_isSteady_21 R11 K x1 n yx2 S9) K x1 x2 (S.1 44 0 ((4 * x1) + (S.1 56 0 x1.toNatClampNeg)).toNatClampNeg) S)))))
set_option maxRecDepth 4000 in
theorem bX8_isSteady_21 {p : Program} {l : Launch} {e : Env} {R : Room} {s : State} {m : MethodId} {args : Array Value} {below : List Frame} {meth : Method} {c : Code} {D : va_G} {ad : Nat → Nat → Nat} {cs : Nat → ClassId} {P : Nat → Nat → Prop} {sz tU : Nat} {adK adV : Nat → Nat} {R11 : Int32 → St → Prop} {K : Int32 → St → Prop} {x1 : Int32} (E : Ex p s m args meth c R RX8 cX8_isSteady 6 (some .boolean) 2 82 D ad cs P (wA ad P) tU adK adV cnM) (hR11 : ∀ (z1 : Int32) (S : St) (H : Heap) (locs : List Loc) (ls : Array Slot), R11 z1 S → wH D ad cs P (wA ad P) s.heap sz S H locs → lv_has ls 6 [(0, .ref (ad 40 0)), (1, .int z1)] → W p l e R s m args below meth c H locs 0 0 (MQ below (va_Qi (fun r S => K r S ∧ narrow .boolean (.int r) = .int r) (QX D ad cs P sz) (wA ad P)) args s 0 0 (wA ad P)) (F0 m 11 ls [])) : ∀ (n : Nat) (x2 : Int32) (S : St) (H : Heap) (locs : List Loc) (ls : Array Slot), wbX8_isSteady_21 R11 K x1 n x2 S → wH D ad cs P (wA ad P) s.heap sz S H locs → lv_has ls 6 [(0, .ref (ad 40 0)), (1, .int x1), (2, .int x2)] → W p l e R s m args below meth c H locs 0 0 (MQ below (va_Qi (fun r S => K r S ∧ narrow .boolean (.int r) = .int r) (QX D ad cs P sz) (wA ad P)) args s 0 0 (wA ad P)) (F0 m 21 ls []) := by
  have hx := E.hx
  have hb := E.hb
  intro n
  induction n with
  | zero => intro x2 S H locs ls hw hh hl; exact hw.elim
  | succ n ih =>
    intro x2 S H locs ls hw hh hl
    refine lv_iload_n hx hb dX8_isSteady_21 rfl (lv_at hl 2 rfl) ?_
    refine lv_aload_n hx hb dX8_isSteady_22 rfl (lv_at hl 0 rfl) ?_
    refine g_40_8 E hh tb742 (E.hn 40 0 (by decide)) dX8_isSteady_23 ?_
    refine lv_icmp_ge (tgt := 149) hx hb dX8_isSteady_26 (by decide) (fun c4 => ?_) (fun c4 => ?_)
    · have hw := ifT hw c4
      refine lv_iinc (k := 1) (v := x1 + 1) (lv' := [(1, .int (x1 + 1)), (0, .ref (ad 40 0)), (2, .int x2)]) hx hb dX8_isSteady_149 hl rfl rfl (by decide) rfl (fun ls hl => ?_)
      refine lv_goto (tgt := 11) hx hb dX8_isSteady_152 (by decide) ?_
      exact hR11 (x1 + 1) S _ _ _ hw hh (lv_sub hl [1, 0] rfl)
    · have hw := ifF hw c4
      refine lv_aload_n hx hb dX8_isSteady_29 rfl (lv_at hl 0 rfl) ?_
      refine g_40_40 E hh tb774 (E.hn 40 0 (by decide)) dX8_isSteady_30 ?_
      refine lv_iload_n hx hb dX8_isSteady_33 rfl (lv_at hl 1 rfl) ?_
      obtain ⟨hi5, hw⟩ := hw
      refine x_iald E hh (E.hn 56 0 (by decide)) ly_56 hi5 dX8_isSteady_34 ?_
      refine lv_iconst (v := (-1)) hx hb dX8_isSteady_35 (by decide) ?_
      refine lv_icmp_ne (tgt := 43) hx hb dX8_isSteady_36 (by decide) (fun c6 => ?_) (fun c6 => ?_)
      · have hw := ifF hw c6
        refine lv_aload_n hx hb dX8_isSteady_43 rfl (lv_at hl 0 rfl) ?_
        refine g_40_9 E hh tb743 (E.hn 40 0 (by decide)) dX8_isSteady_44 ?_
        refine lv_iconst (v := 4) hx hb dX8_isSteady_47 (by decide) ?_
        refine lv_iload_n hx hb dX8_isSteady_48 rfl (lv_at hl 1 rfl) ?_
        refine lv_imul hx hb dX8_isSteady_49 ?_
        refine lv_aload_n hx hb dX8_isSteady_50 rfl (lv_at hl 0 rfl) ?_
        refine g_40_40 E hh tb774 (E.hn 40 0 (by decide)) dX8_isSteady_51 ?_
        refine lv_iload_n hx hb dX8_isSteady_54 rfl (lv_at hl 1 rfl) ?_
        obtain ⟨hi7, hw⟩ := hw
        refine x_iald E hh (E.hn 56 0 (by decide)) ly_56 hi7 dX8_isSteady_55 ?_
        refine lv_iadd hx hb dX8_isSteady_56 ?_
        obtain ⟨hi8, hw⟩ := hw
        refine x_iald E hh (E.hn 44 0 (by decide)) ly_44 hi8 dX8_isSteady_57 ?_
        exact bX8_isSteady_58 E hR11 ih hw hh (lv_sub hl [0, 1, 2] rfl)
      · have hw := ifT hw c6
        refine lv_iconst (v := (-1)) hx hb dX8_isSteady_39 (by decide) ?_
        refine lv_goto (tgt := 58) hx hb dX8_isSteady_40 (by decide) ?_
        exact bX8_isSteady_58 E hR11 ih hw hh (lv_sub hl [0, 1, 2] rfl)
def wbX8_isSteady_11 (K : Int32 → St → Prop) : Nat → Int32 → St → Prop
  | 0, _, _ => False
  | n + 1, x1, S => if (S.1 40 0 7) ≤ x1 then (K 1 S) else (∃ k, wbX8_isSteady_21 (fun yx1 S9 => wbX8_isSteady_11 K n yx1 S9) K x1 k 0 S)
set_option maxRecDepth 4000 in
theorem bX8_isSteady_11 {p : Program} {l : Launch} {e : Env} {R : Room} {s : State} {m : MethodId} {args : Array Value} {below : List Frame} {meth : Method} {c : Code} {D : va_G} {ad : Nat → Nat → Nat} {cs : Nat → ClassId} {P : Nat → Nat → Prop} {sz tU : Nat} {adK adV : Nat → Nat} {K : Int32 → St → Prop} (E : Ex p s m args meth c R RX8 cX8_isSteady 6 (some .boolean) 2 82 D ad cs P (wA ad P) tU adK adV cnM) : ∀ (n : Nat) (x1 : Int32) (S : St) (H : Heap) (locs : List Loc) (ls : Array Slot), wbX8_isSteady_11 K n x1 S → wH D ad cs P (wA ad P) s.heap sz S H locs → lv_has ls 6 [(0, .ref (ad 40 0)), (1, .int x1)] → W p l e R s m args below meth c H locs 0 0 (MQ below (va_Qi (fun r S => K r S ∧ narrow .boolean (.int r) = .int r) (QX D ad cs P sz) (wA ad P)) args s 0 0 (wA ad P)) (F0 m 11 ls []) := by
  have hx := E.hx
  have hb := E.hb
  intro n
  induction n with
  | zero => intro x1 S H locs ls hw hh hl; exact hw.elim
  | succ n ih =>
    intro x1 S H locs ls hw hh hl
    refine lv_iload_n hx hb dX8_isSteady_11 rfl (lv_at hl 1 rfl) ?_
    refine lv_aload_n hx hb dX8_isSteady_12 rfl (lv_at hl 0 rfl) ?_
    refine g_40_7 E hh tb741 (E.hn 40 0 (by decide)) dX8_isSteady_13 ?_
    refine lv_icmp_ge (tgt := 155) hx hb dX8_isSteady_16 (by decide) (fun c3 => ?_) (fun c3 => ?_)
    · have hw := ifT hw c3
      refine lv_iconst (v := 1) hx hb dX8_isSteady_155 (by decide) ?_
      exact x_zret E hh hw rfl dX8_isSteady_156
    · have hw := ifF hw c3
      refine lv_iconst (v := 0) hx hb dX8_isSteady_19 (by decide) ?_
      refine lv_istore_n (lv' := [(2, .int 0), (0, .ref (ad 40 0)), (1, .int x1)]) hx hb dX8_isSteady_20 rfl hl (by decide) rfl (fun ls hl => ?_)
      obtain ⟨k, hw⟩ := hw
      exact bX8_isSteady_21 E ih k 0 S _ _ _ hw hh (lv_sub hl [1, 2, 0] rfl)
def wpX8_isSteady (S : St) (K : Int32 → St → Prop) : Prop := wpX8_isLawful S (fun r1 S1 => if r1 = 0 then (K 0 S1) else (∃ k, wbX8_isSteady_11 K k 0 S1))
set_option maxRecDepth 4000 in
theorem bX8_isSteady {p : Program} {l : Launch} {e : Env} {R : Room} {s : State} {m : MethodId} {args : Array Value} {below : List Frame} {meth : Method} {c : Code} {D : va_G} {ad : Nat → Nat → Nat} {cs : Nat → ClassId} {P : Nat → Nat → Prop} {sz tU : Nat} {adK adV : Nat → Nat} {K : Int32 → St → Prop} {S : St} {H : Heap} {locs : List Loc} {ls : Array Slot} (E : Ex p s m args meth c R RX8 cX8_isSteady 6 (some .boolean) 2 82 D ad cs P (wA ad P) tU adK adV cnM) (hw : wpX8_isSteady S K) (hh : wH D ad cs P (wA ad P) s.heap sz S H locs) (hl : lv_has ls 6 [(0, .ref (ad 40 0))]) : W p l e R s m args below meth c H locs 0 0 (MQ below (va_Qi (fun r S => K r S ∧ narrow .boolean (.int r) = .int r) (QX D ad cs P sz) (wA ad P)) args s 0 0 (wA ad P)) (F0 m 0 ls []) := by
  have hx := E.hx
  have hb := E.hb
  refine lv_aload_n hx hb dX8_isSteady_0 rfl (lv_at hl 0 rfl) ?_
  refine x_ci E.hA hh (x_runV E hh (mX8_isLawful E.hI E.hn hw) kX8_isLawful tb1112 (E.hn 40 0 (by decide)) rv_40 ⟨by decide, by decide⟩ rfl hl.1 rfl (Nat.le_of_ble_eq_true rfl) dX8_isSteady_1 ⟨Nat.zero_le _, Nat.zero_le _⟩) (fun r1 S1 H locs hw hh => ?_)
  have hq1 := hw.2
  have hw := hw.1
  refine lv_if_ne (tgt := 9) hx hb dX8_isSteady_4 (by decide) (fun c2 => ?_) (fun c2 => ?_)
  · have hw := ifF hw c2
    refine lv_iconst (v := 0) hx hb dX8_isSteady_9 (by decide) ?_
    refine lv_istore_n (lv' := [(1, .int 0), (0, .ref (ad 40 0))]) hx hb dX8_isSteady_10 rfl hl (by decide) rfl (fun ls hl => ?_)
    obtain ⟨k, hw⟩ := hw
    exact bX8_isSteady_11 E k 0 S1 _ _ _ hw hh (lv_sub hl [1, 0] rfl)
  · have hw := ifT hw c2
    refine lv_iconst (v := 0) hx hb dX8_isSteady_7 (by decide) ?_
    exact x_zret E hh hw rfl dX8_isSteady_8
theorem kX8_isSteady : kI yX8_isSteady cX8_isSteady 6 (some .boolean) 0 := ⟨tb1118, ts59, tb15, tb1119, by decide, by decide, by decide +kernel⟩
theorem mX8_isSteady {l : Launch} {D : va_G} {ad : Nat → Nat → Nat} {cs : Nat → ClassId} {P : Nat → Nat → Prop} {sz tU : Nat} {adK adV : Nat → Nat} {S : St} {K : Int32 → St → Prop} (hI : wI ad P) (hn : ∀ kd i, i < cnM kd → P kd i) (hw : wpX8_isSteady S K) : MI l yX8_isSteady cX8_isSteady 6 (some .boolean) 2 82 D ad cs P sz tU adK adV [.ref (ad 40 0)] S (fun r S => K r S ∧ narrow .boolean (.int r) = .int r) :=
  Met_of (by decide) (Nat.le_of_ble_eq_true rfl) hI hn (fun p e R s m args below meth c ls E hl hh => bX8_isSteady E  hw hh (lv_sub hl [0] rfl))
theorem kX8_pairs : kI yX8_pairs cX8_pairs 6 none 3 := ⟨tb1110, ts57, tb15, tb1111, by decide, by decide, by decide +kernel⟩
def wbX8_pairs_213 (F : Nat → Int32 → Int32 → Int32 → St → (St → Prop) → Prop) (R157 : Int32 → St → Prop) (K : St → Prop) (x1 : Int32) (x2 : Int32) (x3 : Int32) (x4 : Int32) (S : St) : Prop := R157 (x4 + 1) S
set_option maxRecDepth 4000 in
theorem bX8_pairs_213 {p : Program} {l : Launch} {e : Env} {R : Room} {s : State} {m : MethodId} {args : Array Value} {below : List Frame} {meth : Method} {c : Code} {D : va_G} {ad : Nat → Nat → Nat} {cs : Nat → ClassId} {P : Nat → Nat → Prop} {sz tU : Nat} {adK adV : Nat → Nat} {F : Nat → Int32 → Int32 → Int32 → St → (St → Prop) → Prop} {d : Nat} {R157 : Int32 → St → Prop} {K : St → Prop} {x1 : Int32} {x2 : Int32} {x3 : Int32} {x4 : Int32} {S : St} {H : Heap} {locs : List Loc} {ls : Array Slot} (E : Ex p s m args meth c R RX8 cX8_pairs 6 none (3 + (d + 1)) (107 + 25 * (d + 1)) D ad cs P (wA ad P) tU adK adV cnM) (hF0 : ∀ {x1 : Int32} {x2 : Int32} {x3 : Int32} {S : St} {K : St → Prop}, F 0 x1 x2 x3 S K → MV l yX8_pairs cX8_pairs 6 none (3 + d) (107 + 25 * d) D ad cs P sz tU adK adV [.ref (ad 40 0), .int x1, .int x2, .int x3] S K) (hR157 : ∀ (z4 : Int32) (S : St) (H : Heap) (locs : List Loc) (ls : Array Slot), R157 z4 S → wH D ad cs P (wA ad P) s.heap sz S H locs → lv_has ls 6 [(0, .ref (ad 40 0)), (1, .int x1), (2, .int x2), (3, .int x3), (4, .int z4)] → W p l e R s m args below meth c H locs 0 0 (MQ below (va_Qv K (QX D ad cs P sz) (wA ad P)) args s 0 0 (wA ad P)) (F0 m 157 ls [])) (hw : wbX8_pairs_213 F R157 K x1 x2 x3 x4 S) (hh : wH D ad cs P (wA ad P) s.heap sz S H locs) (hl : lv_has ls 6 [(0, .ref (ad 40 0)), (1, .int x1), (2, .int x2), (3, .int x3), (4, .int x4)]) : W p l e R s m args below meth c H locs 0 0 (MQ below (va_Qv K (QX D ad cs P sz) (wA ad P)) args s 0 0 (wA ad P)) (F0 m 213 ls []) := by
  have hx := E.hx
  have hb := E.hb
  refine lv_iinc (k := 4) (v := x4 + 1) (lv' := [(4, .int (x4 + 1)), (0, .ref (ad 40 0)), (1, .int x1), (2, .int x2), (3, .int x3)]) hx hb dX8_pairs_213 hl rfl rfl (by decide) rfl (fun ls hl => ?_)
  refine lv_goto (tgt := 157) hx hb dX8_pairs_216 (by decide) ?_
  exact hR157 (x4 + 1) S _ _ _ hw hh (lv_sub hl [1, 2, 3, 4, 0] rfl)
def wbX8_pairs_210 (F : Nat → Int32 → Int32 → Int32 → St → (St → Prop) → Prop) (R157 : Int32 → St → Prop) (K : St → Prop) (x1 : Int32) (x2 : Int32) (x3 : Int32) (x4 : Int32) (v0 : Int32) (v1 : Int32) (v2 : Int32) (S : St) : Prop := F 0 v2 v1 v0 S (fun S20 => wbX8_pairs_213 F R157 K x1 x2 x3 x4 S20)
set_option maxRecDepth 4000 in
theorem bX8_pairs_210 {p : Program} {l : Launch} {e : Env} {R : Room} {s : State} {m : MethodId} {args : Array Value} {below : List Frame} {meth : Method} {c : Code} {D : va_G} {ad : Nat → Nat → Nat} {cs : Nat → ClassId} {P : Nat → Nat → Prop} {sz tU : Nat} {adK adV : Nat → Nat} {F : Nat → Int32 → Int32 → Int32 → St → (St → Prop) → Prop} {d : Nat} {R157 : Int32 → St → Prop} {K : St → Prop} {x1 : Int32} {x2 : Int32} {x3 : Int32} {x4 : Int32} {v0 : Int32} {v1 : Int32} {v2 : Int32} {S : St} {H : Heap} {locs : List Loc} {ls : Array Slot} (E : Ex p s m args meth c R RX8 cX8_pairs 6 none (3 + (d + 1)) (107 + 25 * (d + 1)) D ad cs P (wA ad P) tU adK adV cnM) (hF0 : ∀ {x1 : Int32} {x2 : Int32} {x3 : Int32} {S : St} {K : St → Prop}, F 0 x1 x2 x3 S K → MV l yX8_pairs cX8_pairs 6 none (3 + d) (107 + 25 * d) D ad cs P sz tU adK adV [.ref (ad 40 0), .int x1, .int x2, .int x3] S K) (hR157 : ∀ (z4 : Int32) (S : St) (H : Heap) (locs : List Loc) (ls : Array Slot), R157 z4 S → wH D ad cs P (wA ad P) s.heap sz S H locs → lv_has ls 6 [(0, .ref (ad 40 0)), (1, .int x1), (2, .int x2), (3, .int x3), (4, .int z4)] → W p l e R s m args below meth c H locs 0 0 (MQ below (va_Qv K (QX D ad cs P sz) (wA ad P)) args s 0 0 (wA ad P)) (F0 m 157 ls [])) (hw : wbX8_pairs_210 F R157 K x1 x2 x3 x4 v0 v1 v2 S) (hh : wH D ad cs P (wA ad P) s.heap sz S H locs) (hl : lv_has ls 6 [(0, .ref (ad 40 0)), (1, .int x1), (2, .int x2), (3, .int x3), (4, .int x4)]) : W p l e R s m args below meth c H locs 0 0 (MQ below (va_Qv K (QX D ad cs P sz) (wA ad P)) args s 0 0 (wA ad P)) (F0 m 210 ls [.int v0, .int v1, .int v2, .ref (ad 40 0)]) := by
  have hx := E.hx
  have hb := E.hb
  refine x_cv E.hA hh (x_runV E hh (hF0 hw) kX8_pairs tb1108 (E.hn 40 0 (by decide)) rv_40 ⟨by omega, by omega⟩ rfl hl.1 rfl (Nat.le_of_ble_eq_true rfl) dX8_pairs_210 ⟨Nat.zero_le _, Nat.zero_le _⟩) (fun S20 H locs hw hh => ?_)
  exact bX8_pairs_213 E hF0 hR157 hw hh (lv_sub hl [0, 1, 2, 3, 4] rfl)
def wbX8_pairs_181 (F : Nat → Int32 → Int32 → Int32 → St → (St → Prop) → Prop) (R157 : Int32 → St → Prop) (K : St → Prop) (x1 : Int32) (x2 : Int32) (x3 : Int32) (x4 : Int32) (S : St) : Prop := (vp_in x1 4 ∧ ∀ S10, S10 = su S 56 0 x1.toNatClampNeg x4 → if x4 = (-1) then (wbX8_pairs_210 F R157 K x1 x2 x3 x4 x3 x2 (x1 + 1) S10) else (wbX8_pairs_210 F R157 K x1 x2 x3 x4 (x3 ||| (1 <<< (x4 &&& 31))) x2 (x1 + 1) S10))
set_option maxRecDepth 4000 in
theorem bX8_pairs_181 {p : Program} {l : Launch} {e : Env} {R : Room} {s : State} {m : MethodId} {args : Array Value} {below : List Frame} {meth : Method} {c : Code} {D : va_G} {ad : Nat → Nat → Nat} {cs : Nat → ClassId} {P : Nat → Nat → Prop} {sz tU : Nat} {adK adV : Nat → Nat} {F : Nat → Int32 → Int32 → Int32 → St → (St → Prop) → Prop} {d : Nat} {R157 : Int32 → St → Prop} {K : St → Prop} {x1 : Int32} {x2 : Int32} {x3 : Int32} {x4 : Int32} {S : St} {H : Heap} {locs : List Loc} {ls : Array Slot} (E : Ex p s m args meth c R RX8 cX8_pairs 6 none (3 + (d + 1)) (107 + 25 * (d + 1)) D ad cs P (wA ad P) tU adK adV cnM) (hF0 : ∀ {x1 : Int32} {x2 : Int32} {x3 : Int32} {S : St} {K : St → Prop}, F 0 x1 x2 x3 S K → MV l yX8_pairs cX8_pairs 6 none (3 + d) (107 + 25 * d) D ad cs P sz tU adK adV [.ref (ad 40 0), .int x1, .int x2, .int x3] S K) (hR157 : ∀ (z4 : Int32) (S : St) (H : Heap) (locs : List Loc) (ls : Array Slot), R157 z4 S → wH D ad cs P (wA ad P) s.heap sz S H locs → lv_has ls 6 [(0, .ref (ad 40 0)), (1, .int x1), (2, .int x2), (3, .int x3), (4, .int z4)] → W p l e R s m args below meth c H locs 0 0 (MQ below (va_Qv K (QX D ad cs P sz) (wA ad P)) args s 0 0 (wA ad P)) (F0 m 157 ls [])) (hw : wbX8_pairs_181 F R157 K x1 x2 x3 x4 S) (hh : wH D ad cs P (wA ad P) s.heap sz S H locs) (hl : lv_has ls 6 [(0, .ref (ad 40 0)), (1, .int x1), (2, .int x2), (3, .int x3), (4, .int x4)]) : W p l e R s m args below meth c H locs 0 0 (MQ below (va_Qv K (QX D ad cs P sz) (wA ad P)) args s 0 0 (wA ad P)) (F0 m 181 ls []) := by
  have hx := E.hx
  have hb := E.hb
  refine lv_aload_n hx hb dX8_pairs_181 rfl (lv_at hl 0 rfl) ?_
  refine g_40_40 E hh tb774 (E.hn 40 0 (by decide)) dX8_pairs_182 ?_
  refine lv_iload_n hx hb dX8_pairs_185 rfl (lv_at hl 1 rfl) ?_
  refine lv_iload hx hb dX8_pairs_186 (lv_at hl 4 rfl) ?_
  obtain ⟨hi10, hw⟩ := hw
  refine x_iast E hh (E.hn 56 0 (by decide)) ly_56 hi10 dX8_pairs_188 (fun S10 H locs e10 hh => ?_)
  have hw := hw S10 e10
  refine lv_aload_n hx hb dX8_pairs_189 rfl (lv_at hl 0 rfl) ?_
  refine lv_iload_n hx hb dX8_pairs_190 rfl (lv_at hl 1 rfl) ?_
  refine lv_iconst (v := 1) hx hb dX8_pairs_191 (by decide) ?_
  refine lv_iadd hx hb dX8_pairs_192 ?_
  refine lv_iload_n hx hb dX8_pairs_193 rfl (lv_at hl 2 rfl) ?_
  refine lv_iload hx hb dX8_pairs_194 (lv_at hl 4 rfl) ?_
  refine lv_iconst (v := (-1)) hx hb dX8_pairs_196 (by decide) ?_
  refine lv_icmp_ne (tgt := 204) hx hb dX8_pairs_197 (by decide) (fun c11 => ?_) (fun c11 => ?_)
  · have hw := ifF hw c11
    refine lv_iload_n hx hb dX8_pairs_204 rfl (lv_at hl 3 rfl) ?_
    refine lv_iconst (v := 1) hx hb dX8_pairs_205 (by decide) ?_
    refine lv_iload hx hb dX8_pairs_206 (lv_at hl 4 rfl) ?_
    refine lv_ishl hx hb dX8_pairs_208 ?_
    refine lv_ior hx hb dX8_pairs_209 ?_
    exact bX8_pairs_210 E hF0 hR157 hw hh (lv_sub hl [0, 1, 2, 3, 4] rfl)
  · have hw := ifT hw c11
    refine lv_iload_n hx hb dX8_pairs_200 rfl (lv_at hl 3 rfl) ?_
    refine lv_goto (tgt := 210) hx hb dX8_pairs_201 (by decide) ?_
    exact bX8_pairs_210 E hF0 hR157 hw hh (lv_sub hl [0, 1, 2, 3, 4] rfl)
def wbX8_pairs_157 (F : Nat → Int32 → Int32 → Int32 → St → (St → Prop) → Prop) (K : St → Prop) (x1 : Int32) (x2 : Int32) (x3 : Int32) : Nat → Int32 → St → Prop
  | 0, _, _ => False
  | n + 1, x4, S => if (S.1 40 0 8) ≤ x4 then (K S) else (if x4 = (-1) then (wbX8_pairs_181 F (fun yx4 S9 => wbX8_pairs_157 F K x1 x2 x3 n yx4 S9) K x1 x2 x3 x4 S) else (if ((x3 >>> (x4 &&& 31)) &&& 1) = 0 then (wbX8_pairs_181 F (fun yx4 S9 => wbX8_pairs_157 F K x1 x2 x3 n yx4 S9) K x1 x2 x3 x4 S) else (wbX8_pairs_213 F (fun yx4 S9 => wbX8_pairs_157 F K x1 x2 x3 n yx4 S9) K x1 x2 x3 x4 S)))
set_option maxRecDepth 4000 in
theorem bX8_pairs_157 {p : Program} {l : Launch} {e : Env} {R : Room} {s : State} {m : MethodId} {args : Array Value} {below : List Frame} {meth : Method} {c : Code} {D : va_G} {ad : Nat → Nat → Nat} {cs : Nat → ClassId} {P : Nat → Nat → Prop} {sz tU : Nat} {adK adV : Nat → Nat} {F : Nat → Int32 → Int32 → Int32 → St → (St → Prop) → Prop} {d : Nat} {K : St → Prop} {x1 : Int32} {x2 : Int32} {x3 : Int32} (E : Ex p s m args meth c R RX8 cX8_pairs 6 none (3 + (d + 1)) (107 + 25 * (d + 1)) D ad cs P (wA ad P) tU adK adV cnM) (hF0 : ∀ {x1 : Int32} {x2 : Int32} {x3 : Int32} {S : St} {K : St → Prop}, F 0 x1 x2 x3 S K → MV l yX8_pairs cX8_pairs 6 none (3 + d) (107 + 25 * d) D ad cs P sz tU adK adV [.ref (ad 40 0), .int x1, .int x2, .int x3] S K) : ∀ (n : Nat) (x4 : Int32) (S : St) (H : Heap) (locs : List Loc) (ls : Array Slot), wbX8_pairs_157 F K x1 x2 x3 n x4 S → wH D ad cs P (wA ad P) s.heap sz S H locs → lv_has ls 6 [(0, .ref (ad 40 0)), (1, .int x1), (2, .int x2), (3, .int x3), (4, .int x4)] → W p l e R s m args below meth c H locs 0 0 (MQ below (va_Qv K (QX D ad cs P sz) (wA ad P)) args s 0 0 (wA ad P)) (F0 m 157 ls []) := by
  have hx := E.hx
  have hb := E.hb
  intro n
  induction n with
  | zero => intro x4 S H locs ls hw hh hl; exact hw.elim
  | succ n ih =>
    intro x4 S H locs ls hw hh hl
    refine lv_iload hx hb dX8_pairs_157 (lv_at hl 4 rfl) ?_
    refine lv_aload_n hx hb dX8_pairs_159 rfl (lv_at hl 0 rfl) ?_
    refine g_40_8 E hh tb742 (E.hn 40 0 (by decide)) dX8_pairs_160 ?_
    refine lv_icmp_ge (tgt := 219) hx hb dX8_pairs_163 (by decide) (fun c7 => ?_) (fun c7 => ?_)
    · have hw := ifT hw c7
      exact x_vret E hh hw dX8_pairs_219
    · have hw := ifF hw c7
      refine lv_iload hx hb dX8_pairs_166 (lv_at hl 4 rfl) ?_
      refine lv_iconst (v := (-1)) hx hb dX8_pairs_168 (by decide) ?_
      refine lv_icmp_eq (tgt := 181) hx hb dX8_pairs_169 (by decide) (fun c8 => ?_) (fun c8 => ?_)
      · have hw := ifT hw c8
        exact bX8_pairs_181 E hF0 ih hw hh (lv_sub hl [0, 1, 2, 3, 4] rfl)
      · have hw := ifF hw c8
        refine lv_iload_n hx hb dX8_pairs_172 rfl (lv_at hl 3 rfl) ?_
        refine lv_iload hx hb dX8_pairs_173 (lv_at hl 4 rfl) ?_
        refine lv_ishr hx hb dX8_pairs_175 ?_
        refine lv_iconst (v := 1) hx hb dX8_pairs_176 (by decide) ?_
        refine lv_iand hx hb dX8_pairs_177 ?_
        refine lv_if_ne (tgt := 213) hx hb dX8_pairs_178 (by decide) (fun c9 => ?_) (fun c9 => ?_)
        · have hw := ifF hw c9
          exact bX8_pairs_213 E hF0 ih hw hh (lv_sub hl [0, 1, 2, 3, 4] rfl)
        · have hw := ifT hw c9
          exact bX8_pairs_181 E hF0 ih hw hh (lv_sub hl [0, 1, 2, 3, 4] rfl)
def wbX8_pairs_124 (F : Nat → Int32 → Int32 → Int32 → St → (St → Prop) → Prop) (K : St → Prop) : Nat → Int32 → St → Prop
  | 0, _, _ => False
  | n + 1, x5, S => if (S.1 40 0 7) ≤ x5 then (K S) else ((vp_in x5 4 ∧ (vp_in x5 4 ∧ ∀ S24, S24 = su S 57 0 x5.toNatClampNeg (S.1 56 0 x5.toNatClampNeg) → wbX8_pairs_124 F K n (x5 + 1) S24)))
set_option maxRecDepth 4000 in
theorem bX8_pairs_124 {p : Program} {l : Launch} {e : Env} {R : Room} {s : State} {m : MethodId} {args : Array Value} {below : List Frame} {meth : Method} {c : Code} {D : va_G} {ad : Nat → Nat → Nat} {cs : Nat → ClassId} {P : Nat → Nat → Prop} {sz tU : Nat} {adK adV : Nat → Nat} {F : Nat → Int32 → Int32 → Int32 → St → (St → Prop) → Prop} {d : Nat} {K : St → Prop} (E : Ex p s m args meth c R RX8 cX8_pairs 6 none (3 + (d + 1)) (107 + 25 * (d + 1)) D ad cs P (wA ad P) tU adK adV cnM) (hF0 : ∀ {x1 : Int32} {x2 : Int32} {x3 : Int32} {S : St} {K : St → Prop}, F 0 x1 x2 x3 S K → MV l yX8_pairs cX8_pairs 6 none (3 + d) (107 + 25 * d) D ad cs P sz tU adK adV [.ref (ad 40 0), .int x1, .int x2, .int x3] S K) : ∀ (n : Nat) (x5 : Int32) (S : St) (H : Heap) (locs : List Loc) (ls : Array Slot), wbX8_pairs_124 F K n x5 S → wH D ad cs P (wA ad P) s.heap sz S H locs → lv_has ls 6 [(0, .ref (ad 40 0)), (5, .int x5)] → W p l e R s m args below meth c H locs 0 0 (MQ below (va_Qv K (QX D ad cs P sz) (wA ad P)) args s 0 0 (wA ad P)) (F0 m 124 ls []) := by
  have hx := E.hx
  have hb := E.hb
  intro n
  induction n with
  | zero => intro x5 S H locs ls hw hh hl; exact hw.elim
  | succ n ih =>
    intro x5 S H locs ls hw hh hl
    refine lv_iload hx hb dX8_pairs_124 (lv_at hl 1 rfl) ?_
    refine lv_aload_n hx hb dX8_pairs_126 rfl (lv_at hl 0 rfl) ?_
    refine g_40_7 E hh tb741 (E.hn 40 0 (by decide)) dX8_pairs_127 ?_
    refine lv_icmp_ge (tgt := 153) hx hb dX8_pairs_130 (by decide) (fun c22 => ?_) (fun c22 => ?_)
    · have hw := ifT hw c22
      exact x_vret E hh hw dX8_pairs_153
    · have hw := ifF hw c22
      refine lv_aload_n hx hb dX8_pairs_133 rfl (lv_at hl 0 rfl) ?_
      refine g_40_41 E hh tb775 (E.hn 40 0 (by decide)) dX8_pairs_134 ?_
      refine lv_iload hx hb dX8_pairs_137 (lv_at hl 1 rfl) ?_
      refine lv_aload_n hx hb dX8_pairs_139 rfl (lv_at hl 0 rfl) ?_
      refine g_40_40 E hh tb774 (E.hn 40 0 (by decide)) dX8_pairs_140 ?_
      refine lv_iload hx hb dX8_pairs_143 (lv_at hl 1 rfl) ?_
      obtain ⟨hi23, hw⟩ := hw
      refine x_iald E hh (E.hn 56 0 (by decide)) ly_56 hi23 dX8_pairs_145 ?_
      obtain ⟨hi24, hw⟩ := hw
      refine x_iast E hh (E.hn 57 0 (by decide)) ly_57 hi24 dX8_pairs_146 (fun S24 H locs e24 hh => ?_)
      have hw := hw S24 e24
      refine lv_iinc (k := 1) (v := x5 + 1) (lv' := [(5, .int (x5 + 1)), (0, .ref (ad 40 0))]) hx hb dX8_pairs_147 hl rfl rfl (by decide) rfl (fun ls hl => ?_)
      refine lv_goto (tgt := 124) hx hb dX8_pairs_150 (by decide) ?_
      exact ih (x5 + 1) S24 _ _ _ hw hh (lv_sub hl [1, 0] rfl)
def wbX8_pairs_115 (F : Nat → Int32 → Int32 → Int32 → St → (St → Prop) → Prop) (K : St → Prop) (x4 : Int32) (S : St) : Prop := (∀ S21, S21 = su S 40 0 43 x4 → ∃ k, wbX8_pairs_124 F K k 0 S21)
set_option maxRecDepth 4000 in
theorem bX8_pairs_115 {p : Program} {l : Launch} {e : Env} {R : Room} {s : State} {m : MethodId} {args : Array Value} {below : List Frame} {meth : Method} {c : Code} {D : va_G} {ad : Nat → Nat → Nat} {cs : Nat → ClassId} {P : Nat → Nat → Prop} {sz tU : Nat} {adK adV : Nat → Nat} {F : Nat → Int32 → Int32 → Int32 → St → (St → Prop) → Prop} {d : Nat} {K : St → Prop} {x4 : Int32} {S : St} {H : Heap} {locs : List Loc} {ls : Array Slot} (E : Ex p s m args meth c R RX8 cX8_pairs 6 none (3 + (d + 1)) (107 + 25 * (d + 1)) D ad cs P (wA ad P) tU adK adV cnM) (hF0 : ∀ {x1 : Int32} {x2 : Int32} {x3 : Int32} {S : St} {K : St → Prop}, F 0 x1 x2 x3 S K → MV l yX8_pairs cX8_pairs 6 none (3 + d) (107 + 25 * d) D ad cs P sz tU adK adV [.ref (ad 40 0), .int x1, .int x2, .int x3] S K) (hw : wbX8_pairs_115 F K x4 S) (hh : wH D ad cs P (wA ad P) s.heap sz S H locs) (hl : lv_has ls 6 [(0, .ref (ad 40 0)), (4, .int x4)]) : W p l e R s m args below meth c H locs 0 0 (MQ below (va_Qv K (QX D ad cs P sz) (wA ad P)) args s 0 0 (wA ad P)) (F0 m 115 ls []) := by
  have hx := E.hx
  have hb := E.hb
  refine lv_aload_n hx hb dX8_pairs_115 rfl (lv_at hl 0 rfl) ?_
  refine lv_iload hx hb dX8_pairs_116 (lv_at hl 1 rfl) ?_
  refine p_40_43 E hh tb777 (E.hn 40 0 (by decide)) dX8_pairs_118 (fun S21 H locs e21 hh => ?_)
  have hw := hw S21 e21
  refine lv_iconst (v := 0) hx hb dX8_pairs_121 (by decide) ?_
  refine lv_istore (lv' := [(5, .int 0), (0, .ref (ad 40 0)), (4, .int x4)]) hx hb dX8_pairs_122 hl (by decide) rfl (fun ls hl => ?_)
  obtain ⟨k, hw⟩ := hw
  exact bX8_pairs_124 E hF0 k 0 S21 _ _ _ hw hh (lv_sub hl [1, 0] rfl)
def wbX8_pairs_79 (F : Nat → Int32 → Int32 → Int32 → St → (St → Prop) → Prop) (R36 : Int32 → Int32 → St → Prop) (K : St → Prop) (x5 : Int32) (v0 : Int32) (v1 : Int32) (S : St) : Prop := R36 (v1 + v0) (x5 + 1) S
set_option maxRecDepth 4000 in
theorem bX8_pairs_79 {p : Program} {l : Launch} {e : Env} {R : Room} {s : State} {m : MethodId} {args : Array Value} {below : List Frame} {meth : Method} {c : Code} {D : va_G} {ad : Nat → Nat → Nat} {cs : Nat → ClassId} {P : Nat → Nat → Prop} {sz tU : Nat} {adK adV : Nat → Nat} {F : Nat → Int32 → Int32 → Int32 → St → (St → Prop) → Prop} {d : Nat} {R36 : Int32 → Int32 → St → Prop} {K : St → Prop} {x5 : Int32} {v0 : Int32} {v1 : Int32} {S : St} {H : Heap} {locs : List Loc} {ls : Array Slot} (E : Ex p s m args meth c R RX8 cX8_pairs 6 none (3 + (d + 1)) (107 + 25 * (d + 1)) D ad cs P (wA ad P) tU adK adV cnM) (hF0 : ∀ {x1 : Int32} {x2 : Int32} {x3 : Int32} {S : St} {K : St → Prop}, F 0 x1 x2 x3 S K → MV l yX8_pairs cX8_pairs 6 none (3 + d) (107 + 25 * d) D ad cs P sz tU adK adV [.ref (ad 40 0), .int x1, .int x2, .int x3] S K) (hR36 : ∀ (z4 : Int32) (z5 : Int32) (S : St) (H : Heap) (locs : List Loc) (ls : Array Slot), R36 z4 z5 S → wH D ad cs P (wA ad P) s.heap sz S H locs → lv_has ls 6 [(0, .ref (ad 40 0)), (4, .int z4), (5, .int z5)] → W p l e R s m args below meth c H locs 0 0 (MQ below (va_Qv K (QX D ad cs P sz) (wA ad P)) args s 0 0 (wA ad P)) (F0 m 36 ls [])) (hw : wbX8_pairs_79 F R36 K x5 v0 v1 S) (hh : wH D ad cs P (wA ad P) s.heap sz S H locs) (hl : lv_has ls 6 [(0, .ref (ad 40 0)), (5, .int x5)]) : W p l e R s m args below meth c H locs 0 0 (MQ below (va_Qv K (QX D ad cs P sz) (wA ad P)) args s 0 0 (wA ad P)) (F0 m 79 ls [.int v0, .int v1]) := by
  have hx := E.hx
  have hb := E.hb
  refine lv_iadd hx hb dX8_pairs_79 ?_
  refine lv_istore (lv' := [(4, .int (v1 + v0)), (0, .ref (ad 40 0)), (5, .int x5)]) hx hb dX8_pairs_80 hl (by decide) rfl (fun ls hl => ?_)
  refine lv_iinc (k := 2) (v := x5 + 1) (lv' := [(5, .int (x5 + 1)), (4, .int (v1 + v0)), (0, .ref (ad 40 0))]) hx hb dX8_pairs_82 hl rfl rfl (by decide) rfl (fun ls hl => ?_)
  refine lv_goto (tgt := 36) hx hb dX8_pairs_85 (by decide) ?_
  exact hR36 (v1 + v0) (x5 + 1) S _ _ _ hw hh (lv_sub hl [2, 1, 0] rfl)
def wbX8_pairs_36 (F : Nat → Int32 → Int32 → Int32 → St → (St → Prop) → Prop) (K : St → Prop) : Nat → Int32 → Int32 → St → Prop
  | 0, _, _, _ => False
  | n + 1, x4, x5, S => if (S.1 40 0 7) ≤ x5 then ((∀ S13, S13 = su S 40 0 42 ((S.1 40 0 42) + 1) → if (S13.1 40 0 42) = 1 then (wbX8_pairs_115 F K x4 S13) else (if x4 ≤ (S13.1 40 0 43) then (K S13) else (wbX8_pairs_115 F K x4 S13)))) else ((vp_in x5 4 ∧ if (S.1 56 0 x5.toNatClampNeg) = (-1) then (wbX8_pairs_79 F (fun yx4 yx5 S9 => wbX8_pairs_36 F K n yx4 yx5 S9) K x5 0 x4 S) else ((vp_in x5 4 ∧ (vp_in ((4 * x5) + (S.1 56 0 x5.toNatClampNeg)) 16 ∧ wbX8_pairs_79 F (fun yx4 yx5 S9 => wbX8_pairs_36 F K n yx4 yx5 S9) K x5 (S.1 59 0 ((4 * x5) + (S.1 56 0 x5.toNatClampNeg)).toNatClampNeg) x4 S)))))
set_option maxRecDepth 4000 in
theorem bX8_pairs_36 {p : Program} {l : Launch} {e : Env} {R : Room} {s : State} {m : MethodId} {args : Array Value} {below : List Frame} {meth : Method} {c : Code} {D : va_G} {ad : Nat → Nat → Nat} {cs : Nat → ClassId} {P : Nat → Nat → Prop} {sz tU : Nat} {adK adV : Nat → Nat} {F : Nat → Int32 → Int32 → Int32 → St → (St → Prop) → Prop} {d : Nat} {K : St → Prop} (E : Ex p s m args meth c R RX8 cX8_pairs 6 none (3 + (d + 1)) (107 + 25 * (d + 1)) D ad cs P (wA ad P) tU adK adV cnM) (hF0 : ∀ {x1 : Int32} {x2 : Int32} {x3 : Int32} {S : St} {K : St → Prop}, F 0 x1 x2 x3 S K → MV l yX8_pairs cX8_pairs 6 none (3 + d) (107 + 25 * d) D ad cs P sz tU adK adV [.ref (ad 40 0), .int x1, .int x2, .int x3] S K) : ∀ (n : Nat) (x4 : Int32) (x5 : Int32) (S : St) (H : Heap) (locs : List Loc) (ls : Array Slot), wbX8_pairs_36 F K n x4 x5 S → wH D ad cs P (wA ad P) s.heap sz S H locs → lv_has ls 6 [(0, .ref (ad 40 0)), (4, .int x4), (5, .int x5)] → W p l e R s m args below meth c H locs 0 0 (MQ below (va_Qv K (QX D ad cs P sz) (wA ad P)) args s 0 0 (wA ad P)) (F0 m 36 ls []) := by
  have hx := E.hx
  have hb := E.hb
  intro n
  induction n with
  | zero => intro x4 x5 S H locs ls hw hh hl; exact hw.elim
  | succ n ih =>
    intro x4 x5 S H locs ls hw hh hl
    refine lv_iload hx hb dX8_pairs_36 (lv_at hl 2 rfl) ?_
    refine lv_aload_n hx hb dX8_pairs_38 rfl (lv_at hl 0 rfl) ?_
    refine g_40_7 E hh tb741 (E.hn 40 0 (by decide)) dX8_pairs_39 ?_
    refine lv_icmp_ge (tgt := 88) hx hb dX8_pairs_42 (by decide) (fun c12 => ?_) (fun c12 => ?_)
    · have hw := ifT hw c12
      refine lv_aload_n hx hb dX8_pairs_88 rfl (lv_at hl 0 rfl) ?_
      refine lv_dup hx hb dX8_pairs_89 rfl ?_
      refine g_40_42 E hh tb776 (E.hn 40 0 (by decide)) dX8_pairs_90 ?_
      refine lv_iconst (v := 1) hx hb dX8_pairs_93 (by decide) ?_
      refine lv_iadd hx hb dX8_pairs_94 ?_
      refine p_40_42 E hh tb776 (E.hn 40 0 (by decide)) dX8_pairs_95 (fun S13 H locs e13 hh => ?_)
      have hw := hw S13 e13
      refine lv_aload_n hx hb dX8_pairs_98 rfl (lv_at hl 0 rfl) ?_
      refine g_40_42 E hh tb776 (E.hn 40 0 (by decide)) dX8_pairs_99 ?_
      refine lv_iconst (v := 1) hx hb dX8_pairs_102 (by decide) ?_
      refine lv_icmp_eq (tgt := 115) hx hb dX8_pairs_103 (by decide) (fun c14 => ?_) (fun c14 => ?_)
      · have hw := ifT hw c14
        exact bX8_pairs_115 E hF0 hw hh (lv_sub hl [0, 1] rfl)
      · have hw := ifF hw c14
        refine lv_iload hx hb dX8_pairs_106 (lv_at hl 1 rfl) ?_
        refine lv_aload_n hx hb dX8_pairs_108 rfl (lv_at hl 0 rfl) ?_
        refine g_40_43 E hh tb777 (E.hn 40 0 (by decide)) dX8_pairs_109 ?_
        refine lv_icmp_le (tgt := 153) hx hb dX8_pairs_112 (by decide) (fun c15 => ?_) (fun c15 => ?_)
        · have hw := ifT hw c15
          exact x_vret E hh hw dX8_pairs_153
        · have hw := ifF hw c15
          exact bX8_pairs_115 E hF0 hw hh (lv_sub hl [0, 1] rfl)
    · have hw := ifF hw c12
      refine lv_iload hx hb dX8_pairs_45 (lv_at hl 1 rfl) ?_
      refine lv_aload_n hx hb dX8_pairs_47 rfl (lv_at hl 0 rfl) ?_
      refine g_40_40 E hh tb774 (E.hn 40 0 (by decide)) dX8_pairs_48 ?_
      refine lv_iload hx hb dX8_pairs_51 (lv_at hl 2 rfl) ?_
      obtain ⟨hi16, hw⟩ := hw
      refine x_iald E hh (E.hn 56 0 (by decide)) ly_56 hi16 dX8_pairs_53 ?_
      refine lv_iconst (v := (-1)) hx hb dX8_pairs_54 (by decide) ?_
      refine lv_icmp_ne (tgt := 62) hx hb dX8_pairs_55 (by decide) (fun c17 => ?_) (fun c17 => ?_)
      · have hw := ifF hw c17
        refine lv_aload_n hx hb dX8_pairs_62 rfl (lv_at hl 0 rfl) ?_
        refine g_40_45 E hh tb779 (E.hn 40 0 (by decide)) dX8_pairs_63 ?_
        refine lv_iconst (v := 4) hx hb dX8_pairs_66 (by decide) ?_
        refine lv_iload hx hb dX8_pairs_67 (lv_at hl 2 rfl) ?_
        refine lv_imul hx hb dX8_pairs_69 ?_
        refine lv_aload_n hx hb dX8_pairs_70 rfl (lv_at hl 0 rfl) ?_
        refine g_40_40 E hh tb774 (E.hn 40 0 (by decide)) dX8_pairs_71 ?_
        refine lv_iload hx hb dX8_pairs_74 (lv_at hl 2 rfl) ?_
        obtain ⟨hi18, hw⟩ := hw
        refine x_iald E hh (E.hn 56 0 (by decide)) ly_56 hi18 dX8_pairs_76 ?_
        refine lv_iadd hx hb dX8_pairs_77 ?_
        obtain ⟨hi19, hw⟩ := hw
        refine x_iald E hh (E.hn 59 0 (by decide)) ly_59 hi19 dX8_pairs_78 ?_
        exact bX8_pairs_79 E hF0 ih hw hh (lv_sub hl [0, 2] rfl)
      · have hw := ifT hw c17
        refine lv_iconst (v := 0) hx hb dX8_pairs_58 (by decide) ?_
        refine lv_goto (tgt := 79) hx hb dX8_pairs_59 (by decide) ?_
        exact bX8_pairs_79 E hF0 ih hw hh (lv_sub hl [0, 2] rfl)
def wbX8_pairs_30 (F : Nat → Int32 → Int32 → Int32 → St → (St → Prop) → Prop) (K : St → Prop) (S : St) : Prop := ∃ k, wbX8_pairs_36 F K k 0 0 S
set_option maxRecDepth 4000 in
theorem bX8_pairs_30 {p : Program} {l : Launch} {e : Env} {R : Room} {s : State} {m : MethodId} {args : Array Value} {below : List Frame} {meth : Method} {c : Code} {D : va_G} {ad : Nat → Nat → Nat} {cs : Nat → ClassId} {P : Nat → Nat → Prop} {sz tU : Nat} {adK adV : Nat → Nat} {F : Nat → Int32 → Int32 → Int32 → St → (St → Prop) → Prop} {d : Nat} {K : St → Prop} {S : St} {H : Heap} {locs : List Loc} {ls : Array Slot} (E : Ex p s m args meth c R RX8 cX8_pairs 6 none (3 + (d + 1)) (107 + 25 * (d + 1)) D ad cs P (wA ad P) tU adK adV cnM) (hF0 : ∀ {x1 : Int32} {x2 : Int32} {x3 : Int32} {S : St} {K : St → Prop}, F 0 x1 x2 x3 S K → MV l yX8_pairs cX8_pairs 6 none (3 + d) (107 + 25 * d) D ad cs P sz tU adK adV [.ref (ad 40 0), .int x1, .int x2, .int x3] S K) (hw : wbX8_pairs_30 F K S) (hh : wH D ad cs P (wA ad P) s.heap sz S H locs) (hl : lv_has ls 6 [(0, .ref (ad 40 0))]) : W p l e R s m args below meth c H locs 0 0 (MQ below (va_Qv K (QX D ad cs P sz) (wA ad P)) args s 0 0 (wA ad P)) (F0 m 30 ls []) := by
  have hx := E.hx
  have hb := E.hb
  refine lv_iconst (v := 0) hx hb dX8_pairs_30 (by decide) ?_
  refine lv_istore (lv' := [(4, .int 0), (0, .ref (ad 40 0))]) hx hb dX8_pairs_31 hl (by decide) rfl (fun ls hl => ?_)
  refine lv_iconst (v := 0) hx hb dX8_pairs_33 (by decide) ?_
  refine lv_istore (lv' := [(5, .int 0), (4, .int 0), (0, .ref (ad 40 0))]) hx hb dX8_pairs_34 hl (by decide) rfl (fun ls hl => ?_)
  obtain ⟨k, hw⟩ := hw
  exact bX8_pairs_36 E hF0 k 0 0 S _ _ _ hw hh (lv_sub hl [2, 1, 0] rfl)
def wpX8_pairs (F : Nat → Int32 → Int32 → Int32 → St → (St → Prop) → Prop) (x1 : Int32) (x2 : Int32) (x3 : Int32) (S : St) (K : St → Prop) : Prop := if x1 = (S.1 40 0 7) then (if x2 = 0 then (wpX8_isLawful S (fun r5 S5 => if r5 = 0 then (K S5) else (wbX8_pairs_30 F K S5))) else (wpX8_isSteady S (fun r3 S3 => if r3 = 0 then (K S3) else (wbX8_pairs_30 F K S3)))) else (∃ k, wbX8_pairs_157 F K x1 x2 x3 k (-1) S)
set_option maxRecDepth 4000 in
theorem bX8_pairs {p : Program} {l : Launch} {e : Env} {R : Room} {s : State} {m : MethodId} {args : Array Value} {below : List Frame} {meth : Method} {c : Code} {D : va_G} {ad : Nat → Nat → Nat} {cs : Nat → ClassId} {P : Nat → Nat → Prop} {sz tU : Nat} {adK adV : Nat → Nat} {F : Nat → Int32 → Int32 → Int32 → St → (St → Prop) → Prop} {d : Nat} {K : St → Prop} {x1 : Int32} {x2 : Int32} {x3 : Int32} {S : St} {H : Heap} {locs : List Loc} {ls : Array Slot} (E : Ex p s m args meth c R RX8 cX8_pairs 6 none (3 + (d + 1)) (107 + 25 * (d + 1)) D ad cs P (wA ad P) tU adK adV cnM) (hF0 : ∀ {x1 : Int32} {x2 : Int32} {x3 : Int32} {S : St} {K : St → Prop}, F 0 x1 x2 x3 S K → MV l yX8_pairs cX8_pairs 6 none (3 + d) (107 + 25 * d) D ad cs P sz tU adK adV [.ref (ad 40 0), .int x1, .int x2, .int x3] S K) (hw : wpX8_pairs F x1 x2 x3 S K) (hh : wH D ad cs P (wA ad P) s.heap sz S H locs) (hl : lv_has ls 6 [(0, .ref (ad 40 0)), (1, .int x1), (2, .int x2), (3, .int x3)]) : W p l e R s m args below meth c H locs 0 0 (MQ below (va_Qv K (QX D ad cs P sz) (wA ad P)) args s 0 0 (wA ad P)) (F0 m 0 ls []) := by
  have hx := E.hx
  have hb := E.hb
  refine lv_iload_n hx hb dX8_pairs_0 rfl (lv_at hl 1 rfl) ?_
  refine lv_aload_n hx hb dX8_pairs_1 rfl (lv_at hl 0 rfl) ?_
  refine g_40_7 E hh tb741 (E.hn 40 0 (by decide)) dX8_pairs_2 ?_
  refine lv_icmp_ne (tgt := 154) hx hb dX8_pairs_5 (by decide) (fun c1 => ?_) (fun c1 => ?_)
  · have hw := ifF hw c1
    refine lv_iconst (v := (-1)) hx hb dX8_pairs_154 (by decide) ?_
    refine lv_istore (lv' := [(4, .int (-1)), (0, .ref (ad 40 0)), (1, .int x1), (2, .int x2), (3, .int x3)]) hx hb dX8_pairs_155 hl (by decide) rfl (fun ls hl => ?_)
    obtain ⟨k, hw⟩ := hw
    exact bX8_pairs_157 E hF0 k (-1) S _ _ _ hw hh (lv_sub hl [1, 2, 3, 4, 0] rfl)
  · have hw := ifT hw c1
    refine lv_iload_n hx hb dX8_pairs_8 rfl (lv_at hl 2 rfl) ?_
    refine lv_if_ne (tgt := 22) hx hb dX8_pairs_9 (by decide) (fun c2 => ?_) (fun c2 => ?_)
    · have hw := ifF hw c2
      refine lv_aload_n hx hb dX8_pairs_22 rfl (lv_at hl 0 rfl) ?_
      refine x_ci E.hA hh (x_runV E hh (mX8_isSteady E.hI E.hn hw) kX8_isSteady tb1116 (E.hn 40 0 (by decide)) rv_40 ⟨by omega, by omega⟩ rfl hl.1 rfl (Nat.le_of_ble_eq_true rfl) dX8_pairs_23 ⟨Nat.zero_le _, Nat.zero_le _⟩) (fun r3 S3 H locs hw hh => ?_)
      have hq3 := hw.2
      have hw := hw.1
      refine lv_if_ne (tgt := 30) hx hb dX8_pairs_26 (by decide) (fun c4 => ?_) (fun c4 => ?_)
      · have hw := ifF hw c4
        exact bX8_pairs_30 E hF0 hw hh (lv_sub hl [0] rfl)
      · have hw := ifT hw c4
        exact x_vret E hh hw dX8_pairs_29
    · have hw := ifT hw c2
      refine lv_aload_n hx hb dX8_pairs_12 rfl (lv_at hl 0 rfl) ?_
      refine x_ci E.hA hh (x_runV E hh (mX8_isLawful E.hI E.hn hw) kX8_isLawful tb1112 (E.hn 40 0 (by decide)) rv_40 ⟨by omega, by omega⟩ rfl hl.1 rfl (Nat.le_of_ble_eq_true rfl) dX8_pairs_13 ⟨Nat.zero_le _, Nat.zero_le _⟩) (fun r5 S5 H locs hw hh => ?_)
      have hq5 := hw.2
      have hw := hw.1
      refine lv_if_ne (tgt := 30) hx hb dX8_pairs_16 (by decide) (fun c6 => ?_) (fun c6 => ?_)
      · have hw := ifF hw c6
        exact bX8_pairs_30 E hF0 hw hh (lv_sub hl [0] rfl)
      · have hw := ifT hw c6
        refine lv_goto (tgt := 29) hx hb dX8_pairs_19 (by decide) ?_
        exact x_vret E hh hw dX8_pairs_29
def wpG5 : Nat → Nat → Int32 → Int32 → Int32 → St → (St → Prop) → Prop
  | 0 => fun _ _ _ _ _ _ => False
  | d + 1 => fun tag x1 x2 x3 S K => wpX8_pairs (wpG5 d) x1 x2 x3 S K
theorem mG5 {l : Launch} {D : va_G} {ad : Nat → Nat → Nat} {cs : Nat → ClassId} {P : Nat → Nat → Prop} {sz tU : Nat} {adK adV : Nat → Nat} (hI : wI ad P) (hn : ∀ kd i, i < cnM kd → P kd i) : ∀ d : Nat, (∀ {x1 : Int32} {x2 : Int32} {x3 : Int32} {S : St} {K : St → Prop}, wpG5 d 0 x1 x2 x3 S K → MV l yX8_pairs cX8_pairs 6 none (3 + d) (107 + 25 * d) D ad cs P sz tU adK adV [.ref (ad 40 0), .int x1, .int x2, .int x3] S K) := by
  intro d
  induction d with
  | zero => exact (fun hw => hw.elim)
  | succ d ih =>
    have hF0 := @ih
    refine ?_
    · intro x1 x2 x3 S K  hw
      have hw : wpX8_pairs (wpG5 d) x1 x2 x3 S K := hw
      exact Met_of (by decide) (Nat.le_of_ble_eq_true rfl) hI hn (fun p e R s m args below meth c ls E hl hh => bX8_pairs E @hF0  hw hh (lv_sub hl [0, 1, 2, 3] rfl))
theorem mG5_X8_pairs {l : Launch} {D : va_G} {ad : Nat → Nat → Nat} {cs : Nat → ClassId} {P : Nat → Nat → Prop} {sz tU : Nat} {adK adV : Nat → Nat} {x1 : Int32} {x2 : Int32} {x3 : Int32} {S : St} {K : St → Prop} (hI : wI ad P) (hn : ∀ kd i, i < cnM kd → P kd i) (d : Nat) (hw : wpG5 d 0 x1 x2 x3 S K) : MV l yX8_pairs cX8_pairs 6 none (3 + d) (107 + 25 * d) D ad cs P sz tU adK adV [.ref (ad 40 0), .int x1, .int x2, .int x3] S K := (mG5 hI hn d)  hw
def wpX8_goes (x1 : Int32) (S : St) (K : Int32 → St → Prop) : Prop := wpX8_gathers S (fun S1 => (∀ S2, S2 = su S1 40 0 42 0 → (∀ S3, S3 = su S2 40 0 43 0 → wpG5 8 0 0 x1 0 S3 (fun S4 => K (S4.1 40 0 42) S4))))
set_option maxRecDepth 4000 in
theorem bX8_goes {p : Program} {l : Launch} {e : Env} {R : Room} {s : State} {m : MethodId} {args : Array Value} {below : List Frame} {meth : Method} {c : Code} {D : va_G} {ad : Nat → Nat → Nat} {cs : Nat → ClassId} {P : Nat → Nat → Prop} {sz tU : Nat} {adK adV : Nat → Nat} {K : Int32 → St → Prop} {x1 : Int32} {S : St} {H : Heap} {locs : List Loc} {ls : Array Slot} (E : Ex p s m args meth c R RX8 cX8_goes 2 (some .int) 71 1669 D ad cs P (wA ad P) tU adK adV cnM) (hw : wpX8_goes x1 S K) (hh : wH D ad cs P (wA ad P) s.heap sz S H locs) (hl : lv_has ls 2 [(0, .ref (ad 40 0)), (1, .int x1)]) : W p l e R s m args below meth c H locs 0 0 (MQ below (va_Qi K (QX D ad cs P sz) (wA ad P)) args s 0 0 (wA ad P)) (F0 m 0 ls []) := by
  have hx := E.hx
  have hb := E.hb
  refine lv_aload_n hx hb dX8_goes_0 rfl (lv_at hl 0 rfl) ?_
  refine x_cv E.hA hh (x_runV E hh (mX8_gathers E.hI E.hn hw) kX8_gathers tb1104 (E.hn 40 0 (by decide)) rv_40 ⟨by decide, by decide⟩ rfl hl.1 rfl (Nat.le_of_ble_eq_true rfl) dX8_goes_1 ⟨Nat.zero_le _, Nat.zero_le _⟩) (fun S1 H locs hw hh => ?_)
  refine lv_aload_n hx hb dX8_goes_4 rfl (lv_at hl 0 rfl) ?_
  refine lv_iconst (v := 0) hx hb dX8_goes_5 (by decide) ?_
  refine p_40_42 E hh tb776 (E.hn 40 0 (by decide)) dX8_goes_6 (fun S2 H locs e2 hh => ?_)
  have hw := hw S2 e2
  refine lv_aload_n hx hb dX8_goes_9 rfl (lv_at hl 0 rfl) ?_
  refine lv_iconst (v := 0) hx hb dX8_goes_10 (by decide) ?_
  refine p_40_43 E hh tb777 (E.hn 40 0 (by decide)) dX8_goes_11 (fun S3 H locs e3 hh => ?_)
  have hw := hw S3 e3
  refine lv_aload_n hx hb dX8_goes_14 rfl (lv_at hl 0 rfl) ?_
  refine lv_iconst (v := 0) hx hb dX8_goes_15 (by decide) ?_
  refine lv_iload_n hx hb dX8_goes_16 rfl (lv_at hl 1 rfl) ?_
  refine lv_iconst (v := 0) hx hb dX8_goes_17 (by decide) ?_
  refine x_cv E.hA hh (x_runV E hh (mG5_X8_pairs E.hI E.hn 8 hw) kX8_pairs tb1108 (E.hn 40 0 (by decide)) rv_40 ⟨by decide, by decide⟩ rfl hl.1 rfl (Nat.le_of_ble_eq_true rfl) dX8_goes_18 ⟨Nat.zero_le _, Nat.zero_le _⟩) (fun S4 H locs hw hh => ?_)
  refine lv_aload_n hx hb dX8_goes_21 rfl (lv_at hl 0 rfl) ?_
  refine g_40_42 E hh tb776 (E.hn 40 0 (by decide)) dX8_goes_22 ?_
  exact x_iret E hh hw dX8_goes_25
theorem kX8_goes : kI yX8_goes cX8_goes 2 (some .int) 1 := ⟨tb1102, ts55, tb15, tb1103, by decide, by decide, by decide +kernel⟩
theorem mX8_goes {l : Launch} {D : va_G} {ad : Nat → Nat → Nat} {cs : Nat → ClassId} {P : Nat → Nat → Prop} {sz tU : Nat} {adK adV : Nat → Nat} {x1 : Int32} {S : St} {K : Int32 → St → Prop} (hI : wI ad P) (hn : ∀ kd i, i < cnM kd → P kd i) (hw : wpX8_goes x1 S K) : MI l yX8_goes cX8_goes 2 (some .int) 71 1669 D ad cs P sz tU adK adV [.ref (ad 40 0), .int x1] S K :=
  Met_of (by decide) (Nat.le_of_ble_eq_true rfl) hI hn (fun p e R s m args below meth c ls E hl hh => bX8_goes E  hw hh (lv_sub hl [0, 1] rfl))
def wpX8_pairings (x1 : Int32) (S : St) (K : Int32 → St → Prop) : Prop := wpX8_in x1.toInt64 0 1 S (fun r1 S1 => if r1 = 0 then (K (-2) S1) else (wpX8_goes x1 S1 (fun r3 S3 => K r3 S3)))
set_option maxRecDepth 4000 in
theorem bX8_pairings {p : Program} {l : Launch} {e : Env} {R : Room} {s : State} {m : MethodId} {args : Array Value} {below : List Frame} {meth : Method} {c : Code} {D : va_G} {ad : Nat → Nat → Nat} {cs : Nat → ClassId} {P : Nat → Nat → Prop} {sz tU : Nat} {adK adV : Nat → Nat} {K : Int32 → St → Prop} {x1 : Int32} {S : St} {H : Heap} {locs : List Loc} {ls : Array Slot} (E : Ex p s m args meth c R RX8 cX8_pairings 2 (some .int) 72 1690 D ad cs P (wA ad P) tU adK adV cnM) (hw : wpX8_pairings x1 S K) (hh : wH D ad cs P (wA ad P) s.heap sz S H locs) (hl : lv_has ls 2 [(0, .ref (ad 40 0)), (1, .int x1)]) : W p l e R s m args below meth c H locs 0 0 (MQ below (va_Qi K (QX D ad cs P sz) (wA ad P)) args s 0 0 (wA ad P)) (F0 m 0 ls []) := by
  have hx := E.hx
  have hb := E.hb
  refine lv_iload_n hx hb dX8_pairings_0 rfl (lv_at hl 1 rfl) ?_
  refine lv_i2l hx hb dX8_pairings_1 rfl ?_
  refine lv_lconst (v := 0) hx hb dX8_pairings_2 (by decide) ?_
  refine lv_lconst (v := 1) hx hb dX8_pairings_3 (by decide) ?_
  refine x_ci E.hA hh (x_runS E hh (mX8_in E.hI (fun _ _ h => absurd h (Nat.not_lt_zero _)) hw) kX8_in tb914 ⟨by decide, by decide⟩ rfl hl.1 rfl (Nat.le_of_ble_eq_true rfl) dX8_pairings_4 ⟨Nat.zero_le _, Nat.zero_le _⟩) (fun r1 S1 H locs hw hh => ?_)
  have hq1 := hw.2
  have hw := hw.1
  refine lv_if_eq (tgt := 18) hx hb dX8_pairings_7 (by decide) (fun c2 => ?_) (fun c2 => ?_)
  · have hw := ifT hw c2
    refine lv_bipush (v := (-2)) hx hb dX8_pairings_18 (by decide) ?_
    exact x_iret E hh hw dX8_pairings_20
  · have hw := ifF hw c2
    refine lv_aload_n hx hb dX8_pairings_10 rfl (lv_at hl 0 rfl) ?_
    refine lv_iload_n hx hb dX8_pairings_11 rfl (lv_at hl 1 rfl) ?_
    refine x_ci E.hA hh (x_runV E hh (mX8_goes E.hI E.hn hw) kX8_goes tb1100 (E.hn 40 0 (by decide)) rv_40 ⟨by decide, by decide⟩ rfl hl.1 rfl (Nat.le_of_ble_eq_true rfl) dX8_pairings_12 ⟨Nat.zero_le _, Nat.zero_le _⟩) (fun r3 S3 H locs hw hh => ?_)
    refine lv_goto (tgt := 20) hx hb dX8_pairings_15 (by decide) ?_
    exact x_iret E hh hw dX8_pairings_20
theorem kX8_pairings : kI yX8_pairings cX8_pairings 2 (some .int) 1 := ⟨tb1097, tb1098, tb15, tb1099, by decide, by decide, by decide +kernel⟩
theorem mX8_pairings {l : Launch} {D : va_G} {ad : Nat → Nat → Nat} {cs : Nat → ClassId} {P : Nat → Nat → Prop} {sz tU : Nat} {adK adV : Nat → Nat} {x1 : Int32} {S : St} {K : Int32 → St → Prop} (hI : wI ad P) (hn : ∀ kd i, i < cnM kd → P kd i) (hw : wpX8_pairings x1 S K) : MI l yX8_pairings cX8_pairings 2 (some .int) 72 1690 D ad cs P sz tU adK adV [.ref (ad 40 0), .int x1] S K :=
  Met_of (by decide) (Nat.le_of_ble_eq_true rfl) hI hn (fun p e R s m args below meth c ls E hl hh => bX8_pairings E  hw hh (lv_sub hl [0, 1] rfl))
def wbX8_best_26 (K : Int32 → St → Prop) (x1 : Int32) (x2 : Int32) (S : St) : Prop := wpX8_goes x1 S (fun r6 S6 => if r6 = 0 then (K (-3) S6) else (if x2 = (-1) then (K (S6.1 40 0 43) S6) else ((vp_in x2 4 ∧ K (S6.1 57 0 x2.toNatClampNeg) S6))))
set_option maxRecDepth 4000 in
theorem bX8_best_26 {p : Program} {l : Launch} {e : Env} {R : Room} {s : State} {m : MethodId} {args : Array Value} {below : List Frame} {meth : Method} {c : Code} {D : va_G} {ad : Nat → Nat → Nat} {cs : Nat → ClassId} {P : Nat → Nat → Prop} {sz tU : Nat} {adK adV : Nat → Nat} {K : Int32 → St → Prop} {x1 : Int32} {x2 : Int32} {S : St} {H : Heap} {locs : List Loc} {ls : Array Slot} (E : Ex p s m args meth c R RX8 cX8_best 3 (some .int) 72 1690 D ad cs P (wA ad P) tU adK adV cnM) (hw : wbX8_best_26 K x1 x2 S) (hh : wH D ad cs P (wA ad P) s.heap sz S H locs) (hl : lv_has ls 3 [(0, .ref (ad 40 0)), (1, .int x1), (2, .int x2)]) : W p l e R s m args below meth c H locs 0 0 (MQ below (va_Qi K (QX D ad cs P sz) (wA ad P)) args s 0 0 (wA ad P)) (F0 m 26 ls []) := by
  have hx := E.hx
  have hb := E.hb
  refine lv_aload_n hx hb dX8_best_26 rfl (lv_at hl 0 rfl) ?_
  refine lv_iload_n hx hb dX8_best_27 rfl (lv_at hl 1 rfl) ?_
  refine x_ci E.hA hh (x_runV E hh (mX8_goes E.hI E.hn hw) kX8_goes tb1100 (E.hn 40 0 (by decide)) rv_40 ⟨by decide, by decide⟩ rfl hl.1 rfl (Nat.le_of_ble_eq_true rfl) dX8_best_28 ⟨Nat.zero_le _, Nat.zero_le _⟩) (fun r6 S6 H locs hw hh => ?_)
  refine lv_if_ne (tgt := 37) hx hb dX8_best_31 (by decide) (fun c7 => ?_) (fun c7 => ?_)
  · have hw := ifF hw c7
    refine lv_iload_n hx hb dX8_best_37 rfl (lv_at hl 2 rfl) ?_
    refine lv_iconst (v := (-1)) hx hb dX8_best_38 (by decide) ?_
    refine lv_icmp_ne (tgt := 49) hx hb dX8_best_39 (by decide) (fun c8 => ?_) (fun c8 => ?_)
    · have hw := ifF hw c8
      refine lv_aload_n hx hb dX8_best_49 rfl (lv_at hl 0 rfl) ?_
      refine g_40_41 E hh tb775 (E.hn 40 0 (by decide)) dX8_best_50 ?_
      refine lv_iload_n hx hb dX8_best_53 rfl (lv_at hl 2 rfl) ?_
      obtain ⟨hi9, hw⟩ := hw
      refine x_iald E hh (E.hn 57 0 (by decide)) ly_57 hi9 dX8_best_54 ?_
      exact x_iret E hh hw dX8_best_55
    · have hw := ifT hw c8
      refine lv_aload_n hx hb dX8_best_42 rfl (lv_at hl 0 rfl) ?_
      refine g_40_43 E hh tb777 (E.hn 40 0 (by decide)) dX8_best_43 ?_
      refine lv_goto (tgt := 55) hx hb dX8_best_46 (by decide) ?_
      exact x_iret E hh hw dX8_best_55
  · have hw := ifT hw c7
    refine lv_bipush (v := (-3)) hx hb dX8_best_34 (by decide) ?_
    exact x_iret E hh hw dX8_best_36
def wpX8_best (x1 : Int32) (x2 : Int32) (S : St) (K : Int32 → St → Prop) : Prop := wpX8_in x1.toInt64 0 1 S (fun r1 S1 => if r1 = 0 then (K (-2) S1) else (if x2 = (-1) then (wbX8_best_26 K x1 x2 S1) else (wpX8_isMan x2 S1 (fun r4 S4 => if r4 = 0 then (K (-2) S4) else (wbX8_best_26 K x1 x2 S4)))))
set_option maxRecDepth 4000 in
theorem bX8_best {p : Program} {l : Launch} {e : Env} {R : Room} {s : State} {m : MethodId} {args : Array Value} {below : List Frame} {meth : Method} {c : Code} {D : va_G} {ad : Nat → Nat → Nat} {cs : Nat → ClassId} {P : Nat → Nat → Prop} {sz tU : Nat} {adK adV : Nat → Nat} {K : Int32 → St → Prop} {x1 : Int32} {x2 : Int32} {S : St} {H : Heap} {locs : List Loc} {ls : Array Slot} (E : Ex p s m args meth c R RX8 cX8_best 3 (some .int) 72 1690 D ad cs P (wA ad P) tU adK adV cnM) (hw : wpX8_best x1 x2 S K) (hh : wH D ad cs P (wA ad P) s.heap sz S H locs) (hl : lv_has ls 3 [(0, .ref (ad 40 0)), (1, .int x1), (2, .int x2)]) : W p l e R s m args below meth c H locs 0 0 (MQ below (va_Qi K (QX D ad cs P sz) (wA ad P)) args s 0 0 (wA ad P)) (F0 m 0 ls []) := by
  have hx := E.hx
  have hb := E.hb
  refine lv_iload_n hx hb dX8_best_0 rfl (lv_at hl 1 rfl) ?_
  refine lv_i2l hx hb dX8_best_1 rfl ?_
  refine lv_lconst (v := 0) hx hb dX8_best_2 (by decide) ?_
  refine lv_lconst (v := 1) hx hb dX8_best_3 (by decide) ?_
  refine x_ci E.hA hh (x_runS E hh (mX8_in E.hI (fun _ _ h => absurd h (Nat.not_lt_zero _)) hw) kX8_in tb914 ⟨by decide, by decide⟩ rfl hl.1 rfl (Nat.le_of_ble_eq_true rfl) dX8_best_4 ⟨Nat.zero_le _, Nat.zero_le _⟩) (fun r1 S1 H locs hw hh => ?_)
  have hq1 := hw.2
  have hw := hw.1
  refine lv_if_eq (tgt := 23) hx hb dX8_best_7 (by decide) (fun c2 => ?_) (fun c2 => ?_)
  · have hw := ifT hw c2
    refine lv_bipush (v := (-2)) hx hb dX8_best_23 (by decide) ?_
    exact x_iret E hh hw dX8_best_25
  · have hw := ifF hw c2
    refine lv_iload_n hx hb dX8_best_10 rfl (lv_at hl 2 rfl) ?_
    refine lv_iconst (v := (-1)) hx hb dX8_best_11 (by decide) ?_
    refine lv_icmp_eq (tgt := 26) hx hb dX8_best_12 (by decide) (fun c3 => ?_) (fun c3 => ?_)
    · have hw := ifT hw c3
      exact bX8_best_26 E hw hh (lv_sub hl [0, 1, 2] rfl)
    · have hw := ifF hw c3
      refine lv_aload_n hx hb dX8_best_15 rfl (lv_at hl 0 rfl) ?_
      refine lv_iload_n hx hb dX8_best_16 rfl (lv_at hl 2 rfl) ?_
      refine x_ci E.hA hh (x_runV E hh (mX8_isMan E.hI E.hn hw) kX8_isMan tb926 (E.hn 40 0 (by decide)) rv_40 ⟨by decide, by decide⟩ rfl hl.1 rfl (Nat.le_of_ble_eq_true rfl) dX8_best_17 ⟨Nat.zero_le _, Nat.zero_le _⟩) (fun r4 S4 H locs hw hh => ?_)
      have hq4 := hw.2
      have hw := hw.1
      refine lv_if_ne (tgt := 26) hx hb dX8_best_20 (by decide) (fun c5 => ?_) (fun c5 => ?_)
      · have hw := ifF hw c5
        exact bX8_best_26 E hw hh (lv_sub hl [0, 1, 2] rfl)
      · have hw := ifT hw c5
        refine lv_bipush (v := (-2)) hx hb dX8_best_23 (by decide) ?_
        exact x_iret E hh hw dX8_best_25
theorem kX8_best : kI yX8_best cX8_best 3 (some .int) 2 := ⟨tb1125, tb1126, tb15, tb1127, by decide, by decide, by decide +kernel⟩
theorem mX8_best {l : Launch} {D : va_G} {ad : Nat → Nat → Nat} {cs : Nat → ClassId} {P : Nat → Nat → Prop} {sz tU : Nat} {adK adV : Nat → Nat} {x1 : Int32} {x2 : Int32} {S : St} {K : Int32 → St → Prop} (hI : wI ad P) (hn : ∀ kd i, i < cnM kd → P kd i) (hw : wpX8_best x1 x2 S K) : MI l yX8_best cX8_best 3 (some .int) 72 1690 D ad cs P sz tU adK adV [.ref (ad 40 0), .int x1, .int x2] S K :=
  Met_of (by decide) (Nat.le_of_ble_eq_true rfl) hI hn (fun p e R s m args below meth c ls E hl hh => bX8_best E  hw hh (lv_sub hl [0, 1, 2] rfl))
def wpX8_isSheet (x0 : Int32) (S : St) (K : Int32 → St → Prop) : Prop := wpX8_in x0.toInt64 0 3 S (fun r1 S1 => K r1 S1)
set_option maxRecDepth 4000 in
theorem bX8_isSheet {p : Program} {l : Launch} {e : Env} {R : Room} {s : State} {m : MethodId} {args : Array Value} {below : List Frame} {meth : Method} {c : Code} {D : va_G} {ad : Nat → Nat → Nat} {cs : Nat → ClassId} {P : Nat → Nat → Prop} {sz tU : Nat} {adK adV : Nat → Nat} {K : Int32 → St → Prop} {x0 : Int32} {S : St} {H : Heap} {locs : List Loc} {ls : Array Slot} (E : Ex p s m args meth c R RX8 cX8_isSheet 1 (some .boolean) 2 85 D ad cs P (wA ad P) tU adK adV cn0) (hw : wpX8_isSheet x0 S K) (hh : wH D ad cs P (wA ad P) s.heap sz S H locs) (hl : lv_has ls 1 [(0, .int x0)]) : W p l e R s m args below meth c H locs 0 0 (MQ below (va_Qi (fun r S => K r S ∧ narrow .boolean (.int r) = .int r) (QX D ad cs P sz) (wA ad P)) args s 0 0 (wA ad P)) (F0 m 0 ls []) := by
  have hx := E.hx
  have hb := E.hb
  refine lv_iload_n hx hb dX8_isSheet_0 rfl (lv_at hl 0 rfl) ?_
  refine lv_i2l hx hb dX8_isSheet_1 rfl ?_
  refine lv_lconst (v := 0) hx hb dX8_isSheet_2 (by decide) ?_
  refine lv_ldc2 (v := 3) hx hb E.hown (E.hts _ tb1135) dX8_isSheet_3 ?_
  refine x_ci E.hA hh (x_runS E hh (mX8_in E.hI E.hn hw) kX8_in tb914 ⟨by decide, by decide⟩ rfl hl.1 rfl (Nat.le_of_ble_eq_true rfl) dX8_isSheet_6 ⟨Nat.zero_le _, Nat.zero_le _⟩) (fun r1 S1 H locs hw hh => ?_)
  have hq1 := hw.2
  have hw := hw.1
  exact x_zret E hh hw hq1 dX8_isSheet_9
theorem kX8_isSheet : kS yX8_isSheet cX8_isSheet 1 (some .boolean) 1 := ⟨tb1133, tb15, tb1134, by decide, by decide, by decide +kernel⟩
theorem mX8_isSheet {l : Launch} {D : va_G} {ad : Nat → Nat → Nat} {cs : Nat → ClassId} {P : Nat → Nat → Prop} {sz tU : Nat} {adK adV : Nat → Nat} {x0 : Int32} {S : St} {K : Int32 → St → Prop} (hI : wI ad P) (hn : ∀ kd i, i < cn0 kd → P kd i) (hw : wpX8_isSheet x0 S K) : MI l yX8_isSheet cX8_isSheet 1 (some .boolean) 2 85 D ad cs P sz tU adK adV [.int x0] S (fun r S => K r S ∧ narrow .boolean (.int r) = .int r) :=
  Met_of (by decide) (Nat.le_of_ble_eq_true rfl) hI hn (fun p e R s m args below meth c ls E hl hh => bX8_isSheet E  hw hh (lv_sub hl [0] rfl))
def wbX8_row_103 (R42 : Int32 → Int32 → St → Prop) (K : Int32 → St → Prop) (x1 : Int32) (x2 : Int32) (x3 : Int32) (x4 : Int32) (S : St) : Prop := (vp_in x3 4 ∧ ∀ S19, S19 = su S 56 0 x3.toNatClampNeg x4 → R42 x2 (x3 + 1) S19)
set_option maxRecDepth 4000 in
theorem bX8_row_103 {p : Program} {l : Launch} {e : Env} {R : Room} {s : State} {m : MethodId} {args : Array Value} {below : List Frame} {meth : Method} {c : Code} {D : va_G} {ad : Nat → Nat → Nat} {cs : Nat → ClassId} {P : Nat → Nat → Prop} {sz tU : Nat} {adK adV : Nat → Nat} {R42 : Int32 → Int32 → St → Prop} {K : Int32 → St → Prop} {x1 : Int32} {x2 : Int32} {x3 : Int32} {x4 : Int32} {S : St} {H : Heap} {locs : List Loc} {ls : Array Slot} (E : Ex p s m args meth c R RX8 cX8_row 5 (some .int) 71 1669 D ad cs P (wA ad P) tU adK adV cnM) (hR42 : ∀ (z2 : Int32) (z3 : Int32) (S : St) (H : Heap) (locs : List Loc) (ls : Array Slot), R42 z2 z3 S → wH D ad cs P (wA ad P) s.heap sz S H locs → lv_has ls 5 [(0, .ref (ad 40 0)), (1, .int x1), (2, .int z2), (3, .int z3)] → W p l e R s m args below meth c H locs 0 0 (MQ below (va_Qi K (QX D ad cs P sz) (wA ad P)) args s 0 0 (wA ad P)) (F0 m 42 ls [])) (hw : wbX8_row_103 R42 K x1 x2 x3 x4 S) (hh : wH D ad cs P (wA ad P) s.heap sz S H locs) (hl : lv_has ls 5 [(0, .ref (ad 40 0)), (1, .int x1), (2, .int x2), (3, .int x3), (4, .int x4)]) : W p l e R s m args below meth c H locs 0 0 (MQ below (va_Qi K (QX D ad cs P sz) (wA ad P)) args s 0 0 (wA ad P)) (F0 m 103 ls []) := by
  have hx := E.hx
  have hb := E.hb
  refine lv_aload_n hx hb dX8_row_103 rfl (lv_at hl 0 rfl) ?_
  refine g_40_40 E hh tb774 (E.hn 40 0 (by decide)) dX8_row_104 ?_
  refine lv_iload_n hx hb dX8_row_107 rfl (lv_at hl 3 rfl) ?_
  refine lv_iload hx hb dX8_row_108 (lv_at hl 4 rfl) ?_
  obtain ⟨hi19, hw⟩ := hw
  refine x_iast E hh (E.hn 56 0 (by decide)) ly_56 hi19 dX8_row_110 (fun S19 H locs e19 hh => ?_)
  have hw := hw S19 e19
  refine lv_iinc (k := 3) (v := x3 + 1) (lv' := [(3, .int (x3 + 1)), (0, .ref (ad 40 0)), (1, .int x1), (2, .int x2), (4, .int x4)]) hx hb dX8_row_111 hl rfl rfl (by decide) rfl (fun ls hl => ?_)
  refine lv_goto (tgt := 42) hx hb dX8_row_114 (by decide) ?_
  exact hR42 x2 (x3 + 1) S19 _ _ _ hw hh (lv_sub hl [1, 2, 3, 0] rfl)
def wbX8_row_90 (R42 : Int32 → Int32 → St → Prop) (K : Int32 → St → Prop) (x1 : Int32) (x2 : Int32) (x3 : Int32) (x4 : Int32) (S : St) : Prop := if x4 = (-1) then (wbX8_row_103 R42 K x1 x2 x3 x4 S) else (wbX8_row_103 R42 K x1 (x2 ||| (1 <<< (x4 &&& 31))) x3 x4 S)
set_option maxRecDepth 4000 in
theorem bX8_row_90 {p : Program} {l : Launch} {e : Env} {R : Room} {s : State} {m : MethodId} {args : Array Value} {below : List Frame} {meth : Method} {c : Code} {D : va_G} {ad : Nat → Nat → Nat} {cs : Nat → ClassId} {P : Nat → Nat → Prop} {sz tU : Nat} {adK adV : Nat → Nat} {R42 : Int32 → Int32 → St → Prop} {K : Int32 → St → Prop} {x1 : Int32} {x2 : Int32} {x3 : Int32} {x4 : Int32} {S : St} {H : Heap} {locs : List Loc} {ls : Array Slot} (E : Ex p s m args meth c R RX8 cX8_row 5 (some .int) 71 1669 D ad cs P (wA ad P) tU adK adV cnM) (hR42 : ∀ (z2 : Int32) (z3 : Int32) (S : St) (H : Heap) (locs : List Loc) (ls : Array Slot), R42 z2 z3 S → wH D ad cs P (wA ad P) s.heap sz S H locs → lv_has ls 5 [(0, .ref (ad 40 0)), (1, .int x1), (2, .int z2), (3, .int z3)] → W p l e R s m args below meth c H locs 0 0 (MQ below (va_Qi K (QX D ad cs P sz) (wA ad P)) args s 0 0 (wA ad P)) (F0 m 42 ls [])) (hw : wbX8_row_90 R42 K x1 x2 x3 x4 S) (hh : wH D ad cs P (wA ad P) s.heap sz S H locs) (hl : lv_has ls 5 [(0, .ref (ad 40 0)), (1, .int x1), (2, .int x2), (3, .int x3), (4, .int x4)]) : W p l e R s m args below meth c H locs 0 0 (MQ below (va_Qi K (QX D ad cs P sz) (wA ad P)) args s 0 0 (wA ad P)) (F0 m 90 ls []) := by
  have hx := E.hx
  have hb := E.hb
  refine lv_iload hx hb dX8_row_90 (lv_at hl 4 rfl) ?_
  refine lv_iconst (v := (-1)) hx hb dX8_row_92 (by decide) ?_
  refine lv_icmp_eq (tgt := 103) hx hb dX8_row_93 (by decide) (fun c18 => ?_) (fun c18 => ?_)
  · have hw := ifT hw c18
    exact bX8_row_103 E hR42 hw hh (lv_sub hl [0, 1, 2, 3, 4] rfl)
  · have hw := ifF hw c18
    refine lv_iload_n hx hb dX8_row_96 rfl (lv_at hl 2 rfl) ?_
    refine lv_iconst (v := 1) hx hb dX8_row_97 (by decide) ?_
    refine lv_iload hx hb dX8_row_98 (lv_at hl 4 rfl) ?_
    refine lv_ishl hx hb dX8_row_100 ?_
    refine lv_ior hx hb dX8_row_101 ?_
    refine lv_istore_n (lv' := [(2, .int (x2 ||| (1 <<< (x4 &&& 31)))), (0, .ref (ad 40 0)), (1, .int x1), (3, .int x3), (4, .int x4)]) hx hb dX8_row_102 rfl hl (by decide) rfl (fun ls hl => ?_)
    exact bX8_row_103 E hR42 hw hh (lv_sub hl [1, 2, 0, 3, 4] rfl)
def wbX8_row_42 (K : Int32 → St → Prop) (x1 : Int32) : Nat → Int32 → Int32 → St → Prop
  | 0, _, _, _ => False
  | n + 1, x2, x3, S => if (S.1 40 0 7) ≤ x3 then (wpX8_gathers S (fun S8 => wpX8_isSteady S8 (fun r9 S9 => if r9 = 0 then (wpX8_isLawful S9 (fun r11 S11 => if r11 = 0 then (K 1 S11) else (K 2 S11))) else (K 3 S9)))) else ((vp_in ((40 * x1) + x3) 160 ∧ if (S.1 67 0 ((40 * x1) + x3).toNatClampNeg) = (-1) then (wbX8_row_90 (fun yx2 yx3 S9 => wbX8_row_42 K x1 n yx2 yx3 S9) K x1 x2 x3 (S.1 67 0 ((40 * x1) + x3).toNatClampNeg) S) else (wpX8_isMaid (S.1 67 0 ((40 * x1) + x3).toNatClampNeg) S (fun r15 S15 => if r15 = 0 then (K 0 S15) else (if ((x2 >>> ((S.1 67 0 ((40 * x1) + x3).toNatClampNeg) &&& 31)) &&& 1) = 1 then (K 0 S15) else (wbX8_row_90 (fun yx2 yx3 S9 => wbX8_row_42 K x1 n yx2 yx3 S9) K x1 x2 x3 (S.1 67 0 ((40 * x1) + x3).toNatClampNeg) S15))))))
set_option maxRecDepth 4000 in
theorem bX8_row_42 {p : Program} {l : Launch} {e : Env} {R : Room} {s : State} {m : MethodId} {args : Array Value} {below : List Frame} {meth : Method} {c : Code} {D : va_G} {ad : Nat → Nat → Nat} {cs : Nat → ClassId} {P : Nat → Nat → Prop} {sz tU : Nat} {adK adV : Nat → Nat} {K : Int32 → St → Prop} {x1 : Int32} (E : Ex p s m args meth c R RX8 cX8_row 5 (some .int) 71 1669 D ad cs P (wA ad P) tU adK adV cnM) : ∀ (n : Nat) (x2 : Int32) (x3 : Int32) (S : St) (H : Heap) (locs : List Loc) (ls : Array Slot), wbX8_row_42 K x1 n x2 x3 S → wH D ad cs P (wA ad P) s.heap sz S H locs → lv_has ls 5 [(0, .ref (ad 40 0)), (1, .int x1), (2, .int x2), (3, .int x3)] → W p l e R s m args below meth c H locs 0 0 (MQ below (va_Qi K (QX D ad cs P sz) (wA ad P)) args s 0 0 (wA ad P)) (F0 m 42 ls []) := by
  have hx := E.hx
  have hb := E.hb
  intro n
  induction n with
  | zero => intro x2 x3 S H locs ls hw hh hl; exact hw.elim
  | succ n ih =>
    intro x2 x3 S H locs ls hw hh hl
    refine lv_iload_n hx hb dX8_row_42 rfl (lv_at hl 3 rfl) ?_
    refine lv_aload_n hx hb dX8_row_43 rfl (lv_at hl 0 rfl) ?_
    refine g_40_7 E hh tb741 (E.hn 40 0 (by decide)) dX8_row_44 ?_
    refine lv_icmp_ge (tgt := 117) hx hb dX8_row_47 (by decide) (fun c7 => ?_) (fun c7 => ?_)
    · have hw := ifT hw c7
      refine lv_aload_n hx hb dX8_row_117 rfl (lv_at hl 0 rfl) ?_
      refine x_cv E.hA hh (x_runV E hh (mX8_gathers E.hI E.hn hw) kX8_gathers tb1104 (E.hn 40 0 (by decide)) rv_40 ⟨by decide, by decide⟩ rfl hl.1 rfl (Nat.le_of_ble_eq_true rfl) dX8_row_118 ⟨Nat.zero_le _, Nat.zero_le _⟩) (fun S8 H locs hw hh => ?_)
      refine lv_aload_n hx hb dX8_row_121 rfl (lv_at hl 0 rfl) ?_
      refine x_ci E.hA hh (x_runV E hh (mX8_isSteady E.hI E.hn hw) kX8_isSteady tb1116 (E.hn 40 0 (by decide)) rv_40 ⟨by decide, by decide⟩ rfl hl.1 rfl (Nat.le_of_ble_eq_true rfl) dX8_row_122 ⟨Nat.zero_le _, Nat.zero_le _⟩) (fun r9 S9 H locs hw hh => ?_)
      have hq9 := hw.2
      have hw := hw.1
      refine lv_if_eq (tgt := 132) hx hb dX8_row_125 (by decide) (fun c10 => ?_) (fun c10 => ?_)
      · have hw := ifT hw c10
        refine lv_aload_n hx hb dX8_row_132 rfl (lv_at hl 0 rfl) ?_
        refine x_ci E.hA hh (x_runV E hh (mX8_isLawful E.hI E.hn hw) kX8_isLawful tb1112 (E.hn 40 0 (by decide)) rv_40 ⟨by decide, by decide⟩ rfl hl.1 rfl (Nat.le_of_ble_eq_true rfl) dX8_row_133 ⟨Nat.zero_le _, Nat.zero_le _⟩) (fun r11 S11 H locs hw hh => ?_)
        have hq11 := hw.2
        have hw := hw.1
        refine lv_if_eq (tgt := 143) hx hb dX8_row_136 (by decide) (fun c12 => ?_) (fun c12 => ?_)
        · have hw := ifT hw c12
          refine lv_iconst (v := 1) hx hb dX8_row_143 (by decide) ?_
          exact x_iret E hh hw dX8_row_144
        · have hw := ifF hw c12
          refine lv_iconst (v := 2) hx hb dX8_row_139 (by decide) ?_
          refine lv_goto (tgt := 144) hx hb dX8_row_140 (by decide) ?_
          exact x_iret E hh hw dX8_row_144
      · have hw := ifF hw c10
        refine lv_iconst (v := 3) hx hb dX8_row_128 (by decide) ?_
        refine lv_goto (tgt := 144) hx hb dX8_row_129 (by decide) ?_
        exact x_iret E hh hw dX8_row_144
    · have hw := ifF hw c7
      refine lv_aload_n hx hb dX8_row_50 rfl (lv_at hl 0 rfl) ?_
      refine g_40_57 E hh tb791 (E.hn 40 0 (by decide)) dX8_row_51 ?_
      refine lv_bipush (v := 40) hx hb dX8_row_54 (by decide) ?_
      refine lv_iload_n hx hb dX8_row_56 rfl (lv_at hl 1 rfl) ?_
      refine lv_imul hx hb dX8_row_57 ?_
      refine lv_iload_n hx hb dX8_row_58 rfl (lv_at hl 3 rfl) ?_
      refine lv_iadd hx hb dX8_row_59 ?_
      obtain ⟨hi13, hw⟩ := hw
      refine x_iald E hh (E.hn 67 0 (by decide)) ly_67 hi13 dX8_row_60 ?_
      refine lv_istore (lv' := [(4, .int (S.1 67 0 ((40 * x1) + x3).toNatClampNeg)), (0, .ref (ad 40 0)), (1, .int x1), (2, .int x2), (3, .int x3)]) hx hb dX8_row_61 hl (by decide) rfl (fun ls hl => ?_)
      refine lv_iload hx hb dX8_row_63 (lv_at hl 0 rfl) ?_
      refine lv_iconst (v := (-1)) hx hb dX8_row_65 (by decide) ?_
      refine lv_icmp_eq (tgt := 90) hx hb dX8_row_66 (by decide) (fun c14 => ?_) (fun c14 => ?_)
      · have hw := ifT hw c14
        exact bX8_row_90 E ih hw hh (lv_sub hl [1, 2, 3, 4, 0] rfl)
      · have hw := ifF hw c14
        refine lv_aload_n hx hb dX8_row_69 rfl (lv_at hl 1 rfl) ?_
        refine lv_iload hx hb dX8_row_70 (lv_at hl 0 rfl) ?_
        refine x_ci E.hA hh (x_runV E hh (mX8_isMaid E.hI E.hn hw) kX8_isMaid tb930 (E.hn 40 0 (by decide)) rv_40 ⟨by decide, by decide⟩ rfl hl.1 rfl (Nat.le_of_ble_eq_true rfl) dX8_row_72 ⟨Nat.zero_le _, Nat.zero_le _⟩) (fun r15 S15 H locs hw hh => ?_)
        have hq15 := hw.2
        have hw := hw.1
        refine lv_if_eq (tgt := 88) hx hb dX8_row_75 (by decide) (fun c16 => ?_) (fun c16 => ?_)
        · have hw := ifT hw c16
          refine lv_iconst (v := 0) hx hb dX8_row_88 (by decide) ?_
          exact x_iret E hh hw dX8_row_89
        · have hw := ifF hw c16
          refine lv_iload_n hx hb dX8_row_78 rfl (lv_at hl 3 rfl) ?_
          refine lv_iload hx hb dX8_row_79 (lv_at hl 0 rfl) ?_
          refine lv_ishr hx hb dX8_row_81 ?_
          refine lv_iconst (v := 1) hx hb dX8_row_82 (by decide) ?_
          refine lv_iand hx hb dX8_row_83 ?_
          refine lv_iconst (v := 1) hx hb dX8_row_84 (by decide) ?_
          refine lv_icmp_ne (tgt := 90) hx hb dX8_row_85 (by decide) (fun c17 => ?_) (fun c17 => ?_)
          · have hw := ifF hw c17
            exact bX8_row_90 E ih hw hh (lv_sub hl [1, 2, 3, 4, 0] rfl)
          · have hw := ifT hw c17
            refine lv_iconst (v := 0) hx hb dX8_row_88 (by decide) ?_
            exact x_iret E hh hw dX8_row_89
def wpX8_row (x1 : Int32) (S : St) (K : Int32 → St → Prop) : Prop := wpX8_isSheet x1 S (fun r1 S1 => if r1 = 0 then (K (-2) S1) else ((vp_in x1 4 ∧ if (S1.1 64 0 x1.toNatClampNeg) = 0 then (K (-11) S1) else ((vp_in x1 4 ∧ if (S1.1 66 0 x1.toNatClampNeg) = (S1.1 40 0 7) then (∃ k, wbX8_row_42 K x1 k 0 0 S1) else (K (-2) S1))))))
set_option maxRecDepth 4000 in
theorem bX8_row {p : Program} {l : Launch} {e : Env} {R : Room} {s : State} {m : MethodId} {args : Array Value} {below : List Frame} {meth : Method} {c : Code} {D : va_G} {ad : Nat → Nat → Nat} {cs : Nat → ClassId} {P : Nat → Nat → Prop} {sz tU : Nat} {adK adV : Nat → Nat} {K : Int32 → St → Prop} {x1 : Int32} {S : St} {H : Heap} {locs : List Loc} {ls : Array Slot} (E : Ex p s m args meth c R RX8 cX8_row 5 (some .int) 71 1669 D ad cs P (wA ad P) tU adK adV cnM) (hw : wpX8_row x1 S K) (hh : wH D ad cs P (wA ad P) s.heap sz S H locs) (hl : lv_has ls 5 [(0, .ref (ad 40 0)), (1, .int x1)]) : W p l e R s m args below meth c H locs 0 0 (MQ below (va_Qi K (QX D ad cs P sz) (wA ad P)) args s 0 0 (wA ad P)) (F0 m 0 ls []) := by
  have hx := E.hx
  have hb := E.hb
  refine lv_iload_n hx hb dX8_row_0 rfl (lv_at hl 1 rfl) ?_
  refine x_ci E.hA hh (x_runS E hh (mX8_isSheet E.hI (fun _ _ h => absurd h (Nat.not_lt_zero _)) hw) kX8_isSheet tb1132 ⟨by decide, by decide⟩ rfl hl.1 rfl (Nat.le_of_ble_eq_true rfl) dX8_row_1 ⟨Nat.zero_le _, Nat.zero_le _⟩) (fun r1 S1 H locs hw hh => ?_)
  have hq1 := hw.2
  have hw := hw.1
  refine lv_if_ne (tgt := 10) hx hb dX8_row_4 (by decide) (fun c2 => ?_) (fun c2 => ?_)
  · have hw := ifF hw c2
    refine lv_aload_n hx hb dX8_row_10 rfl (lv_at hl 0 rfl) ?_
    refine g_40_54 E hh tb788 (E.hn 40 0 (by decide)) dX8_row_11 ?_
    refine lv_iload_n hx hb dX8_row_14 rfl (lv_at hl 1 rfl) ?_
    obtain ⟨hi3, hw⟩ := hw
    refine x_zald E hh (E.hn 64 0 (by decide)) ly_64 hi3 dX8_row_15 ?_
    refine lv_if_ne (tgt := 22) hx hb dX8_row_16 (by decide) (fun c4 => ?_) (fun c4 => ?_)
    · have hw := ifF hw c4
      refine lv_aload_n hx hb dX8_row_22 rfl (lv_at hl 0 rfl) ?_
      refine g_40_56 E hh tb790 (E.hn 40 0 (by decide)) dX8_row_23 ?_
      refine lv_iload_n hx hb dX8_row_26 rfl (lv_at hl 1 rfl) ?_
      obtain ⟨hi5, hw⟩ := hw
      refine x_iald E hh (E.hn 66 0 (by decide)) ly_66 hi5 dX8_row_27 ?_
      refine lv_aload_n hx hb dX8_row_28 rfl (lv_at hl 0 rfl) ?_
      refine g_40_7 E hh tb741 (E.hn 40 0 (by decide)) dX8_row_29 ?_
      refine lv_icmp_eq (tgt := 38) hx hb dX8_row_32 (by decide) (fun c6 => ?_) (fun c6 => ?_)
      · have hw := ifT hw c6
        refine lv_iconst (v := 0) hx hb dX8_row_38 (by decide) ?_
        refine lv_istore_n (lv' := [(2, .int 0), (0, .ref (ad 40 0)), (1, .int x1)]) hx hb dX8_row_39 rfl hl (by decide) rfl (fun ls hl => ?_)
        refine lv_iconst (v := 0) hx hb dX8_row_40 (by decide) ?_
        refine lv_istore_n (lv' := [(3, .int 0), (2, .int 0), (0, .ref (ad 40 0)), (1, .int x1)]) hx hb dX8_row_41 rfl hl (by decide) rfl (fun ls hl => ?_)
        obtain ⟨k, hw⟩ := hw
        exact bX8_row_42 E k 0 0 S1 _ _ _ hw hh (lv_sub hl [2, 3, 1, 0] rfl)
      · have hw := ifF hw c6
        refine lv_bipush (v := (-2)) hx hb dX8_row_35 (by decide) ?_
        exact x_iret E hh hw dX8_row_37
    · have hw := ifT hw c4
      refine lv_bipush (v := (-11)) hx hb dX8_row_19 (by decide) ?_
      exact x_iret E hh hw dX8_row_21
  · have hw := ifT hw c2
    refine lv_bipush (v := (-2)) hx hb dX8_row_7 (by decide) ?_
    exact x_iret E hh hw dX8_row_9
theorem kX8_row : kI yX8_row cX8_row 5 (some .int) 1 := ⟨tb1129, tb1130, tb15, tb1131, by decide, by decide, by decide +kernel⟩
theorem mX8_row {l : Launch} {D : va_G} {ad : Nat → Nat → Nat} {cs : Nat → ClassId} {P : Nat → Nat → Prop} {sz tU : Nat} {adK adV : Nat → Nat} {x1 : Int32} {S : St} {K : Int32 → St → Prop} (hI : wI ad P) (hn : ∀ kd i, i < cnM kd → P kd i) (hw : wpX8_row x1 S K) : MI l yX8_row cX8_row 5 (some .int) 71 1669 D ad cs P sz tU adK adV [.ref (ad 40 0), .int x1] S K :=
  Met_of (by decide) (Nat.le_of_ble_eq_true rfl) hI hn (fun p e R s m args below meth c ls E hl hh => bX8_row E  hw hh (lv_sub hl [0, 1] rfl))
def wbX8_year_309 (K : Int32 → St → Prop) (v0 : Int32) (S : St) : Prop := wpX8_laysBack S (fun S17 => K v0 S17)
set_option maxRecDepth 4000 in
theorem bX8_year_309 {p : Program} {l : Launch} {e : Env} {R : Room} {s : State} {m : MethodId} {args : Array Value} {below : List Frame} {meth : Method} {c : Code} {D : va_G} {ad : Nat → Nat → Nat} {cs : Nat → ClassId} {P : Nat → Nat → Prop} {sz tU : Nat} {adK adV : Nat → Nat} {K : Int32 → St → Prop} {v0 : Int32} {S : St} {H : Heap} {locs : List Loc} {ls : Array Slot} (E : Ex p s m args meth c R RX8 cX8_year 10 (some .int) 70 1647 D ad cs P (wA ad P) tU adK adV cnM) (hw : wbX8_year_309 K v0 S) (hh : wH D ad cs P (wA ad P) s.heap sz S H locs) (hl : lv_has ls 10 [(0, .ref (ad 40 0))]) : W p l e R s m args below meth c H locs 0 0 (MQ below (va_Qi K (QX D ad cs P sz) (wA ad P)) args s 0 0 (wA ad P)) (F0 m 309 ls [.int v0]) := by
  have hx := E.hx
  have hb := E.hb
  refine lv_istore (lv' := [(6, .int v0), (0, .ref (ad 40 0))]) hx hb dX8_year_309 hl (by decide) rfl (fun ls hl => ?_)
  refine lv_aload_n hx hb dX8_year_311 rfl (lv_at hl 1 rfl) ?_
  refine x_cv E.hA hh (x_runV E hh (mX8_laysBack E.hI E.hn hw) kX8_laysBack tb1145 (E.hn 40 0 (by decide)) rv_40 ⟨by decide, by decide⟩ rfl hl.1 rfl (Nat.le_of_ble_eq_true rfl) dX8_year_312 ⟨Nat.zero_le _, Nat.zero_le _⟩) (fun S17 H locs hw hh => ?_)
  refine lv_iload hx hb dX8_year_315 (lv_at hl 0 rfl) ?_
  exact x_iret E hh hw dX8_year_317
def wbX8_year_250 (R223 : Int32 → Int32 → St → Prop) (K : Int32 → St → Prop) (x2 : Int32) (x3 : Int32) (x4 : Int32) (x6 : Int32) (v0 : Int32) (v1 : Int32) (S : St) : Prop := R223 (v1 + v0) (x6 + 1) S
set_option maxRecDepth 4000 in
theorem bX8_year_250 {p : Program} {l : Launch} {e : Env} {R : Room} {s : State} {m : MethodId} {args : Array Value} {below : List Frame} {meth : Method} {c : Code} {D : va_G} {ad : Nat → Nat → Nat} {cs : Nat → ClassId} {P : Nat → Nat → Prop} {sz tU : Nat} {adK adV : Nat → Nat} {R223 : Int32 → Int32 → St → Prop} {K : Int32 → St → Prop} {x2 : Int32} {x3 : Int32} {x4 : Int32} {x6 : Int32} {v0 : Int32} {v1 : Int32} {S : St} {H : Heap} {locs : List Loc} {ls : Array Slot} (E : Ex p s m args meth c R RX8 cX8_year 10 (some .int) 70 1647 D ad cs P (wA ad P) tU adK adV cnM) (hR223 : ∀ (z5 : Int32) (z6 : Int32) (S : St) (H : Heap) (locs : List Loc) (ls : Array Slot), R223 z5 z6 S → wH D ad cs P (wA ad P) s.heap sz S H locs → lv_has ls 10 [(0, .ref (ad 40 0)), (2, .int x2), (3, .int x3), (4, .int x4), (5, .int z5), (6, .int z6)] → W p l e R s m args below meth c H locs 0 0 (MQ below (va_Qi K (QX D ad cs P sz) (wA ad P)) args s 0 0 (wA ad P)) (F0 m 223 ls [])) (hw : wbX8_year_250 R223 K x2 x3 x4 x6 v0 v1 S) (hh : wH D ad cs P (wA ad P) s.heap sz S H locs) (hl : lv_has ls 10 [(0, .ref (ad 40 0)), (2, .int x2), (3, .int x3), (4, .int x4), (6, .int x6)]) : W p l e R s m args below meth c H locs 0 0 (MQ below (va_Qi K (QX D ad cs P sz) (wA ad P)) args s 0 0 (wA ad P)) (F0 m 250 ls [.int v0, .int v1]) := by
  have hx := E.hx
  have hb := E.hb
  refine lv_iadd hx hb dX8_year_250 ?_
  refine lv_istore (lv' := [(5, .int (v1 + v0)), (0, .ref (ad 40 0)), (2, .int x2), (3, .int x3), (4, .int x4), (6, .int x6)]) hx hb dX8_year_251 hl (by decide) rfl (fun ls hl => ?_)
  refine lv_iinc (k := 5) (v := x6 + 1) (lv' := [(6, .int (x6 + 1)), (5, .int (v1 + v0)), (0, .ref (ad 40 0)), (2, .int x2), (3, .int x3), (4, .int x4)]) hx hb dX8_year_253 hl rfl rfl (by decide) rfl (fun ls hl => ?_)
  refine lv_goto (tgt := 223) hx hb dX8_year_256 (by decide) ?_
  exact hR223 (v1 + v0) (x6 + 1) S _ _ _ hw hh (lv_sub hl [2, 3, 4, 5, 1, 0] rfl)
def wbX8_year_223 (K : Int32 → St → Prop) (x2 : Int32) (x3 : Int32) (x4 : Int32) : Nat → Int32 → Int32 → St → Prop
  | 0, _, _, _ => False
  | n + 1, x5, x6, S => if (S.1 40 0 7) ≤ x6 then (if x2 = 0 then (wbX8_year_309 K x5 S) else (if x2 = 1 then (wbX8_year_309 K x3 S) else (if x2 = 2 then (wbX8_year_309 K x4 S) else (wpX8_isMan (x2 - 3) S (fun r11 S11 => if r11 = 0 then (wbX8_year_309 K (-1) S11) else ((vp_in (x2 - 3) 4 ∧ wbX8_year_309 K (S11.1 47 0 (x2 - 3).toNatClampNeg) S11))))))) else ((vp_in x6 4 ∧ if (S.1 47 0 x6.toNatClampNeg) = (-1) then (wbX8_year_250 (fun yx5 yx6 S9 => wbX8_year_223 K x2 x3 x4 n yx5 yx6 S9) K x2 x3 x4 x6 0 x5 S) else (wbX8_year_250 (fun yx5 yx6 S9 => wbX8_year_223 K x2 x3 x4 n yx5 yx6 S9) K x2 x3 x4 x6 1 x5 S)))
set_option maxRecDepth 4000 in
theorem bX8_year_223 {p : Program} {l : Launch} {e : Env} {R : Room} {s : State} {m : MethodId} {args : Array Value} {below : List Frame} {meth : Method} {c : Code} {D : va_G} {ad : Nat → Nat → Nat} {cs : Nat → ClassId} {P : Nat → Nat → Prop} {sz tU : Nat} {adK adV : Nat → Nat} {K : Int32 → St → Prop} {x2 : Int32} {x3 : Int32} {x4 : Int32} (E : Ex p s m args meth c R RX8 cX8_year 10 (some .int) 70 1647 D ad cs P (wA ad P) tU adK adV cnM) : ∀ (n : Nat) (x5 : Int32) (x6 : Int32) (S : St) (H : Heap) (locs : List Loc) (ls : Array Slot), wbX8_year_223 K x2 x3 x4 n x5 x6 S → wH D ad cs P (wA ad P) s.heap sz S H locs → lv_has ls 10 [(0, .ref (ad 40 0)), (2, .int x2), (3, .int x3), (4, .int x4), (5, .int x5), (6, .int x6)] → W p l e R s m args below meth c H locs 0 0 (MQ below (va_Qi K (QX D ad cs P sz) (wA ad P)) args s 0 0 (wA ad P)) (F0 m 223 ls []) := by
  have hx := E.hx
  have hb := E.hb
  intro n
  induction n with
  | zero => intro x5 x6 S H locs ls hw hh hl; exact hw.elim
  | succ n ih =>
    intro x5 x6 S H locs ls hw hh hl
    refine lv_iload hx hb dX8_year_223 (lv_at hl 5 rfl) ?_
    refine lv_aload_n hx hb dX8_year_225 rfl (lv_at hl 0 rfl) ?_
    refine g_40_7 E hh tb741 (E.hn 40 0 (by decide)) dX8_year_226 ?_
    refine lv_icmp_ge (tgt := 259) hx hb dX8_year_229 (by decide) (fun c7 => ?_) (fun c7 => ?_)
    · have hw := ifT hw c7
      refine lv_iload_n hx hb dX8_year_259 rfl (lv_at hl 1 rfl) ?_
      refine lv_if_ne (tgt := 268) hx hb dX8_year_260 (by decide) (fun c8 => ?_) (fun c8 => ?_)
      · have hw := ifF hw c8
        refine lv_iload_n hx hb dX8_year_268 rfl (lv_at hl 1 rfl) ?_
        refine lv_iconst (v := 1) hx hb dX8_year_269 (by decide) ?_
        refine lv_icmp_ne (tgt := 277) hx hb dX8_year_270 (by decide) (fun c9 => ?_) (fun c9 => ?_)
        · have hw := ifF hw c9
          refine lv_iload_n hx hb dX8_year_277 rfl (lv_at hl 1 rfl) ?_
          refine lv_iconst (v := 2) hx hb dX8_year_278 (by decide) ?_
          refine lv_icmp_ne (tgt := 287) hx hb dX8_year_279 (by decide) (fun c10 => ?_) (fun c10 => ?_)
          · have hw := ifF hw c10
            refine lv_aload_n hx hb dX8_year_287 rfl (lv_at hl 0 rfl) ?_
            refine lv_iload_n hx hb dX8_year_288 rfl (lv_at hl 1 rfl) ?_
            refine lv_iconst (v := 3) hx hb dX8_year_289 (by decide) ?_
            refine lv_isub hx hb dX8_year_290 ?_
            refine x_ci E.hA hh (x_runV E hh (mX8_isMan E.hI E.hn hw) kX8_isMan tb926 (E.hn 40 0 (by decide)) rv_40 ⟨by decide, by decide⟩ rfl hl.1 rfl (Nat.le_of_ble_eq_true rfl) dX8_year_291 ⟨Nat.zero_le _, Nat.zero_le _⟩) (fun r11 S11 H locs hw hh => ?_)
            have hq11 := hw.2
            have hw := hw.1
            refine lv_if_eq (tgt := 308) hx hb dX8_year_294 (by decide) (fun c12 => ?_) (fun c12 => ?_)
            · have hw := ifT hw c12
              refine lv_iconst (v := (-1)) hx hb dX8_year_308 (by decide) ?_
              exact bX8_year_309 E hw hh (lv_sub hl [0] rfl)
            · have hw := ifF hw c12
              refine lv_aload_n hx hb dX8_year_297 rfl (lv_at hl 0 rfl) ?_
              refine g_40_12 E hh tb746 (E.hn 40 0 (by decide)) dX8_year_298 ?_
              refine lv_iload_n hx hb dX8_year_301 rfl (lv_at hl 1 rfl) ?_
              refine lv_iconst (v := 3) hx hb dX8_year_302 (by decide) ?_
              refine lv_isub hx hb dX8_year_303 ?_
              obtain ⟨hi13, hw⟩ := hw
              refine x_iald E hh (E.hn 47 0 (by decide)) ly_47 hi13 dX8_year_304 ?_
              refine lv_goto (tgt := 309) hx hb dX8_year_305 (by decide) ?_
              exact bX8_year_309 E hw hh (lv_sub hl [0] rfl)
          · have hw := ifT hw c10
            refine lv_iload hx hb dX8_year_282 (lv_at hl 3 rfl) ?_
            refine lv_goto (tgt := 309) hx hb dX8_year_284 (by decide) ?_
            exact bX8_year_309 E hw hh (lv_sub hl [0] rfl)
        · have hw := ifT hw c9
          refine lv_iload_n hx hb dX8_year_273 rfl (lv_at hl 2 rfl) ?_
          refine lv_goto (tgt := 309) hx hb dX8_year_274 (by decide) ?_
          exact bX8_year_309 E hw hh (lv_sub hl [0] rfl)
      · have hw := ifT hw c8
        refine lv_iload hx hb dX8_year_263 (lv_at hl 4 rfl) ?_
        refine lv_goto (tgt := 309) hx hb dX8_year_265 (by decide) ?_
        exact bX8_year_309 E hw hh (lv_sub hl [0] rfl)
    · have hw := ifF hw c7
      refine lv_iload hx hb dX8_year_232 (lv_at hl 4 rfl) ?_
      refine lv_aload_n hx hb dX8_year_234 rfl (lv_at hl 0 rfl) ?_
      refine g_40_12 E hh tb746 (E.hn 40 0 (by decide)) dX8_year_235 ?_
      refine lv_iload hx hb dX8_year_238 (lv_at hl 5 rfl) ?_
      obtain ⟨hi14, hw⟩ := hw
      refine x_iald E hh (E.hn 47 0 (by decide)) ly_47 hi14 dX8_year_240 ?_
      refine lv_iconst (v := (-1)) hx hb dX8_year_241 (by decide) ?_
      refine lv_icmp_ne (tgt := 249) hx hb dX8_year_242 (by decide) (fun c15 => ?_) (fun c15 => ?_)
      · have hw := ifF hw c15
        refine lv_iconst (v := 1) hx hb dX8_year_249 (by decide) ?_
        exact bX8_year_250 E ih hw hh (lv_sub hl [0, 1, 2, 3, 5] rfl)
      · have hw := ifT hw c15
        refine lv_iconst (v := 0) hx hb dX8_year_245 (by decide) ?_
        refine lv_goto (tgt := 250) hx hb dX8_year_246 (by decide) ?_
        exact bX8_year_250 E ih hw hh (lv_sub hl [0, 1, 2, 3, 5] rfl)
def wbX8_year_205 (R39 : Int32 → Int32 → Int32 → St → Prop) (R48 : Int32 → Int32 → Int32 → St → Prop) (K : Int32 → St → Prop) (x1 : Int32) (x2 : Int32) (x3 : Int32) (x4 : Int32) (x5 : Int32) (x6 : Int32) (S : St) : Prop := R48 x3 x4 (x6 + 1) S
set_option maxRecDepth 4000 in
theorem bX8_year_205 {p : Program} {l : Launch} {e : Env} {R : Room} {s : State} {m : MethodId} {args : Array Value} {below : List Frame} {meth : Method} {c : Code} {D : va_G} {ad : Nat → Nat → Nat} {cs : Nat → ClassId} {P : Nat → Nat → Prop} {sz tU : Nat} {adK adV : Nat → Nat} {R39 : Int32 → Int32 → Int32 → St → Prop} {R48 : Int32 → Int32 → Int32 → St → Prop} {K : Int32 → St → Prop} {x1 : Int32} {x2 : Int32} {x3 : Int32} {x4 : Int32} {x5 : Int32} {x6 : Int32} {S : St} {H : Heap} {locs : List Loc} {ls : Array Slot} (E : Ex p s m args meth c R RX8 cX8_year 10 (some .int) 70 1647 D ad cs P (wA ad P) tU adK adV cnM) (hR39 : ∀ (z3 : Int32) (z4 : Int32) (z5 : Int32) (S : St) (H : Heap) (locs : List Loc) (ls : Array Slot), R39 z3 z4 z5 S → wH D ad cs P (wA ad P) s.heap sz S H locs → lv_has ls 10 [(0, .ref (ad 40 0)), (1, .int x1), (2, .int x2), (3, .int z3), (4, .int z4), (5, .int z5)] → W p l e R s m args below meth c H locs 0 0 (MQ below (va_Qi K (QX D ad cs P sz) (wA ad P)) args s 0 0 (wA ad P)) (F0 m 39 ls [])) (hR48 : ∀ (z3 : Int32) (z4 : Int32) (z6 : Int32) (S : St) (H : Heap) (locs : List Loc) (ls : Array Slot), R48 z3 z4 z6 S → wH D ad cs P (wA ad P) s.heap sz S H locs → lv_has ls 10 [(0, .ref (ad 40 0)), (1, .int x1), (2, .int x2), (3, .int z3), (4, .int z4), (5, .int x5), (6, .int z6)] → W p l e R s m args below meth c H locs 0 0 (MQ below (va_Qi K (QX D ad cs P sz) (wA ad P)) args s 0 0 (wA ad P)) (F0 m 48 ls [])) (hw : wbX8_year_205 R39 R48 K x1 x2 x3 x4 x5 x6 S) (hh : wH D ad cs P (wA ad P) s.heap sz S H locs) (hl : lv_has ls 10 [(0, .ref (ad 40 0)), (1, .int x1), (2, .int x2), (3, .int x3), (4, .int x4), (5, .int x5), (6, .int x6)]) : W p l e R s m args below meth c H locs 0 0 (MQ below (va_Qi K (QX D ad cs P sz) (wA ad P)) args s 0 0 (wA ad P)) (F0 m 205 ls []) := by
  have hx := E.hx
  have hb := E.hb
  refine lv_iinc (k := 6) (v := x6 + 1) (lv' := [(6, .int (x6 + 1)), (0, .ref (ad 40 0)), (1, .int x1), (2, .int x2), (3, .int x3), (4, .int x4), (5, .int x5)]) hx hb dX8_year_205 hl rfl rfl (by decide) rfl (fun ls hl => ?_)
  refine lv_goto (tgt := 48) hx hb dX8_year_208 (by decide) ?_
  exact hR48 x3 x4 (x6 + 1) S _ _ _ hw hh (lv_sub hl [1, 2, 3, 4, 5, 6, 0] rfl)
def wbX8_year_192 (R39 : Int32 → Int32 → Int32 → St → Prop) (R48 : Int32 → Int32 → Int32 → St → Prop) (K : Int32 → St → Prop) (x1 : Int32) (x2 : Int32) (x3 : Int32) (x5 : Int32) (x6 : Int32) (x7 : Int32) (x8 : Int32) (v0 : Int32) (v1 : Int32) (S : St) : Prop := wpX8_answers x6 x7 x8 S (fun S28 => wbX8_year_205 R39 R48 K x1 x2 x3 (v1 + v0) x5 x6 S28)
set_option maxRecDepth 4000 in
theorem bX8_year_192 {p : Program} {l : Launch} {e : Env} {R : Room} {s : State} {m : MethodId} {args : Array Value} {below : List Frame} {meth : Method} {c : Code} {D : va_G} {ad : Nat → Nat → Nat} {cs : Nat → ClassId} {P : Nat → Nat → Prop} {sz tU : Nat} {adK adV : Nat → Nat} {R39 : Int32 → Int32 → Int32 → St → Prop} {R48 : Int32 → Int32 → Int32 → St → Prop} {K : Int32 → St → Prop} {x1 : Int32} {x2 : Int32} {x3 : Int32} {x5 : Int32} {x6 : Int32} {x7 : Int32} {x8 : Int32} {v0 : Int32} {v1 : Int32} {S : St} {H : Heap} {locs : List Loc} {ls : Array Slot} (E : Ex p s m args meth c R RX8 cX8_year 10 (some .int) 70 1647 D ad cs P (wA ad P) tU adK adV cnM) (hR39 : ∀ (z3 : Int32) (z4 : Int32) (z5 : Int32) (S : St) (H : Heap) (locs : List Loc) (ls : Array Slot), R39 z3 z4 z5 S → wH D ad cs P (wA ad P) s.heap sz S H locs → lv_has ls 10 [(0, .ref (ad 40 0)), (1, .int x1), (2, .int x2), (3, .int z3), (4, .int z4), (5, .int z5)] → W p l e R s m args below meth c H locs 0 0 (MQ below (va_Qi K (QX D ad cs P sz) (wA ad P)) args s 0 0 (wA ad P)) (F0 m 39 ls [])) (hR48 : ∀ (z3 : Int32) (z4 : Int32) (z6 : Int32) (S : St) (H : Heap) (locs : List Loc) (ls : Array Slot), R48 z3 z4 z6 S → wH D ad cs P (wA ad P) s.heap sz S H locs → lv_has ls 10 [(0, .ref (ad 40 0)), (1, .int x1), (2, .int x2), (3, .int z3), (4, .int z4), (5, .int x5), (6, .int z6)] → W p l e R s m args below meth c H locs 0 0 (MQ below (va_Qi K (QX D ad cs P sz) (wA ad P)) args s 0 0 (wA ad P)) (F0 m 48 ls [])) (hw : wbX8_year_192 R39 R48 K x1 x2 x3 x5 x6 x7 x8 v0 v1 S) (hh : wH D ad cs P (wA ad P) s.heap sz S H locs) (hl : lv_has ls 10 [(0, .ref (ad 40 0)), (1, .int x1), (2, .int x2), (3, .int x3), (5, .int x5), (6, .int x6), (7, .int x7), (8, .int x8)]) : W p l e R s m args below meth c H locs 0 0 (MQ below (va_Qi K (QX D ad cs P sz) (wA ad P)) args s 0 0 (wA ad P)) (F0 m 192 ls [.int v0, .int v1]) := by
  have hx := E.hx
  have hb := E.hb
  refine lv_iadd hx hb dX8_year_192 ?_
  refine lv_istore (lv' := [(4, .int (v1 + v0)), (0, .ref (ad 40 0)), (1, .int x1), (2, .int x2), (3, .int x3), (5, .int x5), (6, .int x6), (7, .int x7), (8, .int x8)]) hx hb dX8_year_193 hl (by decide) rfl (fun ls hl => ?_)
  refine lv_aload_n hx hb dX8_year_195 rfl (lv_at hl 1 rfl) ?_
  refine lv_iload hx hb dX8_year_196 (lv_at hl 6 rfl) ?_
  refine lv_iload hx hb dX8_year_198 (lv_at hl 7 rfl) ?_
  refine lv_iload hx hb dX8_year_200 (lv_at hl 8 rfl) ?_
  refine x_cv E.hA hh (x_runV E hh (mX8_answers E.hI E.hn hw) kX8_answers tb1072 (E.hn 40 0 (by decide)) rv_40 ⟨by decide, by decide⟩ rfl hl.1 rfl (Nat.le_of_ble_eq_true rfl) dX8_year_202 ⟨Nat.zero_le _, Nat.zero_le _⟩) (fun S28 H locs hw hh => ?_)
  exact bX8_year_205 E hR39 hR48 hw hh (lv_sub hl [1, 2, 3, 4, 0, 5, 6] rfl)
def wbX8_year_143 (R39 : Int32 → Int32 → Int32 → St → Prop) (R48 : Int32 → Int32 → Int32 → St → Prop) (R63 : Int32 → Int32 → St → Prop) (K : Int32 → St → Prop) (x1 : Int32) (x2 : Int32) (x3 : Int32) (x4 : Int32) (x5 : Int32) (x6 : Int32) (x7 : Int32) (x8 : Int32) (S : St) : Prop := R63 x7 (x8 + 1) S
set_option maxRecDepth 4000 in
theorem bX8_year_143 {p : Program} {l : Launch} {e : Env} {R : Room} {s : State} {m : MethodId} {args : Array Value} {below : List Frame} {meth : Method} {c : Code} {D : va_G} {ad : Nat → Nat → Nat} {cs : Nat → ClassId} {P : Nat → Nat → Prop} {sz tU : Nat} {adK adV : Nat → Nat} {R39 : Int32 → Int32 → Int32 → St → Prop} {R48 : Int32 → Int32 → Int32 → St → Prop} {R63 : Int32 → Int32 → St → Prop} {K : Int32 → St → Prop} {x1 : Int32} {x2 : Int32} {x3 : Int32} {x4 : Int32} {x5 : Int32} {x6 : Int32} {x7 : Int32} {x8 : Int32} {S : St} {H : Heap} {locs : List Loc} {ls : Array Slot} (E : Ex p s m args meth c R RX8 cX8_year 10 (some .int) 70 1647 D ad cs P (wA ad P) tU adK adV cnM) (hR39 : ∀ (z3 : Int32) (z4 : Int32) (z5 : Int32) (S : St) (H : Heap) (locs : List Loc) (ls : Array Slot), R39 z3 z4 z5 S → wH D ad cs P (wA ad P) s.heap sz S H locs → lv_has ls 10 [(0, .ref (ad 40 0)), (1, .int x1), (2, .int x2), (3, .int z3), (4, .int z4), (5, .int z5)] → W p l e R s m args below meth c H locs 0 0 (MQ below (va_Qi K (QX D ad cs P sz) (wA ad P)) args s 0 0 (wA ad P)) (F0 m 39 ls [])) (hR48 : ∀ (z3 : Int32) (z4 : Int32) (z6 : Int32) (S : St) (H : Heap) (locs : List Loc) (ls : Array Slot), R48 z3 z4 z6 S → wH D ad cs P (wA ad P) s.heap sz S H locs → lv_has ls 10 [(0, .ref (ad 40 0)), (1, .int x1), (2, .int x2), (3, .int z3), (4, .int z4), (5, .int x5), (6, .int z6)] → W p l e R s m args below meth c H locs 0 0 (MQ below (va_Qi K (QX D ad cs P sz) (wA ad P)) args s 0 0 (wA ad P)) (F0 m 48 ls [])) (hR63 : ∀ (z7 : Int32) (z8 : Int32) (S : St) (H : Heap) (locs : List Loc) (ls : Array Slot), R63 z7 z8 S → wH D ad cs P (wA ad P) s.heap sz S H locs → lv_has ls 10 [(0, .ref (ad 40 0)), (1, .int x1), (2, .int x2), (3, .int x3), (4, .int x4), (5, .int x5), (6, .int x6), (7, .int z7), (8, .int z8)] → W p l e R s m args below meth c H locs 0 0 (MQ below (va_Qi K (QX D ad cs P sz) (wA ad P)) args s 0 0 (wA ad P)) (F0 m 63 ls [])) (hw : wbX8_year_143 R39 R48 R63 K x1 x2 x3 x4 x5 x6 x7 x8 S) (hh : wH D ad cs P (wA ad P) s.heap sz S H locs) (hl : lv_has ls 10 [(0, .ref (ad 40 0)), (1, .int x1), (2, .int x2), (3, .int x3), (4, .int x4), (5, .int x5), (6, .int x6), (7, .int x7), (8, .int x8)]) : W p l e R s m args below meth c H locs 0 0 (MQ below (va_Qi K (QX D ad cs P sz) (wA ad P)) args s 0 0 (wA ad P)) (F0 m 143 ls []) := by
  have hx := E.hx
  have hb := E.hb
  refine lv_iinc (k := 8) (v := x8 + 1) (lv' := [(8, .int (x8 + 1)), (0, .ref (ad 40 0)), (1, .int x1), (2, .int x2), (3, .int x3), (4, .int x4), (5, .int x5), (6, .int x6), (7, .int x7)]) hx hb dX8_year_143 hl rfl rfl (by decide) rfl (fun ls hl => ?_)
  refine lv_goto (tgt := 63) hx hb dX8_year_146 (by decide) ?_
  exact hR63 x7 (x8 + 1) S _ _ _ hw hh (lv_sub hl [1, 2, 3, 4, 5, 6, 7, 8, 0] rfl)
def wbX8_year_139 (R39 : Int32 → Int32 → Int32 → St → Prop) (R48 : Int32 → Int32 → Int32 → St → Prop) (R63 : Int32 → Int32 → St → Prop) (K : Int32 → St → Prop) (x1 : Int32) (x2 : Int32) (x3 : Int32) (x4 : Int32) (x5 : Int32) (x6 : Int32) (x8 : Int32) (S : St) : Prop := wbX8_year_143 R39 R48 R63 K x1 x2 x3 x4 x5 x6 x8 x8 S
set_option maxRecDepth 4000 in
theorem bX8_year_139 {p : Program} {l : Launch} {e : Env} {R : Room} {s : State} {m : MethodId} {args : Array Value} {below : List Frame} {meth : Method} {c : Code} {D : va_G} {ad : Nat → Nat → Nat} {cs : Nat → ClassId} {P : Nat → Nat → Prop} {sz tU : Nat} {adK adV : Nat → Nat} {R39 : Int32 → Int32 → Int32 → St → Prop} {R48 : Int32 → Int32 → Int32 → St → Prop} {R63 : Int32 → Int32 → St → Prop} {K : Int32 → St → Prop} {x1 : Int32} {x2 : Int32} {x3 : Int32} {x4 : Int32} {x5 : Int32} {x6 : Int32} {x8 : Int32} {S : St} {H : Heap} {locs : List Loc} {ls : Array Slot} (E : Ex p s m args meth c R RX8 cX8_year 10 (some .int) 70 1647 D ad cs P (wA ad P) tU adK adV cnM) (hR39 : ∀ (z3 : Int32) (z4 : Int32) (z5 : Int32) (S : St) (H : Heap) (locs : List Loc) (ls : Array Slot), R39 z3 z4 z5 S → wH D ad cs P (wA ad P) s.heap sz S H locs → lv_has ls 10 [(0, .ref (ad 40 0)), (1, .int x1), (2, .int x2), (3, .int z3), (4, .int z4), (5, .int z5)] → W p l e R s m args below meth c H locs 0 0 (MQ below (va_Qi K (QX D ad cs P sz) (wA ad P)) args s 0 0 (wA ad P)) (F0 m 39 ls [])) (hR48 : ∀ (z3 : Int32) (z4 : Int32) (z6 : Int32) (S : St) (H : Heap) (locs : List Loc) (ls : Array Slot), R48 z3 z4 z6 S → wH D ad cs P (wA ad P) s.heap sz S H locs → lv_has ls 10 [(0, .ref (ad 40 0)), (1, .int x1), (2, .int x2), (3, .int z3), (4, .int z4), (5, .int x5), (6, .int z6)] → W p l e R s m args below meth c H locs 0 0 (MQ below (va_Qi K (QX D ad cs P sz) (wA ad P)) args s 0 0 (wA ad P)) (F0 m 48 ls [])) (hR63 : ∀ (z7 : Int32) (z8 : Int32) (S : St) (H : Heap) (locs : List Loc) (ls : Array Slot), R63 z7 z8 S → wH D ad cs P (wA ad P) s.heap sz S H locs → lv_has ls 10 [(0, .ref (ad 40 0)), (1, .int x1), (2, .int x2), (3, .int x3), (4, .int x4), (5, .int x5), (6, .int x6), (7, .int z7), (8, .int z8)] → W p l e R s m args below meth c H locs 0 0 (MQ below (va_Qi K (QX D ad cs P sz) (wA ad P)) args s 0 0 (wA ad P)) (F0 m 63 ls [])) (hw : wbX8_year_139 R39 R48 R63 K x1 x2 x3 x4 x5 x6 x8 S) (hh : wH D ad cs P (wA ad P) s.heap sz S H locs) (hl : lv_has ls 10 [(0, .ref (ad 40 0)), (1, .int x1), (2, .int x2), (3, .int x3), (4, .int x4), (5, .int x5), (6, .int x6), (8, .int x8)]) : W p l e R s m args below meth c H locs 0 0 (MQ below (va_Qi K (QX D ad cs P sz) (wA ad P)) args s 0 0 (wA ad P)) (F0 m 139 ls []) := by
  have hx := E.hx
  have hb := E.hb
  refine lv_iload hx hb dX8_year_139 (lv_at hl 7 rfl) ?_
  refine lv_istore (lv' := [(7, .int x8), (0, .ref (ad 40 0)), (1, .int x1), (2, .int x2), (3, .int x3), (4, .int x4), (5, .int x5), (6, .int x6), (8, .int x8)]) hx hb dX8_year_141 hl (by decide) rfl (fun ls hl => ?_)
  exact bX8_year_143 E hR39 hR48 hR63 hw hh (lv_sub hl [1, 2, 3, 4, 5, 6, 7, 0, 8] rfl)
def wbX8_year_99 (R39 : Int32 → Int32 → Int32 → St → Prop) (R48 : Int32 → Int32 → Int32 → St → Prop) (R63 : Int32 → Int32 → St → Prop) (K : Int32 → St → Prop) (x1 : Int32) (x2 : Int32) (x3 : Int32) (x4 : Int32) (x5 : Int32) (x6 : Int32) (x7 : Int32) (x8 : Int32) (v0 : Int32) (S : St) : Prop := if v0 = 0 then (wbX8_year_143 R39 R48 R63 K x1 x2 x3 x4 x5 x6 x7 x8 S) else (if x7 = (-1) then (wbX8_year_139 R39 R48 R63 K x1 x2 x3 x4 x5 x6 x8 S) else ((vp_in ((4 * x6) + x8) 16 ∧ (vp_in ((4 * x6) + x7) 16 ∧ if (S.1 44 0 ((4 * x6) + x8).toNatClampNeg) ≤ (S.1 44 0 ((4 * x6) + x7).toNatClampNeg) then (wbX8_year_143 R39 R48 R63 K x1 x2 x3 x4 x5 x6 x7 x8 S) else (wbX8_year_139 R39 R48 R63 K x1 x2 x3 x4 x5 x6 x8 S)))))
set_option maxRecDepth 4000 in
theorem bX8_year_99 {p : Program} {l : Launch} {e : Env} {R : Room} {s : State} {m : MethodId} {args : Array Value} {below : List Frame} {meth : Method} {c : Code} {D : va_G} {ad : Nat → Nat → Nat} {cs : Nat → ClassId} {P : Nat → Nat → Prop} {sz tU : Nat} {adK adV : Nat → Nat} {R39 : Int32 → Int32 → Int32 → St → Prop} {R48 : Int32 → Int32 → Int32 → St → Prop} {R63 : Int32 → Int32 → St → Prop} {K : Int32 → St → Prop} {x1 : Int32} {x2 : Int32} {x3 : Int32} {x4 : Int32} {x5 : Int32} {x6 : Int32} {x7 : Int32} {x8 : Int32} {v0 : Int32} {S : St} {H : Heap} {locs : List Loc} {ls : Array Slot} (E : Ex p s m args meth c R RX8 cX8_year 10 (some .int) 70 1647 D ad cs P (wA ad P) tU adK adV cnM) (hR39 : ∀ (z3 : Int32) (z4 : Int32) (z5 : Int32) (S : St) (H : Heap) (locs : List Loc) (ls : Array Slot), R39 z3 z4 z5 S → wH D ad cs P (wA ad P) s.heap sz S H locs → lv_has ls 10 [(0, .ref (ad 40 0)), (1, .int x1), (2, .int x2), (3, .int z3), (4, .int z4), (5, .int z5)] → W p l e R s m args below meth c H locs 0 0 (MQ below (va_Qi K (QX D ad cs P sz) (wA ad P)) args s 0 0 (wA ad P)) (F0 m 39 ls [])) (hR48 : ∀ (z3 : Int32) (z4 : Int32) (z6 : Int32) (S : St) (H : Heap) (locs : List Loc) (ls : Array Slot), R48 z3 z4 z6 S → wH D ad cs P (wA ad P) s.heap sz S H locs → lv_has ls 10 [(0, .ref (ad 40 0)), (1, .int x1), (2, .int x2), (3, .int z3), (4, .int z4), (5, .int x5), (6, .int z6)] → W p l e R s m args below meth c H locs 0 0 (MQ below (va_Qi K (QX D ad cs P sz) (wA ad P)) args s 0 0 (wA ad P)) (F0 m 48 ls [])) (hR63 : ∀ (z7 : Int32) (z8 : Int32) (S : St) (H : Heap) (locs : List Loc) (ls : Array Slot), R63 z7 z8 S → wH D ad cs P (wA ad P) s.heap sz S H locs → lv_has ls 10 [(0, .ref (ad 40 0)), (1, .int x1), (2, .int x2), (3, .int x3), (4, .int x4), (5, .int x5), (6, .int x6), (7, .int z7), (8, .int z8)] → W p l e R s m args below meth c H locs 0 0 (MQ below (va_Qi K (QX D ad cs P sz) (wA ad P)) args s 0 0 (wA ad P)) (F0 m 63 ls [])) (hw : wbX8_year_99 R39 R48 R63 K x1 x2 x3 x4 x5 x6 x7 x8 v0 S) (hh : wH D ad cs P (wA ad P) s.heap sz S H locs) (hl : lv_has ls 10 [(0, .ref (ad 40 0)), (1, .int x1), (2, .int x2), (3, .int x3), (4, .int x4), (5, .int x5), (6, .int x6), (7, .int x7), (8, .int x8)]) : W p l e R s m args below meth c H locs 0 0 (MQ below (va_Qi K (QX D ad cs P sz) (wA ad P)) args s 0 0 (wA ad P)) (F0 m 99 ls [.int v0]) := by
  have hx := E.hx
  have hb := E.hb
  refine lv_istore (lv' := [(9, .int v0), (0, .ref (ad 40 0)), (1, .int x1), (2, .int x2), (3, .int x3), (4, .int x4), (5, .int x5), (6, .int x6), (7, .int x7), (8, .int x8)]) hx hb dX8_year_99 hl (by decide) rfl (fun ls hl => ?_)
  refine lv_iload hx hb dX8_year_101 (lv_at hl 0 rfl) ?_
  refine lv_if_eq (tgt := 143) hx hb dX8_year_103 (by decide) (fun c29 => ?_) (fun c29 => ?_)
  · have hw := ifT hw c29
    exact bX8_year_143 E hR39 hR48 hR63 hw hh (lv_sub hl [1, 2, 3, 4, 5, 6, 7, 8, 9] rfl)
  · have hw := ifF hw c29
    refine lv_iload hx hb dX8_year_106 (lv_at hl 8 rfl) ?_
    refine lv_iconst (v := (-1)) hx hb dX8_year_108 (by decide) ?_
    refine lv_icmp_eq (tgt := 139) hx hb dX8_year_109 (by decide) (fun c30 => ?_) (fun c30 => ?_)
    · have hw := ifT hw c30
      exact bX8_year_139 E hR39 hR48 hR63 hw hh (lv_sub hl [1, 2, 3, 4, 5, 6, 7, 9] rfl)
    · have hw := ifF hw c30
      refine lv_aload_n hx hb dX8_year_112 rfl (lv_at hl 1 rfl) ?_
      refine g_40_9 E hh tb743 (E.hn 40 0 (by decide)) dX8_year_113 ?_
      refine lv_iconst (v := 4) hx hb dX8_year_116 (by decide) ?_
      refine lv_iload hx hb dX8_year_117 (lv_at hl 7 rfl) ?_
      refine lv_imul hx hb dX8_year_119 ?_
      refine lv_iload hx hb dX8_year_120 (lv_at hl 9 rfl) ?_
      refine lv_iadd hx hb dX8_year_122 ?_
      obtain ⟨hi31, hw⟩ := hw
      refine x_iald E hh (E.hn 44 0 (by decide)) ly_44 hi31 dX8_year_123 ?_
      refine lv_aload_n hx hb dX8_year_124 rfl (lv_at hl 1 rfl) ?_
      refine g_40_9 E hh tb743 (E.hn 40 0 (by decide)) dX8_year_125 ?_
      refine lv_iconst (v := 4) hx hb dX8_year_128 (by decide) ?_
      refine lv_iload hx hb dX8_year_129 (lv_at hl 7 rfl) ?_
      refine lv_imul hx hb dX8_year_131 ?_
      refine lv_iload hx hb dX8_year_132 (lv_at hl 8 rfl) ?_
      refine lv_iadd hx hb dX8_year_134 ?_
      obtain ⟨hi32, hw⟩ := hw
      refine x_iald E hh (E.hn 44 0 (by decide)) ly_44 hi32 dX8_year_135 ?_
      refine lv_icmp_le (tgt := 143) hx hb dX8_year_136 (by decide) (fun c33 => ?_) (fun c33 => ?_)
      · have hw := ifT hw c33
        exact bX8_year_143 E hR39 hR48 hR63 hw hh (lv_sub hl [1, 2, 3, 4, 5, 6, 7, 8, 9] rfl)
      · have hw := ifF hw c33
        exact bX8_year_139 E hR39 hR48 hR63 hw hh (lv_sub hl [1, 2, 3, 4, 5, 6, 7, 9] rfl)
def wbX8_year_98 (R39 : Int32 → Int32 → Int32 → St → Prop) (R48 : Int32 → Int32 → Int32 → St → Prop) (R63 : Int32 → Int32 → St → Prop) (K : Int32 → St → Prop) (x1 : Int32) (x2 : Int32) (x3 : Int32) (x4 : Int32) (x5 : Int32) (x6 : Int32) (x7 : Int32) (x8 : Int32) (S : St) : Prop := wbX8_year_99 R39 R48 R63 K x1 x2 x3 x4 x5 x6 x7 x8 0 S
set_option maxRecDepth 4000 in
theorem bX8_year_98 {p : Program} {l : Launch} {e : Env} {R : Room} {s : State} {m : MethodId} {args : Array Value} {below : List Frame} {meth : Method} {c : Code} {D : va_G} {ad : Nat → Nat → Nat} {cs : Nat → ClassId} {P : Nat → Nat → Prop} {sz tU : Nat} {adK adV : Nat → Nat} {R39 : Int32 → Int32 → Int32 → St → Prop} {R48 : Int32 → Int32 → Int32 → St → Prop} {R63 : Int32 → Int32 → St → Prop} {K : Int32 → St → Prop} {x1 : Int32} {x2 : Int32} {x3 : Int32} {x4 : Int32} {x5 : Int32} {x6 : Int32} {x7 : Int32} {x8 : Int32} {S : St} {H : Heap} {locs : List Loc} {ls : Array Slot} (E : Ex p s m args meth c R RX8 cX8_year 10 (some .int) 70 1647 D ad cs P (wA ad P) tU adK adV cnM) (hR39 : ∀ (z3 : Int32) (z4 : Int32) (z5 : Int32) (S : St) (H : Heap) (locs : List Loc) (ls : Array Slot), R39 z3 z4 z5 S → wH D ad cs P (wA ad P) s.heap sz S H locs → lv_has ls 10 [(0, .ref (ad 40 0)), (1, .int x1), (2, .int x2), (3, .int z3), (4, .int z4), (5, .int z5)] → W p l e R s m args below meth c H locs 0 0 (MQ below (va_Qi K (QX D ad cs P sz) (wA ad P)) args s 0 0 (wA ad P)) (F0 m 39 ls [])) (hR48 : ∀ (z3 : Int32) (z4 : Int32) (z6 : Int32) (S : St) (H : Heap) (locs : List Loc) (ls : Array Slot), R48 z3 z4 z6 S → wH D ad cs P (wA ad P) s.heap sz S H locs → lv_has ls 10 [(0, .ref (ad 40 0)), (1, .int x1), (2, .int x2), (3, .int z3), (4, .int z4), (5, .int x5), (6, .int z6)] → W p l e R s m args below meth c H locs 0 0 (MQ below (va_Qi K (QX D ad cs P sz) (wA ad P)) args s 0 0 (wA ad P)) (F0 m 48 ls [])) (hR63 : ∀ (z7 : Int32) (z8 : Int32) (S : St) (H : Heap) (locs : List Loc) (ls : Array Slot), R63 z7 z8 S → wH D ad cs P (wA ad P) s.heap sz S H locs → lv_has ls 10 [(0, .ref (ad 40 0)), (1, .int x1), (2, .int x2), (3, .int x3), (4, .int x4), (5, .int x5), (6, .int x6), (7, .int z7), (8, .int z8)] → W p l e R s m args below meth c H locs 0 0 (MQ below (va_Qi K (QX D ad cs P sz) (wA ad P)) args s 0 0 (wA ad P)) (F0 m 63 ls [])) (hw : wbX8_year_98 R39 R48 R63 K x1 x2 x3 x4 x5 x6 x7 x8 S) (hh : wH D ad cs P (wA ad P) s.heap sz S H locs) (hl : lv_has ls 10 [(0, .ref (ad 40 0)), (1, .int x1), (2, .int x2), (3, .int x3), (4, .int x4), (5, .int x5), (6, .int x6), (7, .int x7), (8, .int x8)]) : W p l e R s m args below meth c H locs 0 0 (MQ below (va_Qi K (QX D ad cs P sz) (wA ad P)) args s 0 0 (wA ad P)) (F0 m 98 ls []) := by
  have hx := E.hx
  have hb := E.hb
  refine lv_iconst (v := 0) hx hb dX8_year_98 (by decide) ?_
  exact bX8_year_99 E hR39 hR48 hR63 hw hh (lv_sub hl [0, 1, 2, 3, 4, 5, 6, 7, 8] rfl)
def wbX8_year_63 (R39 : Int32 → Int32 → Int32 → St → Prop) (R48 : Int32 → Int32 → Int32 → St → Prop) (K : Int32 → St → Prop) (x1 : Int32) (x2 : Int32) (x3 : Int32) (x4 : Int32) (x5 : Int32) (x6 : Int32) : Nat → Int32 → Int32 → St → Prop
  | 0, _, _, _ => False
  | n + 1, x7, x8, S => if (S.1 40 0 8) ≤ x8 then (if x7 = (-1) then (wbX8_year_205 R39 R48 K x1 x2 x3 x4 x5 x6 S) else ((vp_in x6 4 ∧ wpX8_saysNo x6 x7 (S.1 46 0 x6.toNatClampNeg) S (fun r21 S21 => if r21 = 0 then (wbX8_year_192 R39 R48 K x1 x2 (x3 + 1) x5 x6 x7 r21 0 x4 S21) else (wpX8_price x7 S21 (fun r23 S23 => wbX8_year_192 R39 R48 K x1 x2 (x3 + 1) x5 x6 x7 r21 r23 x4 S23)))))) else (wpX8_mayAsk x6 x8 S (fun r24 S24 => if r24 = 0 then (wbX8_year_98 R39 R48 (fun yx7 yx8 S9 => wbX8_year_63 R39 R48 K x1 x2 x3 x4 x5 x6 n yx7 yx8 S9) K x1 x2 x3 x4 x5 x6 x7 x8 S24) else (wpX8_wants x6 x8 S24 (fun r26 S26 => if r26 = 0 then (wbX8_year_98 R39 R48 (fun yx7 yx8 S9 => wbX8_year_63 R39 R48 K x1 x2 x3 x4 x5 x6 n yx7 yx8 S9) K x1 x2 x3 x4 x5 x6 x7 x8 S26) else (wbX8_year_99 R39 R48 (fun yx7 yx8 S9 => wbX8_year_63 R39 R48 K x1 x2 x3 x4 x5 x6 n yx7 yx8 S9) K x1 x2 x3 x4 x5 x6 x7 x8 1 S26)))))
set_option maxRecDepth 4000 in
theorem bX8_year_63 {p : Program} {l : Launch} {e : Env} {R : Room} {s : State} {m : MethodId} {args : Array Value} {below : List Frame} {meth : Method} {c : Code} {D : va_G} {ad : Nat → Nat → Nat} {cs : Nat → ClassId} {P : Nat → Nat → Prop} {sz tU : Nat} {adK adV : Nat → Nat} {R39 : Int32 → Int32 → Int32 → St → Prop} {R48 : Int32 → Int32 → Int32 → St → Prop} {K : Int32 → St → Prop} {x1 : Int32} {x2 : Int32} {x3 : Int32} {x4 : Int32} {x5 : Int32} {x6 : Int32} (E : Ex p s m args meth c R RX8 cX8_year 10 (some .int) 70 1647 D ad cs P (wA ad P) tU adK adV cnM) (hR39 : ∀ (z3 : Int32) (z4 : Int32) (z5 : Int32) (S : St) (H : Heap) (locs : List Loc) (ls : Array Slot), R39 z3 z4 z5 S → wH D ad cs P (wA ad P) s.heap sz S H locs → lv_has ls 10 [(0, .ref (ad 40 0)), (1, .int x1), (2, .int x2), (3, .int z3), (4, .int z4), (5, .int z5)] → W p l e R s m args below meth c H locs 0 0 (MQ below (va_Qi K (QX D ad cs P sz) (wA ad P)) args s 0 0 (wA ad P)) (F0 m 39 ls [])) (hR48 : ∀ (z3 : Int32) (z4 : Int32) (z6 : Int32) (S : St) (H : Heap) (locs : List Loc) (ls : Array Slot), R48 z3 z4 z6 S → wH D ad cs P (wA ad P) s.heap sz S H locs → lv_has ls 10 [(0, .ref (ad 40 0)), (1, .int x1), (2, .int x2), (3, .int z3), (4, .int z4), (5, .int x5), (6, .int z6)] → W p l e R s m args below meth c H locs 0 0 (MQ below (va_Qi K (QX D ad cs P sz) (wA ad P)) args s 0 0 (wA ad P)) (F0 m 48 ls [])) : ∀ (n : Nat) (x7 : Int32) (x8 : Int32) (S : St) (H : Heap) (locs : List Loc) (ls : Array Slot), wbX8_year_63 R39 R48 K x1 x2 x3 x4 x5 x6 n x7 x8 S → wH D ad cs P (wA ad P) s.heap sz S H locs → lv_has ls 10 [(0, .ref (ad 40 0)), (1, .int x1), (2, .int x2), (3, .int x3), (4, .int x4), (5, .int x5), (6, .int x6), (7, .int x7), (8, .int x8)] → W p l e R s m args below meth c H locs 0 0 (MQ below (va_Qi K (QX D ad cs P sz) (wA ad P)) args s 0 0 (wA ad P)) (F0 m 63 ls []) := by
  have hx := E.hx
  have hb := E.hb
  intro n
  induction n with
  | zero => intro x7 x8 S H locs ls hw hh hl; exact hw.elim
  | succ n ih =>
    intro x7 x8 S H locs ls hw hh hl
    refine lv_iload hx hb dX8_year_63 (lv_at hl 8 rfl) ?_
    refine lv_aload_n hx hb dX8_year_65 rfl (lv_at hl 0 rfl) ?_
    refine g_40_8 E hh tb742 (E.hn 40 0 (by decide)) dX8_year_66 ?_
    refine lv_icmp_ge (tgt := 149) hx hb dX8_year_69 (by decide) (fun c18 => ?_) (fun c18 => ?_)
    · have hw := ifT hw c18
      refine lv_iload hx hb dX8_year_149 (lv_at hl 7 rfl) ?_
      refine lv_iconst (v := (-1)) hx hb dX8_year_151 (by decide) ?_
      refine lv_icmp_eq (tgt := 205) hx hb dX8_year_152 (by decide) (fun c19 => ?_) (fun c19 => ?_)
      · have hw := ifT hw c19
        exact bX8_year_205 E hR39 hR48 hw hh (lv_sub hl [0, 1, 2, 3, 4, 5, 6] rfl)
      · have hw := ifF hw c19
        refine lv_aload_n hx hb dX8_year_155 rfl (lv_at hl 0 rfl) ?_
        refine lv_iload hx hb dX8_year_156 (lv_at hl 6 rfl) ?_
        refine lv_iload hx hb dX8_year_158 (lv_at hl 7 rfl) ?_
        refine lv_aload_n hx hb dX8_year_160 rfl (lv_at hl 0 rfl) ?_
        refine g_40_11 E hh tb745 (E.hn 40 0 (by decide)) dX8_year_161 ?_
        refine lv_iload hx hb dX8_year_164 (lv_at hl 6 rfl) ?_
        obtain ⟨hi20, hw⟩ := hw
        refine x_iald E hh (E.hn 46 0 (by decide)) ly_46 hi20 dX8_year_166 ?_
        refine x_ci E.hA hh (x_runV E hh (mX8_saysNo E.hI E.hn hw) kX8_saysNo tb1056 (E.hn 40 0 (by decide)) rv_40 ⟨by decide, by decide⟩ rfl hl.1 rfl (Nat.le_of_ble_eq_true rfl) dX8_year_167 ⟨Nat.zero_le _, Nat.zero_le _⟩) (fun r21 S21 H locs hw hh => ?_)
        have hq21 := hw.2
        have hw := hw.1
        refine lv_istore (lv' := [(8, .int r21), (0, .ref (ad 40 0)), (1, .int x1), (2, .int x2), (3, .int x3), (4, .int x4), (5, .int x5), (6, .int x6), (7, .int x7)]) hx hb dX8_year_170 hl (by decide) rfl (fun ls hl => ?_)
        refine lv_iinc (k := 4) (v := x3 + 1) (lv' := [(3, .int (x3 + 1)), (8, .int r21), (0, .ref (ad 40 0)), (1, .int x1), (2, .int x2), (4, .int x4), (5, .int x5), (6, .int x6), (7, .int x7)]) hx hb dX8_year_172 hl rfl rfl (by decide) rfl (fun ls hl => ?_)
        refine lv_iload hx hb dX8_year_175 (lv_at hl 5 rfl) ?_
        refine lv_iload hx hb dX8_year_177 (lv_at hl 1 rfl) ?_
        refine lv_if_eq (tgt := 191) hx hb dX8_year_179 (by decide) (fun c22 => ?_) (fun c22 => ?_)
        · have hw := ifT hw c22
          refine lv_iconst (v := 0) hx hb dX8_year_191 (by decide) ?_
          exact bX8_year_192 E hR39 hR48 hw hh (lv_sub hl [2, 3, 4, 0, 6, 7, 8, 1] rfl)
        · have hw := ifF hw c22
          refine lv_aload_n hx hb dX8_year_182 rfl (lv_at hl 2 rfl) ?_
          refine lv_iload hx hb dX8_year_183 (lv_at hl 8 rfl) ?_
          refine x_ci E.hA hh (x_runV E hh (mX8_price E.hI E.hn hw) kX8_price tb949 (E.hn 40 0 (by decide)) rv_40 ⟨by decide, by decide⟩ rfl hl.1 rfl (Nat.le_of_ble_eq_true rfl) dX8_year_185 ⟨Nat.zero_le _, Nat.zero_le _⟩) (fun r23 S23 H locs hw hh => ?_)
          refine lv_goto (tgt := 192) hx hb dX8_year_188 (by decide) ?_
          exact bX8_year_192 E hR39 hR48 hw hh (lv_sub hl [2, 3, 4, 0, 6, 7, 8, 1] rfl)
    · have hw := ifF hw c18
      refine lv_aload_n hx hb dX8_year_72 rfl (lv_at hl 0 rfl) ?_
      refine lv_iload hx hb dX8_year_73 (lv_at hl 6 rfl) ?_
      refine lv_iload hx hb dX8_year_75 (lv_at hl 8 rfl) ?_
      refine x_ci E.hA hh (x_runV E hh (mX8_mayAsk E.hI E.hn hw) kX8_mayAsk tb1052 (E.hn 40 0 (by decide)) rv_40 ⟨by decide, by decide⟩ rfl hl.1 rfl (Nat.le_of_ble_eq_true rfl) dX8_year_77 ⟨Nat.zero_le _, Nat.zero_le _⟩) (fun r24 S24 H locs hw hh => ?_)
      have hq24 := hw.2
      have hw := hw.1
      refine lv_if_eq (tgt := 98) hx hb dX8_year_80 (by decide) (fun c25 => ?_) (fun c25 => ?_)
      · have hw := ifT hw c25
        exact bX8_year_98 E hR39 hR48 ih hw hh (lv_sub hl [0, 1, 2, 3, 4, 5, 6, 7, 8] rfl)
      · have hw := ifF hw c25
        refine lv_aload_n hx hb dX8_year_83 rfl (lv_at hl 0 rfl) ?_
        refine lv_iload hx hb dX8_year_84 (lv_at hl 6 rfl) ?_
        refine lv_iload hx hb dX8_year_86 (lv_at hl 8 rfl) ?_
        refine x_ci E.hA hh (x_runV E hh (mX8_wants E.hI E.hn hw) kX8_wants tb1064 (E.hn 40 0 (by decide)) rv_40 ⟨by decide, by decide⟩ rfl hl.1 rfl (Nat.le_of_ble_eq_true rfl) dX8_year_88 ⟨Nat.zero_le _, Nat.zero_le _⟩) (fun r26 S26 H locs hw hh => ?_)
        have hq26 := hw.2
        have hw := hw.1
        refine lv_if_eq (tgt := 98) hx hb dX8_year_91 (by decide) (fun c27 => ?_) (fun c27 => ?_)
        · have hw := ifT hw c27
          exact bX8_year_98 E hR39 hR48 ih hw hh (lv_sub hl [0, 1, 2, 3, 4, 5, 6, 7, 8] rfl)
        · have hw := ifF hw c27
          refine lv_iconst (v := 1) hx hb dX8_year_94 (by decide) ?_
          refine lv_goto (tgt := 99) hx hb dX8_year_95 (by decide) ?_
          exact bX8_year_99 E hR39 hR48 ih hw hh (lv_sub hl [0, 1, 2, 3, 4, 5, 6, 7, 8] rfl)
def wbX8_year_48 (R39 : Int32 → Int32 → Int32 → St → Prop) (K : Int32 → St → Prop) (x1 : Int32) (x2 : Int32) (x5 : Int32) : Nat → Int32 → Int32 → Int32 → St → Prop
  | 0, _, _, _, _ => False
  | n + 1, x3, x4, x6, S => if (S.1 40 0 7) ≤ x6 then (R39 x3 x4 (x5 + 1) S) else (∃ k, wbX8_year_63 R39 (fun yx3 yx4 yx6 S9 => wbX8_year_48 R39 K x1 x2 x5 n yx3 yx4 yx6 S9) K x1 x2 x3 x4 x5 x6 k (-1) 0 S)
set_option maxRecDepth 4000 in
theorem bX8_year_48 {p : Program} {l : Launch} {e : Env} {R : Room} {s : State} {m : MethodId} {args : Array Value} {below : List Frame} {meth : Method} {c : Code} {D : va_G} {ad : Nat → Nat → Nat} {cs : Nat → ClassId} {P : Nat → Nat → Prop} {sz tU : Nat} {adK adV : Nat → Nat} {R39 : Int32 → Int32 → Int32 → St → Prop} {K : Int32 → St → Prop} {x1 : Int32} {x2 : Int32} {x5 : Int32} (E : Ex p s m args meth c R RX8 cX8_year 10 (some .int) 70 1647 D ad cs P (wA ad P) tU adK adV cnM) (hR39 : ∀ (z3 : Int32) (z4 : Int32) (z5 : Int32) (S : St) (H : Heap) (locs : List Loc) (ls : Array Slot), R39 z3 z4 z5 S → wH D ad cs P (wA ad P) s.heap sz S H locs → lv_has ls 10 [(0, .ref (ad 40 0)), (1, .int x1), (2, .int x2), (3, .int z3), (4, .int z4), (5, .int z5)] → W p l e R s m args below meth c H locs 0 0 (MQ below (va_Qi K (QX D ad cs P sz) (wA ad P)) args s 0 0 (wA ad P)) (F0 m 39 ls [])) : ∀ (n : Nat) (x3 : Int32) (x4 : Int32) (x6 : Int32) (S : St) (H : Heap) (locs : List Loc) (ls : Array Slot), wbX8_year_48 R39 K x1 x2 x5 n x3 x4 x6 S → wH D ad cs P (wA ad P) s.heap sz S H locs → lv_has ls 10 [(0, .ref (ad 40 0)), (1, .int x1), (2, .int x2), (3, .int x3), (4, .int x4), (5, .int x5), (6, .int x6)] → W p l e R s m args below meth c H locs 0 0 (MQ below (va_Qi K (QX D ad cs P sz) (wA ad P)) args s 0 0 (wA ad P)) (F0 m 48 ls []) := by
  have hx := E.hx
  have hb := E.hb
  intro n
  induction n with
  | zero => intro x3 x4 x6 S H locs ls hw hh hl; exact hw.elim
  | succ n ih =>
    intro x3 x4 x6 S H locs ls hw hh hl
    refine lv_iload hx hb dX8_year_48 (lv_at hl 6 rfl) ?_
    refine lv_aload_n hx hb dX8_year_50 rfl (lv_at hl 0 rfl) ?_
    refine g_40_7 E hh tb741 (E.hn 40 0 (by decide)) dX8_year_51 ?_
    refine lv_icmp_ge (tgt := 211) hx hb dX8_year_54 (by decide) (fun c16 => ?_) (fun c16 => ?_)
    · have hw := ifT hw c16
      refine lv_iinc (k := 5) (v := x5 + 1) (lv' := [(5, .int (x5 + 1)), (0, .ref (ad 40 0)), (1, .int x1), (2, .int x2), (3, .int x3), (4, .int x4), (6, .int x6)]) hx hb dX8_year_211 hl rfl rfl (by decide) rfl (fun ls hl => ?_)
      refine lv_goto (tgt := 39) hx hb dX8_year_214 (by decide) ?_
      exact hR39 x3 x4 (x5 + 1) S _ _ _ hw hh (lv_sub hl [1, 2, 3, 4, 5, 0] rfl)
    · have hw := ifF hw c16
      refine lv_iconst (v := (-1)) hx hb dX8_year_57 (by decide) ?_
      refine lv_istore (lv' := [(7, .int (-1)), (0, .ref (ad 40 0)), (1, .int x1), (2, .int x2), (3, .int x3), (4, .int x4), (5, .int x5), (6, .int x6)]) hx hb dX8_year_58 hl (by decide) rfl (fun ls hl => ?_)
      refine lv_iconst (v := 0) hx hb dX8_year_60 (by decide) ?_
      refine lv_istore (lv' := [(8, .int 0), (7, .int (-1)), (0, .ref (ad 40 0)), (1, .int x1), (2, .int x2), (3, .int x3), (4, .int x4), (5, .int x5), (6, .int x6)]) hx hb dX8_year_61 hl (by decide) rfl (fun ls hl => ?_)
      obtain ⟨k, hw⟩ := hw
      exact bX8_year_63 E hR39 ih k (-1) 0 S _ _ _ hw hh (lv_sub hl [2, 3, 4, 5, 6, 7, 8, 1, 0] rfl)
def wbX8_year_39 (K : Int32 → St → Prop) (x1 : Int32) (x2 : Int32) : Nat → Int32 → Int32 → Int32 → St → Prop
  | 0, _, _, _, _ => False
  | n + 1, x3, x4, x5, S => if x1 ≤ x5 then (∃ k, wbX8_year_223 K x2 x3 x4 k 0 0 S) else (∃ k, wbX8_year_48 (fun yx3 yx4 yx5 S9 => wbX8_year_39 K x1 x2 n yx3 yx4 yx5 S9) K x1 x2 x5 k x3 x4 0 S)
set_option maxRecDepth 4000 in
theorem bX8_year_39 {p : Program} {l : Launch} {e : Env} {R : Room} {s : State} {m : MethodId} {args : Array Value} {below : List Frame} {meth : Method} {c : Code} {D : va_G} {ad : Nat → Nat → Nat} {cs : Nat → ClassId} {P : Nat → Nat → Prop} {sz tU : Nat} {adK adV : Nat → Nat} {K : Int32 → St → Prop} {x1 : Int32} {x2 : Int32} (E : Ex p s m args meth c R RX8 cX8_year 10 (some .int) 70 1647 D ad cs P (wA ad P) tU adK adV cnM) : ∀ (n : Nat) (x3 : Int32) (x4 : Int32) (x5 : Int32) (S : St) (H : Heap) (locs : List Loc) (ls : Array Slot), wbX8_year_39 K x1 x2 n x3 x4 x5 S → wH D ad cs P (wA ad P) s.heap sz S H locs → lv_has ls 10 [(0, .ref (ad 40 0)), (1, .int x1), (2, .int x2), (3, .int x3), (4, .int x4), (5, .int x5)] → W p l e R s m args below meth c H locs 0 0 (MQ below (va_Qi K (QX D ad cs P sz) (wA ad P)) args s 0 0 (wA ad P)) (F0 m 39 ls []) := by
  have hx := E.hx
  have hb := E.hb
  intro n
  induction n with
  | zero => intro x3 x4 x5 S H locs ls hw hh hl; exact hw.elim
  | succ n ih =>
    intro x3 x4 x5 S H locs ls hw hh hl
    refine lv_iload hx hb dX8_year_39 (lv_at hl 5 rfl) ?_
    refine lv_iload_n hx hb dX8_year_41 rfl (lv_at hl 1 rfl) ?_
    refine lv_icmp_ge (tgt := 217) hx hb dX8_year_42 (by decide) (fun c6 => ?_) (fun c6 => ?_)
    · have hw := ifT hw c6
      refine lv_iconst (v := 0) hx hb dX8_year_217 (by decide) ?_
      refine lv_istore (lv' := [(5, .int 0), (0, .ref (ad 40 0)), (1, .int x1), (2, .int x2), (3, .int x3), (4, .int x4)]) hx hb dX8_year_218 hl (by decide) rfl (fun ls hl => ?_)
      refine lv_iconst (v := 0) hx hb dX8_year_220 (by decide) ?_
      refine lv_istore (lv' := [(6, .int 0), (5, .int 0), (0, .ref (ad 40 0)), (1, .int x1), (2, .int x2), (3, .int x3), (4, .int x4)]) hx hb dX8_year_221 hl (by decide) rfl (fun ls hl => ?_)
      obtain ⟨k, hw⟩ := hw
      exact bX8_year_223 E k 0 0 S _ _ _ hw hh (lv_sub hl [2, 4, 5, 6, 1, 0] rfl)
    · have hw := ifF hw c6
      refine lv_iconst (v := 0) hx hb dX8_year_45 (by decide) ?_
      refine lv_istore (lv' := [(6, .int 0), (0, .ref (ad 40 0)), (1, .int x1), (2, .int x2), (3, .int x3), (4, .int x4), (5, .int x5)]) hx hb dX8_year_46 hl (by decide) rfl (fun ls hl => ?_)
      obtain ⟨k, hw⟩ := hw
      exact bX8_year_48 E ih k x3 x4 0 S _ _ _ hw hh (lv_sub hl [1, 2, 3, 4, 5, 6, 0] rfl)
def wpX8_year (x1 : Int32) (x2 : Int32) (S : St) (K : Int32 → St → Prop) : Prop := wpX8_in x1.toInt64 0 12 S (fun r1 S1 => if r1 = 0 then (K (-2) S1) else (wpX8_in x2.toInt64 0 6 S1 (fun r3 S3 => if r3 = 0 then (K (-2) S3) else (wpX8_laysAside S3 (fun S5 => ∃ k, wbX8_year_39 K x1 x2 k 0 0 0 S5)))))
set_option maxRecDepth 4000 in
theorem bX8_year {p : Program} {l : Launch} {e : Env} {R : Room} {s : State} {m : MethodId} {args : Array Value} {below : List Frame} {meth : Method} {c : Code} {D : va_G} {ad : Nat → Nat → Nat} {cs : Nat → ClassId} {P : Nat → Nat → Prop} {sz tU : Nat} {adK adV : Nat → Nat} {K : Int32 → St → Prop} {x1 : Int32} {x2 : Int32} {S : St} {H : Heap} {locs : List Loc} {ls : Array Slot} (E : Ex p s m args meth c R RX8 cX8_year 10 (some .int) 70 1647 D ad cs P (wA ad P) tU adK adV cnM) (hw : wpX8_year x1 x2 S K) (hh : wH D ad cs P (wA ad P) s.heap sz S H locs) (hl : lv_has ls 10 [(0, .ref (ad 40 0)), (1, .int x1), (2, .int x2)]) : W p l e R s m args below meth c H locs 0 0 (MQ below (va_Qi K (QX D ad cs P sz) (wA ad P)) args s 0 0 (wA ad P)) (F0 m 0 ls []) := by
  have hx := E.hx
  have hb := E.hb
  refine lv_iload_n hx hb dX8_year_0 rfl (lv_at hl 1 rfl) ?_
  refine lv_i2l hx hb dX8_year_1 rfl ?_
  refine lv_lconst (v := 0) hx hb dX8_year_2 (by decide) ?_
  refine lv_ldc2 (v := 12) hx hb E.hown (E.hts _ tb1140) dX8_year_3 ?_
  refine x_ci E.hA hh (x_runS E hh (mX8_in E.hI (fun _ _ h => absurd h (Nat.not_lt_zero _)) hw) kX8_in tb914 ⟨by decide, by decide⟩ rfl hl.1 rfl (Nat.le_of_ble_eq_true rfl) dX8_year_6 ⟨Nat.zero_le _, Nat.zero_le _⟩) (fun r1 S1 H locs hw hh => ?_)
  have hq1 := hw.2
  have hw := hw.1
  refine lv_if_eq (tgt := 24) hx hb dX8_year_9 (by decide) (fun c2 => ?_) (fun c2 => ?_)
  · have hw := ifT hw c2
    refine lv_bipush (v := (-2)) hx hb dX8_year_24 (by decide) ?_
    exact x_iret E hh hw dX8_year_26
  · have hw := ifF hw c2
    refine lv_iload_n hx hb dX8_year_12 rfl (lv_at hl 2 rfl) ?_
    refine lv_i2l hx hb dX8_year_13 rfl ?_
    refine lv_lconst (v := 0) hx hb dX8_year_14 (by decide) ?_
    refine lv_ldc2 (v := 6) hx hb E.hown (E.hts _ tb944) dX8_year_15 ?_
    refine x_ci E.hA hh (x_runS E hh (mX8_in E.hI (fun _ _ h => absurd h (Nat.not_lt_zero _)) hw) kX8_in tb914 ⟨by decide, by decide⟩ rfl hl.1 rfl (Nat.le_of_ble_eq_true rfl) dX8_year_18 ⟨Nat.zero_le _, Nat.zero_le _⟩) (fun r3 S3 H locs hw hh => ?_)
    have hq3 := hw.2
    have hw := hw.1
    refine lv_if_ne (tgt := 27) hx hb dX8_year_21 (by decide) (fun c4 => ?_) (fun c4 => ?_)
    · have hw := ifF hw c4
      refine lv_aload_n hx hb dX8_year_27 rfl (lv_at hl 0 rfl) ?_
      refine x_cv E.hA hh (x_runV E hh (mX8_laysAside E.hI E.hn hw) kX8_laysAside tb1141 (E.hn 40 0 (by decide)) rv_40 ⟨by decide, by decide⟩ rfl hl.1 rfl (Nat.le_of_ble_eq_true rfl) dX8_year_28 ⟨Nat.zero_le _, Nat.zero_le _⟩) (fun S5 H locs hw hh => ?_)
      refine lv_iconst (v := 0) hx hb dX8_year_31 (by decide) ?_
      refine lv_istore_n (lv' := [(3, .int 0), (0, .ref (ad 40 0)), (1, .int x1), (2, .int x2)]) hx hb dX8_year_32 rfl hl (by decide) rfl (fun ls hl => ?_)
      refine lv_iconst (v := 0) hx hb dX8_year_33 (by decide) ?_
      refine lv_istore (lv' := [(4, .int 0), (3, .int 0), (0, .ref (ad 40 0)), (1, .int x1), (2, .int x2)]) hx hb dX8_year_34 hl (by decide) rfl (fun ls hl => ?_)
      refine lv_iconst (v := 0) hx hb dX8_year_36 (by decide) ?_
      refine lv_istore (lv' := [(5, .int 0), (4, .int 0), (3, .int 0), (0, .ref (ad 40 0)), (1, .int x1), (2, .int x2)]) hx hb dX8_year_37 hl (by decide) rfl (fun ls hl => ?_)
      obtain ⟨k, hw⟩ := hw
      exact bX8_year_39 E k 0 0 0 S5 _ _ _ hw hh (lv_sub hl [3, 4, 5, 2, 1, 0] rfl)
    · have hw := ifT hw c4
      refine lv_bipush (v := (-2)) hx hb dX8_year_24 (by decide) ?_
      exact x_iret E hh hw dX8_year_26
theorem kX8_year : kI yX8_year cX8_year 10 (some .int) 2 := ⟨tb1137, tb1138, tb15, tb1139, by decide, by decide, by decide +kernel⟩
theorem mX8_year {l : Launch} {D : va_G} {ad : Nat → Nat → Nat} {cs : Nat → ClassId} {P : Nat → Nat → Prop} {sz tU : Nat} {adK adV : Nat → Nat} {x1 : Int32} {x2 : Int32} {S : St} {K : Int32 → St → Prop} (hI : wI ad P) (hn : ∀ kd i, i < cnM kd → P kd i) (hw : wpX8_year x1 x2 S K) : MI l yX8_year cX8_year 10 (some .int) 70 1647 D ad cs P sz tU adK adV [.ref (ad 40 0), .int x1, .int x2] S K :=
  Met_of (by decide) (Nat.le_of_ble_eq_true rfl) hI hn (fun p e R s m args below meth c ls E hl hh => bX8_year E  hw hh (lv_sub hl [0, 1, 2] rfl))
def wbX8_judge_237 (K : Int32 → St → Prop) (x2 : Int32) (x3 : Int32) (x4 : Int32) (S : St) : Prop := wpX8_laysBack S (fun S27 => if x2 = 0 then (K x3 S27) else (K x4 S27))
set_option maxRecDepth 4000 in
theorem bX8_judge_237 {p : Program} {l : Launch} {e : Env} {R : Room} {s : State} {m : MethodId} {args : Array Value} {below : List Frame} {meth : Method} {c : Code} {D : va_G} {ad : Nat → Nat → Nat} {cs : Nat → ClassId} {P : Nat → Nat → Prop} {sz tU : Nat} {adK adV : Nat → Nat} {K : Int32 → St → Prop} {x2 : Int32} {x3 : Int32} {x4 : Int32} {S : St} {H : Heap} {locs : List Loc} {ls : Array Slot} (E : Ex p s m args meth c R RX8 cX8_judge 9 (some .int) 70 1647 D ad cs P (wA ad P) tU adK adV cnM) (hw : wbX8_judge_237 K x2 x3 x4 S) (hh : wH D ad cs P (wA ad P) s.heap sz S H locs) (hl : lv_has ls 9 [(0, .ref (ad 40 0)), (2, .int x2), (3, .int x3), (4, .int x4)]) : W p l e R s m args below meth c H locs 0 0 (MQ below (va_Qi K (QX D ad cs P sz) (wA ad P)) args s 0 0 (wA ad P)) (F0 m 237 ls []) := by
  have hx := E.hx
  have hb := E.hb
  refine lv_aload_n hx hb dX8_judge_237 rfl (lv_at hl 0 rfl) ?_
  refine x_cv E.hA hh (x_runV E hh (mX8_laysBack E.hI E.hn hw) kX8_laysBack tb1145 (E.hn 40 0 (by decide)) rv_40 ⟨by decide, by decide⟩ rfl hl.1 rfl (Nat.le_of_ble_eq_true rfl) dX8_judge_238 ⟨Nat.zero_le _, Nat.zero_le _⟩) (fun S27 H locs hw hh => ?_)
  refine lv_iload_n hx hb dX8_judge_241 rfl (lv_at hl 1 rfl) ?_
  refine lv_if_ne (tgt := 249) hx hb dX8_judge_242 (by decide) (fun c28 => ?_) (fun c28 => ?_)
  · have hw := ifF hw c28
    refine lv_iload hx hb dX8_judge_249 (lv_at hl 3 rfl) ?_
    exact x_iret E hh hw dX8_judge_251
  · have hw := ifT hw c28
    refine lv_iload_n hx hb dX8_judge_245 rfl (lv_at hl 2 rfl) ?_
    refine lv_goto (tgt := 251) hx hb dX8_judge_246 (by decide) ?_
    exact x_iret E hh hw dX8_judge_251
def wbX8_judge_231 (R58 : Int32 → Int32 → Int32 → St → Prop) (K : Int32 → St → Prop) (x1 : Int32) (x2 : Int32) (x3 : Int32) (x4 : Int32) (x5 : Int32) (S : St) : Prop := R58 x3 x4 (x5 + 1) S
set_option maxRecDepth 4000 in
theorem bX8_judge_231 {p : Program} {l : Launch} {e : Env} {R : Room} {s : State} {m : MethodId} {args : Array Value} {below : List Frame} {meth : Method} {c : Code} {D : va_G} {ad : Nat → Nat → Nat} {cs : Nat → ClassId} {P : Nat → Nat → Prop} {sz tU : Nat} {adK adV : Nat → Nat} {R58 : Int32 → Int32 → Int32 → St → Prop} {K : Int32 → St → Prop} {x1 : Int32} {x2 : Int32} {x3 : Int32} {x4 : Int32} {x5 : Int32} {S : St} {H : Heap} {locs : List Loc} {ls : Array Slot} (E : Ex p s m args meth c R RX8 cX8_judge 9 (some .int) 70 1647 D ad cs P (wA ad P) tU adK adV cnM) (hR58 : ∀ (z3 : Int32) (z4 : Int32) (z5 : Int32) (S : St) (H : Heap) (locs : List Loc) (ls : Array Slot), R58 z3 z4 z5 S → wH D ad cs P (wA ad P) s.heap sz S H locs → lv_has ls 9 [(0, .ref (ad 40 0)), (1, .int x1), (2, .int x2), (3, .int z3), (4, .int z4), (5, .int z5)] → W p l e R s m args below meth c H locs 0 0 (MQ below (va_Qi K (QX D ad cs P sz) (wA ad P)) args s 0 0 (wA ad P)) (F0 m 58 ls [])) (hw : wbX8_judge_231 R58 K x1 x2 x3 x4 x5 S) (hh : wH D ad cs P (wA ad P) s.heap sz S H locs) (hl : lv_has ls 9 [(0, .ref (ad 40 0)), (1, .int x1), (2, .int x2), (3, .int x3), (4, .int x4), (5, .int x5)]) : W p l e R s m args below meth c H locs 0 0 (MQ below (va_Qi K (QX D ad cs P sz) (wA ad P)) args s 0 0 (wA ad P)) (F0 m 231 ls []) := by
  have hx := E.hx
  have hb := E.hb
  refine lv_iinc (k := 5) (v := x5 + 1) (lv' := [(5, .int (x5 + 1)), (0, .ref (ad 40 0)), (1, .int x1), (2, .int x2), (3, .int x3), (4, .int x4)]) hx hb dX8_judge_231 hl rfl rfl (by decide) rfl (fun ls hl => ?_)
  refine lv_goto (tgt := 58) hx hb dX8_judge_234 (by decide) ?_
  exact hR58 x3 x4 (x5 + 1) S _ _ _ hw hh (lv_sub hl [1, 2, 3, 4, 5, 0] rfl)
def wbX8_judge_228 (R58 : Int32 → Int32 → Int32 → St → Prop) (K : Int32 → St → Prop) (x1 : Int32) (x2 : Int32) (x4 : Int32) (x5 : Int32) (S : St) : Prop := wbX8_judge_231 R58 K x1 x2 x5 x4 x5 S
set_option maxRecDepth 4000 in
theorem bX8_judge_228 {p : Program} {l : Launch} {e : Env} {R : Room} {s : State} {m : MethodId} {args : Array Value} {below : List Frame} {meth : Method} {c : Code} {D : va_G} {ad : Nat → Nat → Nat} {cs : Nat → ClassId} {P : Nat → Nat → Prop} {sz tU : Nat} {adK adV : Nat → Nat} {R58 : Int32 → Int32 → Int32 → St → Prop} {K : Int32 → St → Prop} {x1 : Int32} {x2 : Int32} {x4 : Int32} {x5 : Int32} {S : St} {H : Heap} {locs : List Loc} {ls : Array Slot} (E : Ex p s m args meth c R RX8 cX8_judge 9 (some .int) 70 1647 D ad cs P (wA ad P) tU adK adV cnM) (hR58 : ∀ (z3 : Int32) (z4 : Int32) (z5 : Int32) (S : St) (H : Heap) (locs : List Loc) (ls : Array Slot), R58 z3 z4 z5 S → wH D ad cs P (wA ad P) s.heap sz S H locs → lv_has ls 9 [(0, .ref (ad 40 0)), (1, .int x1), (2, .int x2), (3, .int z3), (4, .int z4), (5, .int z5)] → W p l e R s m args below meth c H locs 0 0 (MQ below (va_Qi K (QX D ad cs P sz) (wA ad P)) args s 0 0 (wA ad P)) (F0 m 58 ls [])) (hw : wbX8_judge_228 R58 K x1 x2 x4 x5 S) (hh : wH D ad cs P (wA ad P) s.heap sz S H locs) (hl : lv_has ls 9 [(0, .ref (ad 40 0)), (1, .int x1), (2, .int x2), (4, .int x4), (5, .int x5)]) : W p l e R s m args below meth c H locs 0 0 (MQ below (va_Qi K (QX D ad cs P sz) (wA ad P)) args s 0 0 (wA ad P)) (F0 m 228 ls []) := by
  have hx := E.hx
  have hb := E.hb
  refine lv_iload hx hb dX8_judge_228 (lv_at hl 4 rfl) ?_
  refine lv_istore_n (lv' := [(3, .int x5), (0, .ref (ad 40 0)), (1, .int x1), (2, .int x2), (4, .int x4), (5, .int x5)]) hx hb dX8_judge_230 rfl hl (by decide) rfl (fun ls hl => ?_)
  exact bX8_judge_231 E hR58 hw hh (lv_sub hl [1, 2, 3, 0, 4, 5] rfl)
def wbX8_judge_222 (R58 : Int32 → Int32 → Int32 → St → Prop) (K : Int32 → St → Prop) (x1 : Int32) (x2 : Int32) (x3 : Int32) (x4 : Int32) (x5 : Int32) (v0 : Int32) (v1 : Int32) (v2 : Int32) (S : St) : Prop := wpX8_answers v2 v1 v0 S (fun S31 => wbX8_judge_231 R58 K x1 x2 x3 x4 x5 S31)
set_option maxRecDepth 4000 in
theorem bX8_judge_222 {p : Program} {l : Launch} {e : Env} {R : Room} {s : State} {m : MethodId} {args : Array Value} {below : List Frame} {meth : Method} {c : Code} {D : va_G} {ad : Nat → Nat → Nat} {cs : Nat → ClassId} {P : Nat → Nat → Prop} {sz tU : Nat} {adK adV : Nat → Nat} {R58 : Int32 → Int32 → Int32 → St → Prop} {K : Int32 → St → Prop} {x1 : Int32} {x2 : Int32} {x3 : Int32} {x4 : Int32} {x5 : Int32} {v0 : Int32} {v1 : Int32} {v2 : Int32} {S : St} {H : Heap} {locs : List Loc} {ls : Array Slot} (E : Ex p s m args meth c R RX8 cX8_judge 9 (some .int) 70 1647 D ad cs P (wA ad P) tU adK adV cnM) (hR58 : ∀ (z3 : Int32) (z4 : Int32) (z5 : Int32) (S : St) (H : Heap) (locs : List Loc) (ls : Array Slot), R58 z3 z4 z5 S → wH D ad cs P (wA ad P) s.heap sz S H locs → lv_has ls 9 [(0, .ref (ad 40 0)), (1, .int x1), (2, .int x2), (3, .int z3), (4, .int z4), (5, .int z5)] → W p l e R s m args below meth c H locs 0 0 (MQ below (va_Qi K (QX D ad cs P sz) (wA ad P)) args s 0 0 (wA ad P)) (F0 m 58 ls [])) (hw : wbX8_judge_222 R58 K x1 x2 x3 x4 x5 v0 v1 v2 S) (hh : wH D ad cs P (wA ad P) s.heap sz S H locs) (hl : lv_has ls 9 [(0, .ref (ad 40 0)), (1, .int x1), (2, .int x2), (3, .int x3), (4, .int x4), (5, .int x5)]) : W p l e R s m args below meth c H locs 0 0 (MQ below (va_Qi K (QX D ad cs P sz) (wA ad P)) args s 0 0 (wA ad P)) (F0 m 222 ls [.int v0, .int v1, .int v2, .ref (ad 40 0)]) := by
  have hx := E.hx
  have hb := E.hb
  refine x_cv E.hA hh (x_runV E hh (mX8_answers E.hI E.hn hw) kX8_answers tb1072 (E.hn 40 0 (by decide)) rv_40 ⟨by decide, by decide⟩ rfl hl.1 rfl (Nat.le_of_ble_eq_true rfl) dX8_judge_222 ⟨Nat.zero_le _, Nat.zero_le _⟩) (fun S31 H locs hw hh => ?_)
  refine lv_goto (tgt := 231) hx hb dX8_judge_225 (by decide) ?_
  exact bX8_judge_231 E hR58 hw hh (lv_sub hl [0, 1, 2, 3, 4, 5] rfl)
def wbX8_judge_204 (R58 : Int32 → Int32 → Int32 → St → Prop) (K : Int32 → St → Prop) (x1 : Int32) (x2 : Int32) (x3 : Int32) (x5 : Int32) (x6 : Int32) (x7 : Int32) (x8 : Int32) (v0 : Int32) (v1 : Int32) (S : St) : Prop := if x8 = 0 then (wbX8_judge_222 R58 K x1 x2 x3 (v1 + v0) x5 1 x7 x6 S) else (wbX8_judge_222 R58 K x1 x2 x3 (v1 + v0) x5 0 x7 x6 S)
set_option maxRecDepth 4000 in
theorem bX8_judge_204 {p : Program} {l : Launch} {e : Env} {R : Room} {s : State} {m : MethodId} {args : Array Value} {below : List Frame} {meth : Method} {c : Code} {D : va_G} {ad : Nat → Nat → Nat} {cs : Nat → ClassId} {P : Nat → Nat → Prop} {sz tU : Nat} {adK adV : Nat → Nat} {R58 : Int32 → Int32 → Int32 → St → Prop} {K : Int32 → St → Prop} {x1 : Int32} {x2 : Int32} {x3 : Int32} {x5 : Int32} {x6 : Int32} {x7 : Int32} {x8 : Int32} {v0 : Int32} {v1 : Int32} {S : St} {H : Heap} {locs : List Loc} {ls : Array Slot} (E : Ex p s m args meth c R RX8 cX8_judge 9 (some .int) 70 1647 D ad cs P (wA ad P) tU adK adV cnM) (hR58 : ∀ (z3 : Int32) (z4 : Int32) (z5 : Int32) (S : St) (H : Heap) (locs : List Loc) (ls : Array Slot), R58 z3 z4 z5 S → wH D ad cs P (wA ad P) s.heap sz S H locs → lv_has ls 9 [(0, .ref (ad 40 0)), (1, .int x1), (2, .int x2), (3, .int z3), (4, .int z4), (5, .int z5)] → W p l e R s m args below meth c H locs 0 0 (MQ below (va_Qi K (QX D ad cs P sz) (wA ad P)) args s 0 0 (wA ad P)) (F0 m 58 ls [])) (hw : wbX8_judge_204 R58 K x1 x2 x3 x5 x6 x7 x8 v0 v1 S) (hh : wH D ad cs P (wA ad P) s.heap sz S H locs) (hl : lv_has ls 9 [(0, .ref (ad 40 0)), (1, .int x1), (2, .int x2), (3, .int x3), (5, .int x5), (6, .int x6), (7, .int x7), (8, .int x8)]) : W p l e R s m args below meth c H locs 0 0 (MQ below (va_Qi K (QX D ad cs P sz) (wA ad P)) args s 0 0 (wA ad P)) (F0 m 204 ls [.int v0, .int v1]) := by
  have hx := E.hx
  have hb := E.hb
  refine lv_iadd hx hb dX8_judge_204 ?_
  refine lv_istore (lv' := [(4, .int (v1 + v0)), (0, .ref (ad 40 0)), (1, .int x1), (2, .int x2), (3, .int x3), (5, .int x5), (6, .int x6), (7, .int x7), (8, .int x8)]) hx hb dX8_judge_205 hl (by decide) rfl (fun ls hl => ?_)
  refine lv_aload_n hx hb dX8_judge_207 rfl (lv_at hl 1 rfl) ?_
  refine lv_iload hx hb dX8_judge_208 (lv_at hl 6 rfl) ?_
  refine lv_iload hx hb dX8_judge_210 (lv_at hl 7 rfl) ?_
  refine lv_iload hx hb dX8_judge_212 (lv_at hl 8 rfl) ?_
  refine lv_if_ne (tgt := 221) hx hb dX8_judge_214 (by decide) (fun c30 => ?_) (fun c30 => ?_)
  · have hw := ifF hw c30
    refine lv_iconst (v := 0) hx hb dX8_judge_221 (by decide) ?_
    exact bX8_judge_222 E hR58 hw hh (lv_sub hl [1, 2, 3, 4, 0, 5] rfl)
  · have hw := ifT hw c30
    refine lv_iconst (v := 1) hx hb dX8_judge_217 (by decide) ?_
    refine lv_goto (tgt := 222) hx hb dX8_judge_218 (by decide) ?_
    exact bX8_judge_222 E hR58 hw hh (lv_sub hl [1, 2, 3, 4, 0, 5] rfl)
def wbX8_judge_196 (R58 : Int32 → Int32 → Int32 → St → Prop) (K : Int32 → St → Prop) (x1 : Int32) (x2 : Int32) (x3 : Int32) (x5 : Int32) (x6 : Int32) (x7 : Int32) (x8 : Int32) (v0 : Int32) (v1 : Int32) (v2 : Int32) (S : St) : Prop := if v1 = v0 then (wbX8_judge_204 R58 K x1 x2 x3 x5 x6 x7 x8 1 v2 S) else (wbX8_judge_204 R58 K x1 x2 x3 x5 x6 x7 x8 0 v2 S)
set_option maxRecDepth 4000 in
theorem bX8_judge_196 {p : Program} {l : Launch} {e : Env} {R : Room} {s : State} {m : MethodId} {args : Array Value} {below : List Frame} {meth : Method} {c : Code} {D : va_G} {ad : Nat → Nat → Nat} {cs : Nat → ClassId} {P : Nat → Nat → Prop} {sz tU : Nat} {adK adV : Nat → Nat} {R58 : Int32 → Int32 → Int32 → St → Prop} {K : Int32 → St → Prop} {x1 : Int32} {x2 : Int32} {x3 : Int32} {x5 : Int32} {x6 : Int32} {x7 : Int32} {x8 : Int32} {v0 : Int32} {v1 : Int32} {v2 : Int32} {S : St} {H : Heap} {locs : List Loc} {ls : Array Slot} (E : Ex p s m args meth c R RX8 cX8_judge 9 (some .int) 70 1647 D ad cs P (wA ad P) tU adK adV cnM) (hR58 : ∀ (z3 : Int32) (z4 : Int32) (z5 : Int32) (S : St) (H : Heap) (locs : List Loc) (ls : Array Slot), R58 z3 z4 z5 S → wH D ad cs P (wA ad P) s.heap sz S H locs → lv_has ls 9 [(0, .ref (ad 40 0)), (1, .int x1), (2, .int x2), (3, .int z3), (4, .int z4), (5, .int z5)] → W p l e R s m args below meth c H locs 0 0 (MQ below (va_Qi K (QX D ad cs P sz) (wA ad P)) args s 0 0 (wA ad P)) (F0 m 58 ls [])) (hw : wbX8_judge_196 R58 K x1 x2 x3 x5 x6 x7 x8 v0 v1 v2 S) (hh : wH D ad cs P (wA ad P) s.heap sz S H locs) (hl : lv_has ls 9 [(0, .ref (ad 40 0)), (1, .int x1), (2, .int x2), (3, .int x3), (5, .int x5), (6, .int x6), (7, .int x7), (8, .int x8)]) : W p l e R s m args below meth c H locs 0 0 (MQ below (va_Qi K (QX D ad cs P sz) (wA ad P)) args s 0 0 (wA ad P)) (F0 m 196 ls [.int v0, .int v1, .int v2]) := by
  have hx := E.hx
  have hb := E.hb
  refine lv_icmp_ne (tgt := 203) hx hb dX8_judge_196 (by decide) (fun c29 => ?_) (fun c29 => ?_)
  · have hw := ifF hw c29
    refine lv_iconst (v := 0) hx hb dX8_judge_203 (by decide) ?_
    exact bX8_judge_204 E hR58 hw hh (lv_sub hl [0, 1, 2, 3, 4, 5, 6, 7] rfl)
  · have hw := ifT hw c29
    refine lv_iconst (v := 1) hx hb dX8_judge_199 (by decide) ?_
    refine lv_goto (tgt := 204) hx hb dX8_judge_200 (by decide) ?_
    exact bX8_judge_204 E hR58 hw hh (lv_sub hl [0, 1, 2, 3, 4, 5, 6, 7] rfl)
def wbX8_judge_58 (K : Int32 → St → Prop) (x1 : Int32) (x2 : Int32) : Nat → Int32 → Int32 → Int32 → St → Prop
  | 0, _, _, _, _ => False
  | n + 1, x3, x4, x5, S => (vp_in x1 4 ∧ if ((S.1 66 0 x1.toNatClampNeg) / 3) ≤ x5 then (wbX8_judge_237 K x2 x3 x4 S) else (if x3 = (-1) then ((vp_in ((40 * x1) + (3 * x5)) 160 ∧ (vp_in (((40 * x1) + (3 * x5)) + 1) 160 ∧ (vp_in (((40 * x1) + (3 * x5)) + 2) 160 ∧ wpX8_isMan (S.1 67 0 ((40 * x1) + (3 * x5)).toNatClampNeg) S (fun r16 S16 => if r16 = 0 then (wbX8_judge_228 (fun yx3 yx4 yx5 S9 => wbX8_judge_58 K x1 x2 n yx3 yx4 yx5 S9) K x1 x2 x4 x5 S16) else (wpX8_isMaid (S.1 67 0 (((40 * x1) + (3 * x5)) + 1).toNatClampNeg) S16 (fun r18 S18 => if r18 = 0 then (wbX8_judge_228 (fun yx3 yx4 yx5 S9 => wbX8_judge_58 K x1 x2 n yx3 yx4 yx5 S9) K x1 x2 x4 x5 S18) else (wpX8_in ((S.1 67 0 (((40 * x1) + (3 * x5)) + 2).toNatClampNeg).toInt64) 0 1 S18 (fun r20 S20 => if r20 = 0 then (wbX8_judge_228 (fun yx3 yx4 yx5 S9 => wbX8_judge_58 K x1 x2 n yx3 yx4 yx5 S9) K x1 x2 x4 x5 S20) else (wpX8_mayAsk (S.1 67 0 ((40 * x1) + (3 * x5)).toNatClampNeg) (S.1 67 0 (((40 * x1) + (3 * x5)) + 1).toNatClampNeg) S20 (fun r22 S22 => if r22 = 0 then (wbX8_judge_228 (fun yx3 yx4 yx5 S9 => wbX8_judge_58 K x1 x2 n yx3 yx4 yx5 S9) K x1 x2 x4 x5 S22) else ((vp_in (S.1 67 0 ((40 * x1) + (3 * x5)).toNatClampNeg) 4 ∧ wpX8_saysNo (S.1 67 0 ((40 * x1) + (3 * x5)).toNatClampNeg) (S.1 67 0 (((40 * x1) + (3 * x5)) + 1).toNatClampNeg) (S22.1 46 0 (S.1 67 0 ((40 * x1) + (3 * x5)).toNatClampNeg).toNatClampNeg) S22 (fun r25 S25 => if (S.1 67 0 (((40 * x1) + (3 * x5)) + 2).toNatClampNeg) = 1 then (wbX8_judge_196 (fun yx3 yx4 yx5 S9 => wbX8_judge_58 K x1 x2 n yx3 yx4 yx5 S9) K x1 x2 x3 x5 (S.1 67 0 ((40 * x1) + (3 * x5)).toNatClampNeg) (S.1 67 0 (((40 * x1) + (3 * x5)) + 1).toNatClampNeg) (S.1 67 0 (((40 * x1) + (3 * x5)) + 2).toNatClampNeg) 1 r25 x4 S25) else (wbX8_judge_196 (fun yx3 yx4 yx5 S9 => wbX8_judge_58 K x1 x2 n yx3 yx4 yx5 S9) K x1 x2 x3 x5 (S.1 67 0 ((40 * x1) + (3 * x5)).toNatClampNeg) (S.1 67 0 (((40 * x1) + (3 * x5)) + 1).toNatClampNeg) (S.1 67 0 (((40 * x1) + (3 * x5)) + 2).toNatClampNeg) 0 r25 x4 S25))))))))))))))) else (wbX8_judge_237 K x2 x3 x4 S)))
set_option maxRecDepth 4000 in
theorem bX8_judge_58 {p : Program} {l : Launch} {e : Env} {R : Room} {s : State} {m : MethodId} {args : Array Value} {below : List Frame} {meth : Method} {c : Code} {D : va_G} {ad : Nat → Nat → Nat} {cs : Nat → ClassId} {P : Nat → Nat → Prop} {sz tU : Nat} {adK adV : Nat → Nat} {K : Int32 → St → Prop} {x1 : Int32} {x2 : Int32} (E : Ex p s m args meth c R RX8 cX8_judge 9 (some .int) 70 1647 D ad cs P (wA ad P) tU adK adV cnM) : ∀ (n : Nat) (x3 : Int32) (x4 : Int32) (x5 : Int32) (S : St) (H : Heap) (locs : List Loc) (ls : Array Slot), wbX8_judge_58 K x1 x2 n x3 x4 x5 S → wH D ad cs P (wA ad P) s.heap sz S H locs → lv_has ls 9 [(0, .ref (ad 40 0)), (1, .int x1), (2, .int x2), (3, .int x3), (4, .int x4), (5, .int x5)] → W p l e R s m args below meth c H locs 0 0 (MQ below (va_Qi K (QX D ad cs P sz) (wA ad P)) args s 0 0 (wA ad P)) (F0 m 58 ls []) := by
  have hx := E.hx
  have hb := E.hb
  intro n
  induction n with
  | zero => intro x3 x4 x5 S H locs ls hw hh hl; exact hw.elim
  | succ n ih =>
    intro x3 x4 x5 S H locs ls hw hh hl
    refine lv_iload hx hb dX8_judge_58 (lv_at hl 5 rfl) ?_
    refine lv_aload_n hx hb dX8_judge_60 rfl (lv_at hl 0 rfl) ?_
    refine g_40_56 E hh tb790 (E.hn 40 0 (by decide)) dX8_judge_61 ?_
    refine lv_iload_n hx hb dX8_judge_64 rfl (lv_at hl 1 rfl) ?_
    obtain ⟨hi10, hw⟩ := hw
    refine x_iald E hh (E.hn 66 0 (by decide)) ly_66 hi10 dX8_judge_65 ?_
    refine lv_iconst (v := 3) hx hb dX8_judge_66 (by decide) ?_
    refine lv_idiv hx hb dX8_judge_67 (by decide) ?_
    refine lv_icmp_ge (tgt := 237) hx hb dX8_judge_68 (by decide) (fun c11 => ?_) (fun c11 => ?_)
    · have hw := ifT hw c11
      exact bX8_judge_237 E hw hh (lv_sub hl [0, 2, 3, 4] rfl)
    · have hw := ifF hw c11
      refine lv_iload_n hx hb dX8_judge_71 rfl (lv_at hl 3 rfl) ?_
      refine lv_iconst (v := (-1)) hx hb dX8_judge_72 (by decide) ?_
      refine lv_icmp_ne (tgt := 237) hx hb dX8_judge_73 (by decide) (fun c12 => ?_) (fun c12 => ?_)
      · have hw := ifF hw c12
        exact bX8_judge_237 E hw hh (lv_sub hl [0, 2, 3, 4] rfl)
      · have hw := ifT hw c12
        refine lv_aload_n hx hb dX8_judge_76 rfl (lv_at hl 0 rfl) ?_
        refine g_40_57 E hh tb791 (E.hn 40 0 (by decide)) dX8_judge_77 ?_
        refine lv_bipush (v := 40) hx hb dX8_judge_80 (by decide) ?_
        refine lv_iload_n hx hb dX8_judge_82 rfl (lv_at hl 1 rfl) ?_
        refine lv_imul hx hb dX8_judge_83 ?_
        refine lv_iconst (v := 3) hx hb dX8_judge_84 (by decide) ?_
        refine lv_iload hx hb dX8_judge_85 (lv_at hl 5 rfl) ?_
        refine lv_imul hx hb dX8_judge_87 ?_
        refine lv_iadd hx hb dX8_judge_88 ?_
        obtain ⟨hi13, hw⟩ := hw
        refine x_iald E hh (E.hn 67 0 (by decide)) ly_67 hi13 dX8_judge_89 ?_
        refine lv_istore (lv' := [(6, .int (S.1 67 0 ((40 * x1) + (3 * x5)).toNatClampNeg)), (0, .ref (ad 40 0)), (1, .int x1), (2, .int x2), (3, .int x3), (4, .int x4), (5, .int x5)]) hx hb dX8_judge_90 hl (by decide) rfl (fun ls hl => ?_)
        refine lv_aload_n hx hb dX8_judge_92 rfl (lv_at hl 1 rfl) ?_
        refine g_40_57 E hh tb791 (E.hn 40 0 (by decide)) dX8_judge_93 ?_
        refine lv_bipush (v := 40) hx hb dX8_judge_96 (by decide) ?_
        refine lv_iload_n hx hb dX8_judge_98 rfl (lv_at hl 2 rfl) ?_
        refine lv_imul hx hb dX8_judge_99 ?_
        refine lv_iconst (v := 3) hx hb dX8_judge_100 (by decide) ?_
        refine lv_iload hx hb dX8_judge_101 (lv_at hl 6 rfl) ?_
        refine lv_imul hx hb dX8_judge_103 ?_
        refine lv_iadd hx hb dX8_judge_104 ?_
        refine lv_iconst (v := 1) hx hb dX8_judge_105 (by decide) ?_
        refine lv_iadd hx hb dX8_judge_106 ?_
        obtain ⟨hi14, hw⟩ := hw
        refine x_iald E hh (E.hn 67 0 (by decide)) ly_67 hi14 dX8_judge_107 ?_
        refine lv_istore (lv' := [(7, .int (S.1 67 0 (((40 * x1) + (3 * x5)) + 1).toNatClampNeg)), (6, .int (S.1 67 0 ((40 * x1) + (3 * x5)).toNatClampNeg)), (0, .ref (ad 40 0)), (1, .int x1), (2, .int x2), (3, .int x3), (4, .int x4), (5, .int x5)]) hx hb dX8_judge_108 hl (by decide) rfl (fun ls hl => ?_)
        refine lv_aload_n hx hb dX8_judge_110 rfl (lv_at hl 2 rfl) ?_
        refine g_40_57 E hh tb791 (E.hn 40 0 (by decide)) dX8_judge_111 ?_
        refine lv_bipush (v := 40) hx hb dX8_judge_114 (by decide) ?_
        refine lv_iload_n hx hb dX8_judge_116 rfl (lv_at hl 3 rfl) ?_
        refine lv_imul hx hb dX8_judge_117 ?_
        refine lv_iconst (v := 3) hx hb dX8_judge_118 (by decide) ?_
        refine lv_iload hx hb dX8_judge_119 (lv_at hl 7 rfl) ?_
        refine lv_imul hx hb dX8_judge_121 ?_
        refine lv_iadd hx hb dX8_judge_122 ?_
        refine lv_iconst (v := 2) hx hb dX8_judge_123 (by decide) ?_
        refine lv_iadd hx hb dX8_judge_124 ?_
        obtain ⟨hi15, hw⟩ := hw
        refine x_iald E hh (E.hn 67 0 (by decide)) ly_67 hi15 dX8_judge_125 ?_
        refine lv_istore (lv' := [(8, .int (S.1 67 0 (((40 * x1) + (3 * x5)) + 2).toNatClampNeg)), (7, .int (S.1 67 0 (((40 * x1) + (3 * x5)) + 1).toNatClampNeg)), (6, .int (S.1 67 0 ((40 * x1) + (3 * x5)).toNatClampNeg)), (0, .ref (ad 40 0)), (1, .int x1), (2, .int x2), (3, .int x3), (4, .int x4), (5, .int x5)]) hx hb dX8_judge_126 hl (by decide) rfl (fun ls hl => ?_)
        refine lv_aload_n hx hb dX8_judge_128 rfl (lv_at hl 3 rfl) ?_
        refine lv_iload hx hb dX8_judge_129 (lv_at hl 2 rfl) ?_
        refine x_ci E.hA hh (x_runV E hh (mX8_isMan E.hI E.hn hw) kX8_isMan tb926 (E.hn 40 0 (by decide)) rv_40 ⟨by decide, by decide⟩ rfl hl.1 rfl (Nat.le_of_ble_eq_true rfl) dX8_judge_131 ⟨Nat.zero_le _, Nat.zero_le _⟩) (fun r16 S16 H locs hw hh => ?_)
        have hq16 := hw.2
        have hw := hw.1
        refine lv_if_eq (tgt := 228) hx hb dX8_judge_134 (by decide) (fun c17 => ?_) (fun c17 => ?_)
        · have hw := ifT hw c17
          exact bX8_judge_228 E ih hw hh (lv_sub hl [3, 4, 5, 7, 8] rfl)
        · have hw := ifF hw c17
          refine lv_aload_n hx hb dX8_judge_137 rfl (lv_at hl 3 rfl) ?_
          refine lv_iload hx hb dX8_judge_138 (lv_at hl 1 rfl) ?_
          refine x_ci E.hA hh (x_runV E hh (mX8_isMaid E.hI E.hn hw) kX8_isMaid tb930 (E.hn 40 0 (by decide)) rv_40 ⟨by decide, by decide⟩ rfl hl.1 rfl (Nat.le_of_ble_eq_true rfl) dX8_judge_140 ⟨Nat.zero_le _, Nat.zero_le _⟩) (fun r18 S18 H locs hw hh => ?_)
          have hq18 := hw.2
          have hw := hw.1
          refine lv_if_eq (tgt := 228) hx hb dX8_judge_143 (by decide) (fun c19 => ?_) (fun c19 => ?_)
          · have hw := ifT hw c19
            exact bX8_judge_228 E ih hw hh (lv_sub hl [3, 4, 5, 7, 8] rfl)
          · have hw := ifF hw c19
            refine lv_iload hx hb dX8_judge_146 (lv_at hl 0 rfl) ?_
            refine lv_i2l hx hb dX8_judge_148 rfl ?_
            refine lv_lconst (v := 0) hx hb dX8_judge_149 (by decide) ?_
            refine lv_lconst (v := 1) hx hb dX8_judge_150 (by decide) ?_
            refine x_ci E.hA hh (x_runS E hh (mX8_in E.hI (fun _ _ h => absurd h (Nat.not_lt_zero _)) hw) kX8_in tb914 ⟨by decide, by decide⟩ rfl hl.1 rfl (Nat.le_of_ble_eq_true rfl) dX8_judge_151 ⟨Nat.zero_le _, Nat.zero_le _⟩) (fun r20 S20 H locs hw hh => ?_)
            have hq20 := hw.2
            have hw := hw.1
            refine lv_if_eq (tgt := 228) hx hb dX8_judge_154 (by decide) (fun c21 => ?_) (fun c21 => ?_)
            · have hw := ifT hw c21
              exact bX8_judge_228 E ih hw hh (lv_sub hl [3, 4, 5, 7, 8] rfl)
            · have hw := ifF hw c21
              refine lv_aload_n hx hb dX8_judge_157 rfl (lv_at hl 3 rfl) ?_
              refine lv_iload hx hb dX8_judge_158 (lv_at hl 2 rfl) ?_
              refine lv_iload hx hb dX8_judge_160 (lv_at hl 1 rfl) ?_
              refine x_ci E.hA hh (x_runV E hh (mX8_mayAsk E.hI E.hn hw) kX8_mayAsk tb1052 (E.hn 40 0 (by decide)) rv_40 ⟨by decide, by decide⟩ rfl hl.1 rfl (Nat.le_of_ble_eq_true rfl) dX8_judge_162 ⟨Nat.zero_le _, Nat.zero_le _⟩) (fun r22 S22 H locs hw hh => ?_)
              have hq22 := hw.2
              have hw := hw.1
              refine lv_if_eq (tgt := 228) hx hb dX8_judge_165 (by decide) (fun c23 => ?_) (fun c23 => ?_)
              · have hw := ifT hw c23
                exact bX8_judge_228 E ih hw hh (lv_sub hl [3, 4, 5, 7, 8] rfl)
              · have hw := ifF hw c23
                refine lv_iload hx hb dX8_judge_168 (lv_at hl 7 rfl) ?_
                refine lv_aload_n hx hb dX8_judge_170 rfl (lv_at hl 3 rfl) ?_
                refine lv_iload hx hb dX8_judge_171 (lv_at hl 2 rfl) ?_
                refine lv_iload hx hb dX8_judge_173 (lv_at hl 1 rfl) ?_
                refine lv_aload_n hx hb dX8_judge_175 rfl (lv_at hl 3 rfl) ?_
                refine g_40_11 E hh tb745 (E.hn 40 0 (by decide)) dX8_judge_176 ?_
                refine lv_iload hx hb dX8_judge_179 (lv_at hl 2 rfl) ?_
                obtain ⟨hi24, hw⟩ := hw
                refine x_iald E hh (E.hn 46 0 (by decide)) ly_46 hi24 dX8_judge_181 ?_
                refine x_ci E.hA hh (x_runV E hh (mX8_saysNo E.hI E.hn hw) kX8_saysNo tb1056 (E.hn 40 0 (by decide)) rv_40 ⟨by decide, by decide⟩ rfl hl.1 rfl (Nat.le_of_ble_eq_true rfl) dX8_judge_182 ⟨Nat.zero_le _, Nat.zero_le _⟩) (fun r25 S25 H locs hw hh => ?_)
                have hq25 := hw.2
                have hw := hw.1
                refine lv_iload hx hb dX8_judge_185 (lv_at hl 0 rfl) ?_
                refine lv_iconst (v := 1) hx hb dX8_judge_187 (by decide) ?_
                refine lv_icmp_ne (tgt := 195) hx hb dX8_judge_188 (by decide) (fun c26 => ?_) (fun c26 => ?_)
                · have hw := ifF hw c26
                  refine lv_iconst (v := 0) hx hb dX8_judge_195 (by decide) ?_
                  exact bX8_judge_196 E ih hw hh (lv_sub hl [3, 4, 5, 6, 8, 2, 1, 0] rfl)
                · have hw := ifT hw c26
                  refine lv_iconst (v := 1) hx hb dX8_judge_191 (by decide) ?_
                  refine lv_goto (tgt := 196) hx hb dX8_judge_192 (by decide) ?_
                  exact bX8_judge_196 E ih hw hh (lv_sub hl [3, 4, 5, 6, 8, 2, 1, 0] rfl)
def wpX8_judge (x1 : Int32) (x2 : Int32) (S : St) (K : Int32 → St → Prop) : Prop := wpX8_isSheet x1 S (fun r1 S1 => if r1 = 0 then (K (-2) S1) else (wpX8_in x2.toInt64 0 1 S1 (fun r3 S3 => if r3 = 0 then (K (-2) S3) else ((vp_in x1 4 ∧ if (S3.1 64 0 x1.toNatClampNeg) = 0 then (K (-11) S3) else ((vp_in x1 4 ∧ if ((S3.1 66 0 x1.toNatClampNeg) - (S3.1 66 0 x1.toNatClampNeg) / 3 * 3) = 0 then (wpX8_laysAside S3 (fun S9 => ∃ k, wbX8_judge_58 K x1 x2 k (-1) 0 0 S9)) else (K (-2) S3))))))))
set_option maxRecDepth 4000 in
theorem bX8_judge {p : Program} {l : Launch} {e : Env} {R : Room} {s : State} {m : MethodId} {args : Array Value} {below : List Frame} {meth : Method} {c : Code} {D : va_G} {ad : Nat → Nat → Nat} {cs : Nat → ClassId} {P : Nat → Nat → Prop} {sz tU : Nat} {adK adV : Nat → Nat} {K : Int32 → St → Prop} {x1 : Int32} {x2 : Int32} {S : St} {H : Heap} {locs : List Loc} {ls : Array Slot} (E : Ex p s m args meth c R RX8 cX8_judge 9 (some .int) 70 1647 D ad cs P (wA ad P) tU adK adV cnM) (hw : wpX8_judge x1 x2 S K) (hh : wH D ad cs P (wA ad P) s.heap sz S H locs) (hl : lv_has ls 9 [(0, .ref (ad 40 0)), (1, .int x1), (2, .int x2)]) : W p l e R s m args below meth c H locs 0 0 (MQ below (va_Qi K (QX D ad cs P sz) (wA ad P)) args s 0 0 (wA ad P)) (F0 m 0 ls []) := by
  have hx := E.hx
  have hb := E.hb
  refine lv_iload_n hx hb dX8_judge_0 rfl (lv_at hl 1 rfl) ?_
  refine x_ci E.hA hh (x_runS E hh (mX8_isSheet E.hI (fun _ _ h => absurd h (Nat.not_lt_zero _)) hw) kX8_isSheet tb1132 ⟨by decide, by decide⟩ rfl hl.1 rfl (Nat.le_of_ble_eq_true rfl) dX8_judge_1 ⟨Nat.zero_le _, Nat.zero_le _⟩) (fun r1 S1 H locs hw hh => ?_)
  have hq1 := hw.2
  have hw := hw.1
  refine lv_if_eq (tgt := 17) hx hb dX8_judge_4 (by decide) (fun c2 => ?_) (fun c2 => ?_)
  · have hw := ifT hw c2
    refine lv_bipush (v := (-2)) hx hb dX8_judge_17 (by decide) ?_
    exact x_iret E hh hw dX8_judge_19
  · have hw := ifF hw c2
    refine lv_iload_n hx hb dX8_judge_7 rfl (lv_at hl 2 rfl) ?_
    refine lv_i2l hx hb dX8_judge_8 rfl ?_
    refine lv_lconst (v := 0) hx hb dX8_judge_9 (by decide) ?_
    refine lv_lconst (v := 1) hx hb dX8_judge_10 (by decide) ?_
    refine x_ci E.hA hh (x_runS E hh (mX8_in E.hI (fun _ _ h => absurd h (Nat.not_lt_zero _)) hw) kX8_in tb914 ⟨by decide, by decide⟩ rfl hl.1 rfl (Nat.le_of_ble_eq_true rfl) dX8_judge_11 ⟨Nat.zero_le _, Nat.zero_le _⟩) (fun r3 S3 H locs hw hh => ?_)
    have hq3 := hw.2
    have hw := hw.1
    refine lv_if_ne (tgt := 20) hx hb dX8_judge_14 (by decide) (fun c4 => ?_) (fun c4 => ?_)
    · have hw := ifF hw c4
      refine lv_aload_n hx hb dX8_judge_20 rfl (lv_at hl 0 rfl) ?_
      refine g_40_54 E hh tb788 (E.hn 40 0 (by decide)) dX8_judge_21 ?_
      refine lv_iload_n hx hb dX8_judge_24 rfl (lv_at hl 1 rfl) ?_
      obtain ⟨hi5, hw⟩ := hw
      refine x_zald E hh (E.hn 64 0 (by decide)) ly_64 hi5 dX8_judge_25 ?_
      refine lv_if_ne (tgt := 32) hx hb dX8_judge_26 (by decide) (fun c6 => ?_) (fun c6 => ?_)
      · have hw := ifF hw c6
        refine lv_aload_n hx hb dX8_judge_32 rfl (lv_at hl 0 rfl) ?_
        refine g_40_56 E hh tb790 (E.hn 40 0 (by decide)) dX8_judge_33 ?_
        refine lv_iload_n hx hb dX8_judge_36 rfl (lv_at hl 1 rfl) ?_
        obtain ⟨hi7, hw⟩ := hw
        refine x_iald E hh (E.hn 66 0 (by decide)) ly_66 hi7 dX8_judge_37 ?_
        refine lv_iconst (v := 3) hx hb dX8_judge_38 (by decide) ?_
        refine lv_irem hx hb dX8_judge_39 (by decide) ?_
        refine lv_if_eq (tgt := 46) hx hb dX8_judge_40 (by decide) (fun c8 => ?_) (fun c8 => ?_)
        · have hw := ifT hw c8
          refine lv_aload_n hx hb dX8_judge_46 rfl (lv_at hl 0 rfl) ?_
          refine x_cv E.hA hh (x_runV E hh (mX8_laysAside E.hI E.hn hw) kX8_laysAside tb1141 (E.hn 40 0 (by decide)) rv_40 ⟨by decide, by decide⟩ rfl hl.1 rfl (Nat.le_of_ble_eq_true rfl) dX8_judge_47 ⟨Nat.zero_le _, Nat.zero_le _⟩) (fun S9 H locs hw hh => ?_)
          refine lv_iconst (v := (-1)) hx hb dX8_judge_50 (by decide) ?_
          refine lv_istore_n (lv' := [(3, .int (-1)), (0, .ref (ad 40 0)), (1, .int x1), (2, .int x2)]) hx hb dX8_judge_51 rfl hl (by decide) rfl (fun ls hl => ?_)
          refine lv_iconst (v := 0) hx hb dX8_judge_52 (by decide) ?_
          refine lv_istore (lv' := [(4, .int 0), (3, .int (-1)), (0, .ref (ad 40 0)), (1, .int x1), (2, .int x2)]) hx hb dX8_judge_53 hl (by decide) rfl (fun ls hl => ?_)
          refine lv_iconst (v := 0) hx hb dX8_judge_55 (by decide) ?_
          refine lv_istore (lv' := [(5, .int 0), (4, .int 0), (3, .int (-1)), (0, .ref (ad 40 0)), (1, .int x1), (2, .int x2)]) hx hb dX8_judge_56 hl (by decide) rfl (fun ls hl => ?_)
          obtain ⟨k, hw⟩ := hw
          exact bX8_judge_58 E k (-1) 0 0 S9 _ _ _ hw hh (lv_sub hl [3, 4, 5, 2, 1, 0] rfl)
        · have hw := ifF hw c8
          refine lv_bipush (v := (-2)) hx hb dX8_judge_43 (by decide) ?_
          exact x_iret E hh hw dX8_judge_45
      · have hw := ifT hw c6
        refine lv_bipush (v := (-11)) hx hb dX8_judge_29 (by decide) ?_
        exact x_iret E hh hw dX8_judge_31
    · have hw := ifT hw c4
      refine lv_bipush (v := (-2)) hx hb dX8_judge_17 (by decide) ?_
      exact x_iret E hh hw dX8_judge_19
theorem kX8_judge : kI yX8_judge cX8_judge 9 (some .int) 2 := ⟨tb1150, tb1151, tb15, tb1152, by decide, by decide, by decide +kernel⟩
theorem mX8_judge {l : Launch} {D : va_G} {ad : Nat → Nat → Nat} {cs : Nat → ClassId} {P : Nat → Nat → Prop} {sz tU : Nat} {adK adV : Nat → Nat} {x1 : Int32} {x2 : Int32} {S : St} {K : Int32 → St → Prop} (hI : wI ad P) (hn : ∀ kd i, i < cnM kd → P kd i) (hw : wpX8_judge x1 x2 S K) : MI l yX8_judge cX8_judge 9 (some .int) 70 1647 D ad cs P sz tU adK adV [.ref (ad 40 0), .int x1, .int x2] S K :=
  Met_of (by decide) (Nat.le_of_ble_eq_true rfl) hI hn (fun p e R s m args below meth c ls E hl hh => bX8_judge E  hw hh (lv_sub hl [0, 1, 2] rfl))
def wbX8_drawn_99 (K : Int32 → St → Prop) (x3 : Int32) : Nat → Int32 → St → Prop
  | 0, _, _ => False
  | n + 1, x4, S => if 16 ≤ x4 then (K x3 S) else ((vp_in x4 16 ∧ (vp_in x4 16 ∧ ∀ S8, S8 = su S 45 0 x4.toNatClampNeg (S.1 60 0 x4.toNatClampNeg) → wbX8_drawn_99 K x3 n (x4 + 1) S8)))
set_option maxRecDepth 4000 in
theorem bX8_drawn_99 {p : Program} {l : Launch} {e : Env} {R : Room} {s : State} {m : MethodId} {args : Array Value} {below : List Frame} {meth : Method} {c : Code} {D : va_G} {ad : Nat → Nat → Nat} {cs : Nat → ClassId} {P : Nat → Nat → Prop} {sz tU : Nat} {adK adV : Nat → Nat} {K : Int32 → St → Prop} {x3 : Int32} (E : Ex p s m args meth c R RX8 cX8_drawn 5 (some .int) 72 1690 D ad cs P (wA ad P) tU adK adV cnM) : ∀ (n : Nat) (x4 : Int32) (S : St) (H : Heap) (locs : List Loc) (ls : Array Slot), wbX8_drawn_99 K x3 n x4 S → wH D ad cs P (wA ad P) s.heap sz S H locs → lv_has ls 5 [(0, .ref (ad 40 0)), (3, .int x3), (4, .int x4)] → W p l e R s m args below meth c H locs 0 0 (MQ below (va_Qi K (QX D ad cs P sz) (wA ad P)) args s 0 0 (wA ad P)) (F0 m 99 ls []) := by
  have hx := E.hx
  have hb := E.hb
  intro n
  induction n with
  | zero => intro x4 S H locs ls hw hh hl; exact hw.elim
  | succ n ih =>
    intro x4 S H locs ls hw hh hl
    refine lv_iload hx hb dX8_drawn_99 (lv_at hl 2 rfl) ?_
    refine lv_bipush (v := 16) hx hb dX8_drawn_101 (by decide) ?_
    refine lv_icmp_ge (tgt := 126) hx hb dX8_drawn_103 (by decide) (fun c6 => ?_) (fun c6 => ?_)
    · have hw := ifT hw c6
      refine lv_iload_n hx hb dX8_drawn_126 rfl (lv_at hl 1 rfl) ?_
      exact x_iret E hh hw dX8_drawn_127
    · have hw := ifF hw c6
      refine lv_aload_n hx hb dX8_drawn_106 rfl (lv_at hl 0 rfl) ?_
      refine g_40_10 E hh tb744 (E.hn 40 0 (by decide)) dX8_drawn_107 ?_
      refine lv_iload hx hb dX8_drawn_110 (lv_at hl 2 rfl) ?_
      refine lv_aload_n hx hb dX8_drawn_112 rfl (lv_at hl 0 rfl) ?_
      refine g_40_46 E hh tb780 (E.hn 40 0 (by decide)) dX8_drawn_113 ?_
      refine lv_iload hx hb dX8_drawn_116 (lv_at hl 2 rfl) ?_
      obtain ⟨hi7, hw⟩ := hw
      refine x_iald E hh (E.hn 60 0 (by decide)) ly_60 hi7 dX8_drawn_118 ?_
      obtain ⟨hi8, hw⟩ := hw
      refine x_iast E hh (E.hn 45 0 (by decide)) ly_45 hi8 dX8_drawn_119 (fun S8 H locs e8 hh => ?_)
      have hw := hw S8 e8
      refine lv_iinc (k := 2) (v := x4 + 1) (lv' := [(4, .int (x4 + 1)), (0, .ref (ad 40 0)), (3, .int x3)]) hx hb dX8_drawn_120 hl rfl rfl (by decide) rfl (fun ls hl => ?_)
      refine lv_goto (tgt := 99) hx hb dX8_drawn_123 (by decide) ?_
      exact ih (x4 + 1) S8 _ _ _ hw hh (lv_sub hl [1, 2, 0] rfl)
def wbX8_drawn_41 (R30 : Int32 → Int32 → St → Prop) (K : Int32 → St → Prop) (x3 : Int32) : Nat → Int32 → Int32 → St → Prop
  | 0, _, _, _ => False
  | n + 1, x2, x4, S => if (S.1 40 0 8) ≤ x4 then (R30 x2 (x3 + 1) S) else ((vp_in ((4 * x3) + x4) 16 ∧ ∀ S10, S10 = su S 45 0 ((4 * x3) + x4).toNatClampNeg (((((x2 * 1103515245) + 12345).toUInt32 >>> ((9 : Int32).toUInt32 &&& Int32.toUInt32 31)).toInt32) - ((((x2 * 1103515245) + 12345).toUInt32 >>> ((9 : Int32).toUInt32 &&& Int32.toUInt32 31)).toInt32) / 100 * 100) → wbX8_drawn_41 R30 K x3 n ((x2 * 1103515245) + 12345) (x4 + 1) S10))
set_option maxRecDepth 4000 in
theorem bX8_drawn_41 {p : Program} {l : Launch} {e : Env} {R : Room} {s : State} {m : MethodId} {args : Array Value} {below : List Frame} {meth : Method} {c : Code} {D : va_G} {ad : Nat → Nat → Nat} {cs : Nat → ClassId} {P : Nat → Nat → Prop} {sz tU : Nat} {adK adV : Nat → Nat} {R30 : Int32 → Int32 → St → Prop} {K : Int32 → St → Prop} {x3 : Int32} (E : Ex p s m args meth c R RX8 cX8_drawn 5 (some .int) 72 1690 D ad cs P (wA ad P) tU adK adV cnM) (hR30 : ∀ (z2 : Int32) (z3 : Int32) (S : St) (H : Heap) (locs : List Loc) (ls : Array Slot), R30 z2 z3 S → wH D ad cs P (wA ad P) s.heap sz S H locs → lv_has ls 5 [(0, .ref (ad 40 0)), (2, .int z2), (3, .int z3)] → W p l e R s m args below meth c H locs 0 0 (MQ below (va_Qi K (QX D ad cs P sz) (wA ad P)) args s 0 0 (wA ad P)) (F0 m 30 ls [])) : ∀ (n : Nat) (x2 : Int32) (x4 : Int32) (S : St) (H : Heap) (locs : List Loc) (ls : Array Slot), wbX8_drawn_41 R30 K x3 n x2 x4 S → wH D ad cs P (wA ad P) s.heap sz S H locs → lv_has ls 5 [(0, .ref (ad 40 0)), (2, .int x2), (3, .int x3), (4, .int x4)] → W p l e R s m args below meth c H locs 0 0 (MQ below (va_Qi K (QX D ad cs P sz) (wA ad P)) args s 0 0 (wA ad P)) (F0 m 41 ls []) := by
  have hx := E.hx
  have hb := E.hb
  intro n
  induction n with
  | zero => intro x2 x4 S H locs ls hw hh hl; exact hw.elim
  | succ n ih =>
    intro x2 x4 S H locs ls hw hh hl
    refine lv_iload hx hb dX8_drawn_41 (lv_at hl 3 rfl) ?_
    refine lv_aload_n hx hb dX8_drawn_43 rfl (lv_at hl 0 rfl) ?_
    refine g_40_8 E hh tb742 (E.hn 40 0 (by decide)) dX8_drawn_44 ?_
    refine lv_icmp_ge (tgt := 84) hx hb dX8_drawn_47 (by decide) (fun c9 => ?_) (fun c9 => ?_)
    · have hw := ifT hw c9
      refine lv_iinc (k := 2) (v := x3 + 1) (lv' := [(3, .int (x3 + 1)), (0, .ref (ad 40 0)), (2, .int x2), (4, .int x4)]) hx hb dX8_drawn_84 hl rfl rfl (by decide) rfl (fun ls hl => ?_)
      refine lv_goto (tgt := 30) hx hb dX8_drawn_87 (by decide) ?_
      exact hR30 x2 (x3 + 1) S _ _ _ hw hh (lv_sub hl [1, 2, 0] rfl)
    · have hw := ifF hw c9
      refine lv_iload_n hx hb dX8_drawn_50 rfl (lv_at hl 1 rfl) ?_
      refine lv_ldcw (v := 1103515245) hx hb E.hown (E.hts _ tb1157) dX8_drawn_51 ?_
      refine lv_imul hx hb dX8_drawn_54 ?_
      refine lv_sipush (v := 12345) hx hb dX8_drawn_55 (by decide) ?_
      refine lv_iadd hx hb dX8_drawn_58 ?_
      refine lv_istore_n (lv' := [(2, .int ((x2 * 1103515245) + 12345)), (0, .ref (ad 40 0)), (3, .int x3), (4, .int x4)]) hx hb dX8_drawn_59 rfl hl (by decide) rfl (fun ls hl => ?_)
      refine lv_aload_n hx hb dX8_drawn_60 rfl (lv_at hl 1 rfl) ?_
      refine g_40_10 E hh tb744 (E.hn 40 0 (by decide)) dX8_drawn_61 ?_
      refine lv_iconst (v := 4) hx hb dX8_drawn_64 (by decide) ?_
      refine lv_iload_n hx hb dX8_drawn_65 rfl (lv_at hl 2 rfl) ?_
      refine lv_imul hx hb dX8_drawn_66 ?_
      refine lv_iload hx hb dX8_drawn_67 (lv_at hl 3 rfl) ?_
      refine lv_iadd hx hb dX8_drawn_69 ?_
      refine lv_iload_n hx hb dX8_drawn_70 rfl (lv_at hl 0 rfl) ?_
      refine lv_bipush (v := 9) hx hb dX8_drawn_71 (by decide) ?_
      refine lv_iushr hx hb dX8_drawn_73 rfl ?_
      refine lv_bipush (v := 100) hx hb dX8_drawn_74 (by decide) ?_
      refine lv_irem hx hb dX8_drawn_76 (by decide) ?_
      obtain ⟨hi10, hw⟩ := hw
      refine x_iast E hh (E.hn 45 0 (by decide)) ly_45 hi10 dX8_drawn_77 (fun S10 H locs e10 hh => ?_)
      have hw := hw S10 e10
      refine lv_iinc (k := 3) (v := x4 + 1) (lv' := [(4, .int (x4 + 1)), (2, .int ((x2 * 1103515245) + 12345)), (0, .ref (ad 40 0)), (3, .int x3)]) hx hb dX8_drawn_78 hl rfl rfl (by decide) rfl (fun ls hl => ?_)
      refine lv_goto (tgt := 41) hx hb dX8_drawn_81 (by decide) ?_
      exact ih ((x2 * 1103515245) + 12345) (x4 + 1) S10 _ _ _ hw hh (lv_sub hl [2, 1, 3, 0] rfl)
def wbX8_drawn_30 (K : Int32 → St → Prop) : Nat → Int32 → Int32 → St → Prop
  | 0, _, _, _ => False
  | n + 1, x2, x3, S => if (S.1 40 0 7) ≤ x3 then (wpX8_goes 1 S (fun r5 S5 => ∃ k, wbX8_drawn_99 K r5 k 0 S5)) else (∃ k, wbX8_drawn_41 (fun yx2 yx3 S9 => wbX8_drawn_30 K n yx2 yx3 S9) K x3 k x2 0 S)
set_option maxRecDepth 4000 in
theorem bX8_drawn_30 {p : Program} {l : Launch} {e : Env} {R : Room} {s : State} {m : MethodId} {args : Array Value} {below : List Frame} {meth : Method} {c : Code} {D : va_G} {ad : Nat → Nat → Nat} {cs : Nat → ClassId} {P : Nat → Nat → Prop} {sz tU : Nat} {adK adV : Nat → Nat} {K : Int32 → St → Prop} (E : Ex p s m args meth c R RX8 cX8_drawn 5 (some .int) 72 1690 D ad cs P (wA ad P) tU adK adV cnM) : ∀ (n : Nat) (x2 : Int32) (x3 : Int32) (S : St) (H : Heap) (locs : List Loc) (ls : Array Slot), wbX8_drawn_30 K n x2 x3 S → wH D ad cs P (wA ad P) s.heap sz S H locs → lv_has ls 5 [(0, .ref (ad 40 0)), (2, .int x2), (3, .int x3)] → W p l e R s m args below meth c H locs 0 0 (MQ below (va_Qi K (QX D ad cs P sz) (wA ad P)) args s 0 0 (wA ad P)) (F0 m 30 ls []) := by
  have hx := E.hx
  have hb := E.hb
  intro n
  induction n with
  | zero => intro x2 x3 S H locs ls hw hh hl; exact hw.elim
  | succ n ih =>
    intro x2 x3 S H locs ls hw hh hl
    refine lv_iload_n hx hb dX8_drawn_30 rfl (lv_at hl 2 rfl) ?_
    refine lv_aload_n hx hb dX8_drawn_31 rfl (lv_at hl 0 rfl) ?_
    refine g_40_7 E hh tb741 (E.hn 40 0 (by decide)) dX8_drawn_32 ?_
    refine lv_icmp_ge (tgt := 90) hx hb dX8_drawn_35 (by decide) (fun c4 => ?_) (fun c4 => ?_)
    · have hw := ifT hw c4
      refine lv_aload_n hx hb dX8_drawn_90 rfl (lv_at hl 0 rfl) ?_
      refine lv_iconst (v := 1) hx hb dX8_drawn_91 (by decide) ?_
      refine x_ci E.hA hh (x_runV E hh (mX8_goes E.hI E.hn hw) kX8_goes tb1100 (E.hn 40 0 (by decide)) rv_40 ⟨by decide, by decide⟩ rfl hl.1 rfl (Nat.le_of_ble_eq_true rfl) dX8_drawn_92 ⟨Nat.zero_le _, Nat.zero_le _⟩) (fun r5 S5 H locs hw hh => ?_)
      refine lv_istore_n (lv' := [(3, .int r5), (0, .ref (ad 40 0)), (2, .int x2)]) hx hb dX8_drawn_95 rfl hl (by decide) rfl (fun ls hl => ?_)
      refine lv_iconst (v := 0) hx hb dX8_drawn_96 (by decide) ?_
      refine lv_istore (lv' := [(4, .int 0), (3, .int r5), (0, .ref (ad 40 0)), (2, .int x2)]) hx hb dX8_drawn_97 hl (by decide) rfl (fun ls hl => ?_)
      obtain ⟨k, hw⟩ := hw
      exact bX8_drawn_99 E k 0 S5 _ _ _ hw hh (lv_sub hl [2, 1, 0] rfl)
    · have hw := ifF hw c4
      refine lv_iconst (v := 0) hx hb dX8_drawn_38 (by decide) ?_
      refine lv_istore (lv' := [(4, .int 0), (0, .ref (ad 40 0)), (2, .int x2), (3, .int x3)]) hx hb dX8_drawn_39 hl (by decide) rfl (fun ls hl => ?_)
      obtain ⟨k, hw⟩ := hw
      exact bX8_drawn_41 E ih k x2 0 S _ _ _ hw hh (lv_sub hl [1, 2, 3, 0] rfl)
def wbX8_drawn_2 (K : Int32 → St → Prop) (x1 : Int32) : Nat → Int32 → St → Prop
  | 0, _, _ => False
  | n + 1, x2, S => if 16 ≤ x2 then (∃ k, wbX8_drawn_30 K k x1 0 S) else ((vp_in x2 16 ∧ (vp_in x2 16 ∧ ∀ S3, S3 = su S 60 0 x2.toNatClampNeg (S.1 45 0 x2.toNatClampNeg) → wbX8_drawn_2 K x1 n (x2 + 1) S3)))
set_option maxRecDepth 4000 in
theorem bX8_drawn_2 {p : Program} {l : Launch} {e : Env} {R : Room} {s : State} {m : MethodId} {args : Array Value} {below : List Frame} {meth : Method} {c : Code} {D : va_G} {ad : Nat → Nat → Nat} {cs : Nat → ClassId} {P : Nat → Nat → Prop} {sz tU : Nat} {adK adV : Nat → Nat} {K : Int32 → St → Prop} {x1 : Int32} (E : Ex p s m args meth c R RX8 cX8_drawn 5 (some .int) 72 1690 D ad cs P (wA ad P) tU adK adV cnM) : ∀ (n : Nat) (x2 : Int32) (S : St) (H : Heap) (locs : List Loc) (ls : Array Slot), wbX8_drawn_2 K x1 n x2 S → wH D ad cs P (wA ad P) s.heap sz S H locs → lv_has ls 5 [(0, .ref (ad 40 0)), (1, .int x1), (2, .int x2)] → W p l e R s m args below meth c H locs 0 0 (MQ below (va_Qi K (QX D ad cs P sz) (wA ad P)) args s 0 0 (wA ad P)) (F0 m 2 ls []) := by
  have hx := E.hx
  have hb := E.hb
  intro n
  induction n with
  | zero => intro x2 S H locs ls hw hh hl; exact hw.elim
  | succ n ih =>
    intro x2 S H locs ls hw hh hl
    refine lv_iload_n hx hb dX8_drawn_2 rfl (lv_at hl 2 rfl) ?_
    refine lv_bipush (v := 16) hx hb dX8_drawn_3 (by decide) ?_
    refine lv_icmp_ge (tgt := 26) hx hb dX8_drawn_5 (by decide) (fun c1 => ?_) (fun c1 => ?_)
    · have hw := ifT hw c1
      refine lv_iload_n hx hb dX8_drawn_26 rfl (lv_at hl 1 rfl) ?_
      refine lv_istore_n (lv' := [(2, .int x1), (0, .ref (ad 40 0)), (1, .int x1)]) hx hb dX8_drawn_27 rfl hl (by decide) rfl (fun ls hl => ?_)
      refine lv_iconst (v := 0) hx hb dX8_drawn_28 (by decide) ?_
      refine lv_istore_n (lv' := [(3, .int 0), (2, .int x1), (0, .ref (ad 40 0)), (1, .int x1)]) hx hb dX8_drawn_29 rfl hl (by decide) rfl (fun ls hl => ?_)
      obtain ⟨k, hw⟩ := hw
      exact bX8_drawn_30 E k x1 0 S _ _ _ hw hh (lv_sub hl [2, 1, 0] rfl)
    · have hw := ifF hw c1
      refine lv_aload_n hx hb dX8_drawn_8 rfl (lv_at hl 0 rfl) ?_
      refine g_40_46 E hh tb780 (E.hn 40 0 (by decide)) dX8_drawn_9 ?_
      refine lv_iload_n hx hb dX8_drawn_12 rfl (lv_at hl 2 rfl) ?_
      refine lv_aload_n hx hb dX8_drawn_13 rfl (lv_at hl 0 rfl) ?_
      refine g_40_10 E hh tb744 (E.hn 40 0 (by decide)) dX8_drawn_14 ?_
      refine lv_iload_n hx hb dX8_drawn_17 rfl (lv_at hl 2 rfl) ?_
      obtain ⟨hi2, hw⟩ := hw
      refine x_iald E hh (E.hn 45 0 (by decide)) ly_45 hi2 dX8_drawn_18 ?_
      obtain ⟨hi3, hw⟩ := hw
      refine x_iast E hh (E.hn 60 0 (by decide)) ly_60 hi3 dX8_drawn_19 (fun S3 H locs e3 hh => ?_)
      have hw := hw S3 e3
      refine lv_iinc (k := 2) (v := x2 + 1) (lv' := [(2, .int (x2 + 1)), (0, .ref (ad 40 0)), (1, .int x1)]) hx hb dX8_drawn_20 hl rfl rfl (by decide) rfl (fun ls hl => ?_)
      refine lv_goto (tgt := 2) hx hb dX8_drawn_23 (by decide) ?_
      exact ih (x2 + 1) S3 _ _ _ hw hh (lv_sub hl [1, 2, 0] rfl)
def wpX8_drawn (x1 : Int32) (S : St) (K : Int32 → St → Prop) : Prop := ∃ k, wbX8_drawn_2 K x1 k 0 S
set_option maxRecDepth 4000 in
theorem bX8_drawn {p : Program} {l : Launch} {e : Env} {R : Room} {s : State} {m : MethodId} {args : Array Value} {below : List Frame} {meth : Method} {c : Code} {D : va_G} {ad : Nat → Nat → Nat} {cs : Nat → ClassId} {P : Nat → Nat → Prop} {sz tU : Nat} {adK adV : Nat → Nat} {K : Int32 → St → Prop} {x1 : Int32} {S : St} {H : Heap} {locs : List Loc} {ls : Array Slot} (E : Ex p s m args meth c R RX8 cX8_drawn 5 (some .int) 72 1690 D ad cs P (wA ad P) tU adK adV cnM) (hw : wpX8_drawn x1 S K) (hh : wH D ad cs P (wA ad P) s.heap sz S H locs) (hl : lv_has ls 5 [(0, .ref (ad 40 0)), (1, .int x1)]) : W p l e R s m args below meth c H locs 0 0 (MQ below (va_Qi K (QX D ad cs P sz) (wA ad P)) args s 0 0 (wA ad P)) (F0 m 0 ls []) := by
  have hx := E.hx
  have hb := E.hb
  refine lv_iconst (v := 0) hx hb dX8_drawn_0 (by decide) ?_
  refine lv_istore_n (lv' := [(2, .int 0), (0, .ref (ad 40 0)), (1, .int x1)]) hx hb dX8_drawn_1 rfl hl (by decide) rfl (fun ls hl => ?_)
  obtain ⟨k, hw⟩ := hw
  exact bX8_drawn_2 E k 0 S _ _ _ hw hh (lv_sub hl [1, 2, 0] rfl)
theorem kX8_drawn : kI yX8_drawn cX8_drawn 5 (some .int) 1 := ⟨tb1154, tb1155, tb15, tb1156, by decide, by decide, by decide +kernel⟩
theorem mX8_drawn {l : Launch} {D : va_G} {ad : Nat → Nat → Nat} {cs : Nat → ClassId} {P : Nat → Nat → Prop} {sz tU : Nat} {adK adV : Nat → Nat} {x1 : Int32} {S : St} {K : Int32 → St → Prop} (hI : wI ad P) (hn : ∀ kd i, i < cnM kd → P kd i) (hw : wpX8_drawn x1 S K) : MI l yX8_drawn cX8_drawn 5 (some .int) 72 1690 D ad cs P sz tU adK adV [.ref (ad 40 0), .int x1] S K :=
  Met_of (by decide) (Nat.le_of_ble_eq_true rfl) hI hn (fun p e R s m args below meth c ls E hl hh => bX8_drawn E  hw hh (lv_sub hl [0, 1] rfl))
def wbX8_chance_73 (K : Int64 → St → Prop) (x2 : Int32) (x3 : Int32) (x4 : Int64) : Nat → Int64 → Int64 → St → Prop
  | 0, _, _, _ => False
  | n + 1, x6, x8, S => if (lg_cmp x8 0) = 0 then (if x3 = 0 then ((¬ x6 = 0 ∧ K (x4 / x6) S)) else ((¬ x6 = 0 ∧ K (x2.toInt64 / x6) S))) else ((¬ x8 = 0 ∧ wbX8_chance_73 K x2 x3 x4 n x8 (x6 - x6 / x8 * x8) S))
set_option maxRecDepth 4000 in
theorem bX8_chance_73 {p : Program} {l : Launch} {e : Env} {R : Room} {s : State} {m : MethodId} {args : Array Value} {below : List Frame} {meth : Method} {c : Code} {D : va_G} {ad : Nat → Nat → Nat} {cs : Nat → ClassId} {P : Nat → Nat → Prop} {sz tU : Nat} {adK adV : Nat → Nat} {K : Int64 → St → Prop} {x2 : Int32} {x3 : Int32} {x4 : Int64} (E : Ex p s m args meth c R RX8 cX8_chance 12 (some .long) 73 1714 D ad cs P (wA ad P) tU adK adV cnM) : ∀ (n : Nat) (x6 : Int64) (x8 : Int64) (S : St) (H : Heap) (locs : List Loc) (ls : Array Slot), wbX8_chance_73 K x2 x3 x4 n x6 x8 S → wH D ad cs P (wA ad P) s.heap sz S H locs → lv_has ls 12 [(2, .int x2), (3, .int x3), (4, .long x4), (6, .long x6), (8, .long x8)] → W p l e R s m args below meth c H locs 0 0 (MQ below (va_Ql K (QX D ad cs P sz) (wA ad P)) args s 0 0 (wA ad P)) (F0 m 73 ls []) := by
  have hx := E.hx
  have hb := E.hb
  intro n
  induction n with
  | zero => intro x6 x8 S H locs ls hw hh hl; exact hw.elim
  | succ n ih =>
    intro x6 x8 S H locs ls hw hh hl
    refine lv_lload hx hb dX8_chance_73 (lv_at hl 4 rfl) ?_
    refine lv_lconst (v := 0) hx hb dX8_chance_75 (by decide) ?_
    refine W.lcmp hx hb dX8_chance_76 ?_
    refine lv_if_eq (tgt := 98) hx hb dX8_chance_77 (by decide) (fun c8 => ?_) (fun c8 => ?_)
    · have hw := ifT hw c8
      refine lv_iload_n hx hb dX8_chance_98 rfl (lv_at hl 1 rfl) ?_
      refine lv_if_ne (tgt := 110) hx hb dX8_chance_99 (by decide) (fun c9 => ?_) (fun c9 => ?_)
      · have hw := ifF hw c9
        refine lv_iload_n hx hb dX8_chance_110 rfl (lv_at hl 0 rfl) ?_
        refine lv_i2l hx hb dX8_chance_111 rfl ?_
        refine lv_lload hx hb dX8_chance_112 (lv_at hl 3 rfl) ?_
        obtain ⟨hz10, hw⟩ := hw
        refine lv_ldiv hx hb dX8_chance_114 hz10 ?_
        exact x_lret E hh hw dX8_chance_115
      · have hw := ifT hw c9
        refine lv_lload hx hb dX8_chance_102 (lv_at hl 2 rfl) ?_
        refine lv_lload hx hb dX8_chance_104 (lv_at hl 3 rfl) ?_
        obtain ⟨hz11, hw⟩ := hw
        refine lv_ldiv hx hb dX8_chance_106 hz11 ?_
        refine lv_goto (tgt := 115) hx hb dX8_chance_107 (by decide) ?_
        exact x_lret E hh hw dX8_chance_115
    · have hw := ifF hw c8
      refine lv_lload hx hb dX8_chance_80 (lv_at hl 3 rfl) ?_
      refine lv_lload hx hb dX8_chance_82 (lv_at hl 4 rfl) ?_
      obtain ⟨hz12, hw⟩ := hw
      refine lv_lrem hx hb dX8_chance_84 hz12 ?_
      refine lv_lstore (lv' := [(10, .long (x6 - x6 / x8 * x8)), (2, .int x2), (3, .int x3), (4, .long x4), (6, .long x6), (8, .long x8)]) hx hb dX8_chance_85 hl (by decide) rfl (fun ls hl => ?_)
      refine lv_lload hx hb dX8_chance_87 (lv_at hl 5 rfl) ?_
      refine lv_lstore (lv' := [(6, .long x8), (10, .long (x6 - x6 / x8 * x8)), (2, .int x2), (3, .int x3), (4, .long x4), (8, .long x8)]) hx hb dX8_chance_89 hl (by decide) rfl (fun ls hl => ?_)
      refine lv_lload hx hb dX8_chance_91 (lv_at hl 1 rfl) ?_
      refine lv_lstore (lv' := [(8, .long (x6 - x6 / x8 * x8)), (6, .long x8), (10, .long (x6 - x6 / x8 * x8)), (2, .int x2), (3, .int x3), (4, .long x4)]) hx hb dX8_chance_93 hl (by decide) rfl (fun ls hl => ?_)
      refine lv_goto (tgt := 73) hx hb dX8_chance_95 (by decide) ?_
      exact ih x8 (x6 - x6 / x8 * x8) S _ _ _ hw hh (lv_sub hl [3, 4, 5, 1, 0] rfl)
def wbX8_chance_56 (R32 : Int64 → Int32 → St → Prop) (K : Int64 → St → Prop) (x1 : Int32) (x2 : Int32) (x3 : Int32) (x6 : Int32) (v0 : Int64) (v1 : Int64) (S : St) : Prop := R32 (v1 + v0) (x6 + 1) S
set_option maxRecDepth 4000 in
theorem bX8_chance_56 {p : Program} {l : Launch} {e : Env} {R : Room} {s : State} {m : MethodId} {args : Array Value} {below : List Frame} {meth : Method} {c : Code} {D : va_G} {ad : Nat → Nat → Nat} {cs : Nat → ClassId} {P : Nat → Nat → Prop} {sz tU : Nat} {adK adV : Nat → Nat} {R32 : Int64 → Int32 → St → Prop} {K : Int64 → St → Prop} {x1 : Int32} {x2 : Int32} {x3 : Int32} {x6 : Int32} {v0 : Int64} {v1 : Int64} {S : St} {H : Heap} {locs : List Loc} {ls : Array Slot} (E : Ex p s m args meth c R RX8 cX8_chance 12 (some .long) 73 1714 D ad cs P (wA ad P) tU adK adV cnM) (hR32 : ∀ (z4 : Int64) (z6 : Int32) (S : St) (H : Heap) (locs : List Loc) (ls : Array Slot), R32 z4 z6 S → wH D ad cs P (wA ad P) s.heap sz S H locs → lv_has ls 12 [(0, .ref (ad 40 0)), (1, .int x1), (2, .int x2), (3, .int x3), (4, .long z4), (6, .int z6)] → W p l e R s m args below meth c H locs 0 0 (MQ below (va_Ql K (QX D ad cs P sz) (wA ad P)) args s 0 0 (wA ad P)) (F0 m 32 ls [])) (hw : wbX8_chance_56 R32 K x1 x2 x3 x6 v0 v1 S) (hh : wH D ad cs P (wA ad P) s.heap sz S H locs) (hl : lv_has ls 12 [(0, .ref (ad 40 0)), (1, .int x1), (2, .int x2), (3, .int x3), (6, .int x6)]) : W p l e R s m args below meth c H locs 0 0 (MQ below (va_Ql K (QX D ad cs P sz) (wA ad P)) args s 0 0 (wA ad P)) (F0 m 56 ls [.long v0, .long v1]) := by
  have hx := E.hx
  have hb := E.hb
  refine lv_ladd hx hb dX8_chance_56 ?_
  refine lv_lstore (lv' := [(4, .long (v1 + v0)), (0, .ref (ad 40 0)), (1, .int x1), (2, .int x2), (3, .int x3), (6, .int x6)]) hx hb dX8_chance_57 hl (by decide) rfl (fun ls hl => ?_)
  refine lv_iinc (k := 5) (v := x6 + 1) (lv' := [(6, .int (x6 + 1)), (4, .long (v1 + v0)), (0, .ref (ad 40 0)), (1, .int x1), (2, .int x2), (3, .int x3)]) hx hb dX8_chance_59 hl rfl rfl (by decide) rfl (fun ls hl => ?_)
  refine lv_goto (tgt := 32) hx hb dX8_chance_62 (by decide) ?_
  exact hR32 (v1 + v0) (x6 + 1) S _ _ _ hw hh (lv_sub hl [2, 3, 4, 5, 1, 0] rfl)
def wbX8_chance_32 (K : Int64 → St → Prop) (x1 : Int32) (x2 : Int32) (x3 : Int32) : Nat → Int64 → Int32 → St → Prop
  | 0, _, _, _ => False
  | n + 1, x4, x6, S => if x2 ≤ x6 then (∃ k, wbX8_chance_73 K x2 x3 x4 k x4 x2.toInt64 S) else (wpX8_drawn (x1 + x6) S (fun r6 S6 => if r6 ≤ 0 then (wbX8_chance_56 (fun yx4 yx6 S9 => wbX8_chance_32 K x1 x2 x3 n yx4 yx6 S9) K x1 x2 x3 x6 0 x4 S6) else (wbX8_chance_56 (fun yx4 yx6 S9 => wbX8_chance_32 K x1 x2 x3 n yx4 yx6 S9) K x1 x2 x3 x6 1 x4 S6)))
set_option maxRecDepth 4000 in
theorem bX8_chance_32 {p : Program} {l : Launch} {e : Env} {R : Room} {s : State} {m : MethodId} {args : Array Value} {below : List Frame} {meth : Method} {c : Code} {D : va_G} {ad : Nat → Nat → Nat} {cs : Nat → ClassId} {P : Nat → Nat → Prop} {sz tU : Nat} {adK adV : Nat → Nat} {K : Int64 → St → Prop} {x1 : Int32} {x2 : Int32} {x3 : Int32} (E : Ex p s m args meth c R RX8 cX8_chance 12 (some .long) 73 1714 D ad cs P (wA ad P) tU adK adV cnM) : ∀ (n : Nat) (x4 : Int64) (x6 : Int32) (S : St) (H : Heap) (locs : List Loc) (ls : Array Slot), wbX8_chance_32 K x1 x2 x3 n x4 x6 S → wH D ad cs P (wA ad P) s.heap sz S H locs → lv_has ls 12 [(0, .ref (ad 40 0)), (1, .int x1), (2, .int x2), (3, .int x3), (4, .long x4), (6, .int x6)] → W p l e R s m args below meth c H locs 0 0 (MQ below (va_Ql K (QX D ad cs P sz) (wA ad P)) args s 0 0 (wA ad P)) (F0 m 32 ls []) := by
  have hx := E.hx
  have hb := E.hb
  intro n
  induction n with
  | zero => intro x4 x6 S H locs ls hw hh hl; exact hw.elim
  | succ n ih =>
    intro x4 x6 S H locs ls hw hh hl
    refine lv_iload hx hb dX8_chance_32 (lv_at hl 5 rfl) ?_
    refine lv_iload_n hx hb dX8_chance_34 rfl (lv_at hl 2 rfl) ?_
    refine lv_icmp_ge (tgt := 65) hx hb dX8_chance_35 (by decide) (fun c5 => ?_) (fun c5 => ?_)
    · have hw := ifT hw c5
      refine lv_lload hx hb dX8_chance_65 (lv_at hl 4 rfl) ?_
      refine lv_lstore (lv' := [(6, .long x4), (0, .ref (ad 40 0)), (1, .int x1), (2, .int x2), (3, .int x3), (4, .long x4)]) hx hb dX8_chance_67 hl (by decide) rfl (fun ls hl => ?_)
      refine lv_iload_n hx hb dX8_chance_69 rfl (lv_at hl 3 rfl) ?_
      refine lv_i2l hx hb dX8_chance_70 rfl ?_
      refine lv_lstore (lv' := [(8, .long x2.toInt64), (6, .long x4), (0, .ref (ad 40 0)), (1, .int x1), (2, .int x2), (3, .int x3), (4, .long x4)]) hx hb dX8_chance_71 hl (by decide) rfl (fun ls hl => ?_)
      obtain ⟨k, hw⟩ := hw
      exact bX8_chance_73 E k x4 x2.toInt64 S _ _ _ hw hh (lv_sub hl [4, 5, 6, 1, 0] rfl)
    · have hw := ifF hw c5
      refine lv_lload hx hb dX8_chance_38 (lv_at hl 4 rfl) ?_
      refine lv_aload_n hx hb dX8_chance_40 rfl (lv_at hl 0 rfl) ?_
      refine lv_iload_n hx hb dX8_chance_41 rfl (lv_at hl 1 rfl) ?_
      refine lv_iload hx hb dX8_chance_42 (lv_at hl 5 rfl) ?_
      refine lv_iadd hx hb dX8_chance_44 ?_
      refine x_ci E.hA hh (x_runV E hh (mX8_drawn E.hI E.hn hw) kX8_drawn tb1164 (E.hn 40 0 (by decide)) rv_40 ⟨by decide, by decide⟩ rfl hl.1 rfl (Nat.le_of_ble_eq_true rfl) dX8_chance_45 ⟨Nat.zero_le _, Nat.zero_le _⟩) (fun r6 S6 H locs hw hh => ?_)
      refine lv_if_le (tgt := 55) hx hb dX8_chance_48 (by decide) (fun c7 => ?_) (fun c7 => ?_)
      · have hw := ifT hw c7
        refine lv_lconst (v := 0) hx hb dX8_chance_55 (by decide) ?_
        exact bX8_chance_56 E ih hw hh (lv_sub hl [0, 1, 2, 3, 5] rfl)
      · have hw := ifF hw c7
        refine lv_lconst (v := 1) hx hb dX8_chance_51 (by decide) ?_
        refine lv_goto (tgt := 56) hx hb dX8_chance_52 (by decide) ?_
        exact bX8_chance_56 E ih hw hh (lv_sub hl [0, 1, 2, 3, 5] rfl)
def wpX8_chance (x1 : Int32) (x2 : Int32) (x3 : Int32) (S : St) (K : Int64 → St → Prop) : Prop := wpX8_in x2.toInt64 1 20 S (fun r1 S1 => if r1 = 0 then (K (-4611686018427387904) S1) else (wpX8_in x3.toInt64 0 1 S1 (fun r3 S3 => if r3 = 0 then (K (-4611686018427387904) S3) else (∃ k, wbX8_chance_32 K x1 x2 x3 k 0 0 S3))))
set_option maxRecDepth 4000 in
theorem bX8_chance {p : Program} {l : Launch} {e : Env} {R : Room} {s : State} {m : MethodId} {args : Array Value} {below : List Frame} {meth : Method} {c : Code} {D : va_G} {ad : Nat → Nat → Nat} {cs : Nat → ClassId} {P : Nat → Nat → Prop} {sz tU : Nat} {adK adV : Nat → Nat} {K : Int64 → St → Prop} {x1 : Int32} {x2 : Int32} {x3 : Int32} {S : St} {H : Heap} {locs : List Loc} {ls : Array Slot} (E : Ex p s m args meth c R RX8 cX8_chance 12 (some .long) 73 1714 D ad cs P (wA ad P) tU adK adV cnM) (hw : wpX8_chance x1 x2 x3 S K) (hh : wH D ad cs P (wA ad P) s.heap sz S H locs) (hl : lv_has ls 12 [(0, .ref (ad 40 0)), (1, .int x1), (2, .int x2), (3, .int x3)]) : W p l e R s m args below meth c H locs 0 0 (MQ below (va_Ql K (QX D ad cs P sz) (wA ad P)) args s 0 0 (wA ad P)) (F0 m 0 ls []) := by
  have hx := E.hx
  have hb := E.hb
  refine lv_iload_n hx hb dX8_chance_0 rfl (lv_at hl 2 rfl) ?_
  refine lv_i2l hx hb dX8_chance_1 rfl ?_
  refine lv_lconst (v := 1) hx hb dX8_chance_2 (by decide) ?_
  refine lv_ldc2 (v := 20) hx hb E.hown (E.hts _ tb1162) dX8_chance_3 ?_
  refine x_ci E.hA hh (x_runS E hh (mX8_in E.hI (fun _ _ h => absurd h (Nat.not_lt_zero _)) hw) kX8_in tb914 ⟨by decide, by decide⟩ rfl hl.1 rfl (Nat.le_of_ble_eq_true rfl) dX8_chance_6 ⟨Nat.zero_le _, Nat.zero_le _⟩) (fun r1 S1 H locs hw hh => ?_)
  have hq1 := hw.2
  have hw := hw.1
  refine lv_if_eq (tgt := 22) hx hb dX8_chance_9 (by decide) (fun c2 => ?_) (fun c2 => ?_)
  · have hw := ifT hw c2
    refine lv_ldc2 (v := (-4611686018427387904)) hx hb E.hown (E.hts _ tb1163) dX8_chance_22 ?_
    exact x_lret E hh hw dX8_chance_25
  · have hw := ifF hw c2
    refine lv_iload_n hx hb dX8_chance_12 rfl (lv_at hl 3 rfl) ?_
    refine lv_i2l hx hb dX8_chance_13 rfl ?_
    refine lv_lconst (v := 0) hx hb dX8_chance_14 (by decide) ?_
    refine lv_lconst (v := 1) hx hb dX8_chance_15 (by decide) ?_
    refine x_ci E.hA hh (x_runS E hh (mX8_in E.hI (fun _ _ h => absurd h (Nat.not_lt_zero _)) hw) kX8_in tb914 ⟨by decide, by decide⟩ rfl hl.1 rfl (Nat.le_of_ble_eq_true rfl) dX8_chance_16 ⟨Nat.zero_le _, Nat.zero_le _⟩) (fun r3 S3 H locs hw hh => ?_)
    have hq3 := hw.2
    have hw := hw.1
    refine lv_if_ne (tgt := 26) hx hb dX8_chance_19 (by decide) (fun c4 => ?_) (fun c4 => ?_)
    · have hw := ifF hw c4
      refine lv_lconst (v := 0) hx hb dX8_chance_26 (by decide) ?_
      refine lv_lstore (lv' := [(4, .long 0), (0, .ref (ad 40 0)), (1, .int x1), (2, .int x2), (3, .int x3)]) hx hb dX8_chance_27 hl (by decide) rfl (fun ls hl => ?_)
      refine lv_iconst (v := 0) hx hb dX8_chance_29 (by decide) ?_
      refine lv_istore (lv' := [(6, .int 0), (4, .long 0), (0, .ref (ad 40 0)), (1, .int x1), (2, .int x2), (3, .int x3)]) hx hb dX8_chance_30 hl (by decide) rfl (fun ls hl => ?_)
      obtain ⟨k, hw⟩ := hw
      exact bX8_chance_32 E k 0 0 S3 _ _ _ hw hh (lv_sub hl [2, 3, 4, 5, 1, 0] rfl)
    · have hw := ifT hw c4
      refine lv_ldc2 (v := (-4611686018427387904)) hx hb E.hown (E.hts _ tb1163) dX8_chance_22 ?_
      exact x_lret E hh hw dX8_chance_25
theorem kX8_chance : kI yX8_chance cX8_chance 12 (some .long) 3 := ⟨tb1159, tb1160, tb15, tb1161, by decide, by decide, by decide +kernel⟩
theorem mX8_chance {l : Launch} {D : va_G} {ad : Nat → Nat → Nat} {cs : Nat → ClassId} {P : Nat → Nat → Prop} {sz tU : Nat} {adK adV : Nat → Nat} {x1 : Int32} {x2 : Int32} {x3 : Int32} {S : St} {K : Int64 → St → Prop} (hI : wI ad P) (hn : ∀ kd i, i < cnM kd → P kd i) (hw : wpX8_chance x1 x2 x3 S K) : ML l yX8_chance cX8_chance 12 (some .long) 73 1714 D ad cs P sz tU adK adV [.ref (ad 40 0), .int x1, .int x2, .int x3] S K :=
  Met_of (by decide) (Nat.le_of_ble_eq_true rfl) hI hn (fun p e R s m args below meth c ls E hl hh => bX8_chance E  hw hh (lv_sub hl [0, 1, 2, 3] rfl))
def wbX8_image_40 (K : Int32 → St → Prop) : Nat → Int32 → St → Prop
  | 0, _, _ => False
  | n + 1, x1, S => if 4 ≤ x1 then ((∀ S7, S7 = su S 40 0 50 (S.1 40 0 7) → (∀ S8, S8 = su S7 40 0 51 (S7.1 40 0 8) → (∀ S9, S9 = su S8 40 0 52 (S8.1 40 0 16) → (∀ S10, S10 = su S9 40 0 53 (S9.1 40 0 4) → K (S10.1 40 0 7) S10))))) else ((vp_in x1 4 ∧ (vp_in x1 16 ∧ ∀ S12, S12 = su S 63 0 x1.toNatClampNeg (S.1 46 0 x1.toNatClampNeg) → (vp_in x1 4 ∧ (vp_in (4 + x1) 16 ∧ ∀ S14, S14 = su S12 63 0 (4 + x1).toNatClampNeg (S12.1 47 0 x1.toNatClampNeg) → (vp_in x1 4 ∧ (vp_in (8 + x1) 16 ∧ ∀ S16, S16 = su S14 63 0 (8 + x1).toNatClampNeg (S14.1 48 0 x1.toNatClampNeg) → (vp_in x1 4 ∧ (vp_in (12 + x1) 16 ∧ ∀ S18, S18 = su S16 63 0 (12 + x1).toNatClampNeg (S16.1 50 0 x1.toNatClampNeg) → wbX8_image_40 K n (x1 + 1) S18)))))))))
set_option maxRecDepth 4000 in
theorem bX8_image_40 {p : Program} {l : Launch} {e : Env} {R : Room} {s : State} {m : MethodId} {args : Array Value} {below : List Frame} {meth : Method} {c : Code} {D : va_G} {ad : Nat → Nat → Nat} {cs : Nat → ClassId} {P : Nat → Nat → Prop} {sz tU : Nat} {adK adV : Nat → Nat} {K : Int32 → St → Prop} (E : Ex p s m args meth c R RX8 cX8_image 2 (some .int) 1 60 D ad cs P (wA ad P) tU adK adV cnM) : ∀ (n : Nat) (x1 : Int32) (S : St) (H : Heap) (locs : List Loc) (ls : Array Slot), wbX8_image_40 K n x1 S → wH D ad cs P (wA ad P) s.heap sz S H locs → lv_has ls 2 [(0, .ref (ad 40 0)), (1, .int x1)] → W p l e R s m args below meth c H locs 0 0 (MQ below (va_Qi K (QX D ad cs P sz) (wA ad P)) args s 0 0 (wA ad P)) (F0 m 40 ls []) := by
  have hx := E.hx
  have hb := E.hb
  intro n
  induction n with
  | zero => intro x1 S H locs ls hw hh hl; exact hw.elim
  | succ n ih =>
    intro x1 S H locs ls hw hh hl
    refine lv_iload_n hx hb dX8_image_40 rfl (lv_at hl 1 rfl) ?_
    refine lv_iconst (v := 4) hx hb dX8_image_41 (by decide) ?_
    refine lv_icmp_ge (tgt := 107) hx hb dX8_image_42 (by decide) (fun c6 => ?_) (fun c6 => ?_)
    · have hw := ifT hw c6
      refine lv_aload_n hx hb dX8_image_107 rfl (lv_at hl 0 rfl) ?_
      refine lv_aload_n hx hb dX8_image_108 rfl (lv_at hl 0 rfl) ?_
      refine g_40_7 E hh tb741 (E.hn 40 0 (by decide)) dX8_image_109 ?_
      refine p_40_50 E hh tb784 (E.hn 40 0 (by decide)) dX8_image_112 (fun S7 H locs e7 hh => ?_)
      have hw := hw S7 e7
      refine lv_aload_n hx hb dX8_image_115 rfl (lv_at hl 0 rfl) ?_
      refine lv_aload_n hx hb dX8_image_116 rfl (lv_at hl 0 rfl) ?_
      refine g_40_8 E hh tb742 (E.hn 40 0 (by decide)) dX8_image_117 ?_
      refine p_40_51 E hh tb785 (E.hn 40 0 (by decide)) dX8_image_120 (fun S8 H locs e8 hh => ?_)
      have hw := hw S8 e8
      refine lv_aload_n hx hb dX8_image_123 rfl (lv_at hl 0 rfl) ?_
      refine lv_aload_n hx hb dX8_image_124 rfl (lv_at hl 0 rfl) ?_
      refine g_40_16 E hh tb750 (E.hn 40 0 (by decide)) dX8_image_125 ?_
      refine p_40_52 E hh tb786 (E.hn 40 0 (by decide)) dX8_image_128 (fun S9 H locs e9 hh => ?_)
      have hw := hw S9 e9
      refine lv_aload_n hx hb dX8_image_131 rfl (lv_at hl 0 rfl) ?_
      refine lv_aload_n hx hb dX8_image_132 rfl (lv_at hl 0 rfl) ?_
      refine g_40_4 E hh tb738 (E.hn 40 0 (by decide)) dX8_image_133 ?_
      refine p_40_53 E hh tb787 (E.hn 40 0 (by decide)) dX8_image_136 (fun S10 H locs e10 hh => ?_)
      have hw := hw S10 e10
      refine lv_aload_n hx hb dX8_image_139 rfl (lv_at hl 0 rfl) ?_
      refine g_40_7 E hh tb741 (E.hn 40 0 (by decide)) dX8_image_140 ?_
      exact x_iret E hh hw dX8_image_143
    · have hw := ifF hw c6
      refine lv_aload_n hx hb dX8_image_45 rfl (lv_at hl 0 rfl) ?_
      refine g_40_49 E hh tb783 (E.hn 40 0 (by decide)) dX8_image_46 ?_
      refine lv_iload_n hx hb dX8_image_49 rfl (lv_at hl 1 rfl) ?_
      refine lv_aload_n hx hb dX8_image_50 rfl (lv_at hl 0 rfl) ?_
      refine g_40_11 E hh tb745 (E.hn 40 0 (by decide)) dX8_image_51 ?_
      refine lv_iload_n hx hb dX8_image_54 rfl (lv_at hl 1 rfl) ?_
      obtain ⟨hi11, hw⟩ := hw
      refine x_iald E hh (E.hn 46 0 (by decide)) ly_46 hi11 dX8_image_55 ?_
      obtain ⟨hi12, hw⟩ := hw
      refine x_iast E hh (E.hn 63 0 (by decide)) ly_63 hi12 dX8_image_56 (fun S12 H locs e12 hh => ?_)
      have hw := hw S12 e12
      refine lv_aload_n hx hb dX8_image_57 rfl (lv_at hl 0 rfl) ?_
      refine g_40_49 E hh tb783 (E.hn 40 0 (by decide)) dX8_image_58 ?_
      refine lv_iconst (v := 4) hx hb dX8_image_61 (by decide) ?_
      refine lv_iload_n hx hb dX8_image_62 rfl (lv_at hl 1 rfl) ?_
      refine lv_iadd hx hb dX8_image_63 ?_
      refine lv_aload_n hx hb dX8_image_64 rfl (lv_at hl 0 rfl) ?_
      refine g_40_12 E hh tb746 (E.hn 40 0 (by decide)) dX8_image_65 ?_
      refine lv_iload_n hx hb dX8_image_68 rfl (lv_at hl 1 rfl) ?_
      obtain ⟨hi13, hw⟩ := hw
      refine x_iald E hh (E.hn 47 0 (by decide)) ly_47 hi13 dX8_image_69 ?_
      obtain ⟨hi14, hw⟩ := hw
      refine x_iast E hh (E.hn 63 0 (by decide)) ly_63 hi14 dX8_image_70 (fun S14 H locs e14 hh => ?_)
      have hw := hw S14 e14
      refine lv_aload_n hx hb dX8_image_71 rfl (lv_at hl 0 rfl) ?_
      refine g_40_49 E hh tb783 (E.hn 40 0 (by decide)) dX8_image_72 ?_
      refine lv_bipush (v := 8) hx hb dX8_image_75 (by decide) ?_
      refine lv_iload_n hx hb dX8_image_77 rfl (lv_at hl 1 rfl) ?_
      refine lv_iadd hx hb dX8_image_78 ?_
      refine lv_aload_n hx hb dX8_image_79 rfl (lv_at hl 0 rfl) ?_
      refine g_40_13 E hh tb747 (E.hn 40 0 (by decide)) dX8_image_80 ?_
      refine lv_iload_n hx hb dX8_image_83 rfl (lv_at hl 1 rfl) ?_
      obtain ⟨hi15, hw⟩ := hw
      refine x_iald E hh (E.hn 48 0 (by decide)) ly_48 hi15 dX8_image_84 ?_
      obtain ⟨hi16, hw⟩ := hw
      refine x_iast E hh (E.hn 63 0 (by decide)) ly_63 hi16 dX8_image_85 (fun S16 H locs e16 hh => ?_)
      have hw := hw S16 e16
      refine lv_aload_n hx hb dX8_image_86 rfl (lv_at hl 0 rfl) ?_
      refine g_40_49 E hh tb783 (E.hn 40 0 (by decide)) dX8_image_87 ?_
      refine lv_bipush (v := 12) hx hb dX8_image_90 (by decide) ?_
      refine lv_iload_n hx hb dX8_image_92 rfl (lv_at hl 1 rfl) ?_
      refine lv_iadd hx hb dX8_image_93 ?_
      refine lv_aload_n hx hb dX8_image_94 rfl (lv_at hl 0 rfl) ?_
      refine g_40_15 E hh tb749 (E.hn 40 0 (by decide)) dX8_image_95 ?_
      refine lv_iload_n hx hb dX8_image_98 rfl (lv_at hl 1 rfl) ?_
      obtain ⟨hi17, hw⟩ := hw
      refine x_iald E hh (E.hn 50 0 (by decide)) ly_50 hi17 dX8_image_99 ?_
      obtain ⟨hi18, hw⟩ := hw
      refine x_iast E hh (E.hn 63 0 (by decide)) ly_63 hi18 dX8_image_100 (fun S18 H locs e18 hh => ?_)
      have hw := hw S18 e18
      refine lv_iinc (k := 1) (v := x1 + 1) (lv' := [(1, .int (x1 + 1)), (0, .ref (ad 40 0))]) hx hb dX8_image_101 hl rfl rfl (by decide) rfl (fun ls hl => ?_)
      refine lv_goto (tgt := 40) hx hb dX8_image_104 (by decide) ?_
      exact ih (x1 + 1) S18 _ _ _ hw hh (lv_sub hl [1, 0] rfl)
def wbX8_image_2 (K : Int32 → St → Prop) : Nat → Int32 → St → Prop
  | 0, _, _ => False
  | n + 1, x1, S => if 16 ≤ x1 then (∃ k, wbX8_image_40 K k 0 S) else ((vp_in x1 16 ∧ (vp_in x1 16 ∧ ∀ S3, S3 = su S 61 0 x1.toNatClampNeg (S.1 44 0 x1.toNatClampNeg) → (vp_in x1 16 ∧ (vp_in x1 16 ∧ ∀ S5, S5 = su S3 62 0 x1.toNatClampNeg (S3.1 45 0 x1.toNatClampNeg) → wbX8_image_2 K n (x1 + 1) S5)))))
set_option maxRecDepth 4000 in
theorem bX8_image_2 {p : Program} {l : Launch} {e : Env} {R : Room} {s : State} {m : MethodId} {args : Array Value} {below : List Frame} {meth : Method} {c : Code} {D : va_G} {ad : Nat → Nat → Nat} {cs : Nat → ClassId} {P : Nat → Nat → Prop} {sz tU : Nat} {adK adV : Nat → Nat} {K : Int32 → St → Prop} (E : Ex p s m args meth c R RX8 cX8_image 2 (some .int) 1 60 D ad cs P (wA ad P) tU adK adV cnM) : ∀ (n : Nat) (x1 : Int32) (S : St) (H : Heap) (locs : List Loc) (ls : Array Slot), wbX8_image_2 K n x1 S → wH D ad cs P (wA ad P) s.heap sz S H locs → lv_has ls 2 [(0, .ref (ad 40 0)), (1, .int x1)] → W p l e R s m args below meth c H locs 0 0 (MQ below (va_Qi K (QX D ad cs P sz) (wA ad P)) args s 0 0 (wA ad P)) (F0 m 2 ls []) := by
  have hx := E.hx
  have hb := E.hb
  intro n
  induction n with
  | zero => intro x1 S H locs ls hw hh hl; exact hw.elim
  | succ n ih =>
    intro x1 S H locs ls hw hh hl
    refine lv_iload_n hx hb dX8_image_2 rfl (lv_at hl 1 rfl) ?_
    refine lv_bipush (v := 16) hx hb dX8_image_3 (by decide) ?_
    refine lv_icmp_ge (tgt := 38) hx hb dX8_image_5 (by decide) (fun c1 => ?_) (fun c1 => ?_)
    · have hw := ifT hw c1
      refine lv_iconst (v := 0) hx hb dX8_image_38 (by decide) ?_
      refine lv_istore_n (lv' := [(1, .int 0), (0, .ref (ad 40 0))]) hx hb dX8_image_39 rfl hl (by decide) rfl (fun ls hl => ?_)
      obtain ⟨k, hw⟩ := hw
      exact bX8_image_40 E k 0 S _ _ _ hw hh (lv_sub hl [1, 0] rfl)
    · have hw := ifF hw c1
      refine lv_aload_n hx hb dX8_image_8 rfl (lv_at hl 0 rfl) ?_
      refine g_40_47 E hh tb781 (E.hn 40 0 (by decide)) dX8_image_9 ?_
      refine lv_iload_n hx hb dX8_image_12 rfl (lv_at hl 1 rfl) ?_
      refine lv_aload_n hx hb dX8_image_13 rfl (lv_at hl 0 rfl) ?_
      refine g_40_9 E hh tb743 (E.hn 40 0 (by decide)) dX8_image_14 ?_
      refine lv_iload_n hx hb dX8_image_17 rfl (lv_at hl 1 rfl) ?_
      obtain ⟨hi2, hw⟩ := hw
      refine x_iald E hh (E.hn 44 0 (by decide)) ly_44 hi2 dX8_image_18 ?_
      obtain ⟨hi3, hw⟩ := hw
      refine x_iast E hh (E.hn 61 0 (by decide)) ly_61 hi3 dX8_image_19 (fun S3 H locs e3 hh => ?_)
      have hw := hw S3 e3
      refine lv_aload_n hx hb dX8_image_20 rfl (lv_at hl 0 rfl) ?_
      refine g_40_48 E hh tb782 (E.hn 40 0 (by decide)) dX8_image_21 ?_
      refine lv_iload_n hx hb dX8_image_24 rfl (lv_at hl 1 rfl) ?_
      refine lv_aload_n hx hb dX8_image_25 rfl (lv_at hl 0 rfl) ?_
      refine g_40_10 E hh tb744 (E.hn 40 0 (by decide)) dX8_image_26 ?_
      refine lv_iload_n hx hb dX8_image_29 rfl (lv_at hl 1 rfl) ?_
      obtain ⟨hi4, hw⟩ := hw
      refine x_iald E hh (E.hn 45 0 (by decide)) ly_45 hi4 dX8_image_30 ?_
      obtain ⟨hi5, hw⟩ := hw
      refine x_iast E hh (E.hn 62 0 (by decide)) ly_62 hi5 dX8_image_31 (fun S5 H locs e5 hh => ?_)
      have hw := hw S5 e5
      refine lv_iinc (k := 1) (v := x1 + 1) (lv' := [(1, .int (x1 + 1)), (0, .ref (ad 40 0))]) hx hb dX8_image_32 hl rfl rfl (by decide) rfl (fun ls hl => ?_)
      refine lv_goto (tgt := 2) hx hb dX8_image_35 (by decide) ?_
      exact ih (x1 + 1) S5 _ _ _ hw hh (lv_sub hl [1, 0] rfl)
def wpX8_image (S : St) (K : Int32 → St → Prop) : Prop := ∃ k, wbX8_image_2 K k 0 S
set_option maxRecDepth 4000 in
theorem bX8_image {p : Program} {l : Launch} {e : Env} {R : Room} {s : State} {m : MethodId} {args : Array Value} {below : List Frame} {meth : Method} {c : Code} {D : va_G} {ad : Nat → Nat → Nat} {cs : Nat → ClassId} {P : Nat → Nat → Prop} {sz tU : Nat} {adK adV : Nat → Nat} {K : Int32 → St → Prop} {S : St} {H : Heap} {locs : List Loc} {ls : Array Slot} (E : Ex p s m args meth c R RX8 cX8_image 2 (some .int) 1 60 D ad cs P (wA ad P) tU adK adV cnM) (hw : wpX8_image S K) (hh : wH D ad cs P (wA ad P) s.heap sz S H locs) (hl : lv_has ls 2 [(0, .ref (ad 40 0))]) : W p l e R s m args below meth c H locs 0 0 (MQ below (va_Qi K (QX D ad cs P sz) (wA ad P)) args s 0 0 (wA ad P)) (F0 m 0 ls []) := by
  have hx := E.hx
  have hb := E.hb
  refine lv_iconst (v := 0) hx hb dX8_image_0 (by decide) ?_
  refine lv_istore_n (lv' := [(1, .int 0), (0, .ref (ad 40 0))]) hx hb dX8_image_1 rfl hl (by decide) rfl (fun ls hl => ?_)
  obtain ⟨k, hw⟩ := hw
  exact bX8_image_2 E k 0 S _ _ _ hw hh (lv_sub hl [1, 0] rfl)
theorem kX8_image : kI yX8_image cX8_image 2 (some .int) 0 := ⟨tb1166, tb1167, tb15, tb1168, by decide, by decide, by decide +kernel⟩
theorem mX8_image {l : Launch} {D : va_G} {ad : Nat → Nat → Nat} {cs : Nat → ClassId} {P : Nat → Nat → Prop} {sz tU : Nat} {adK adV : Nat → Nat} {S : St} {K : Int32 → St → Prop} (hI : wI ad P) (hn : ∀ kd i, i < cnM kd → P kd i) (hw : wpX8_image S K) : MI l yX8_image cX8_image 2 (some .int) 1 60 D ad cs P sz tU adK adV [.ref (ad 40 0)] S K :=
  Met_of (by decide) (Nat.le_of_ble_eq_true rfl) hI hn (fun p e R s m args below meth c ls E hl hh => bX8_image E  hw hh (lv_sub hl [0] rfl))
def wbX8_back_51 (K : Int32 → St → Prop) : Nat → Int32 → St → Prop
  | 0, _, _ => False
  | n + 1, x1, S => if 4 ≤ x1 then ((∀ S8, S8 = su S 40 0 7 (S.1 40 0 50) → (∀ S9, S9 = su S8 40 0 8 (S8.1 40 0 51) → (∀ S10, S10 = su S9 40 0 16 (S9.1 40 0 52) → (∀ S11, S11 = su S10 40 0 4 (S10.1 40 0 53) → K (S11.1 40 0 7) S11))))) else ((vp_in x1 16 ∧ (vp_in x1 4 ∧ ∀ S13, S13 = su S 46 0 x1.toNatClampNeg (S.1 63 0 x1.toNatClampNeg) → (vp_in (4 + x1) 16 ∧ (vp_in x1 4 ∧ ∀ S15, S15 = su S13 47 0 x1.toNatClampNeg (S13.1 63 0 (4 + x1).toNatClampNeg) → (vp_in (8 + x1) 16 ∧ (vp_in x1 4 ∧ ∀ S17, S17 = su S15 48 0 x1.toNatClampNeg (S15.1 63 0 (8 + x1).toNatClampNeg) → (vp_in (12 + x1) 16 ∧ (vp_in x1 4 ∧ ∀ S19, S19 = su S17 50 0 x1.toNatClampNeg (S17.1 63 0 (12 + x1).toNatClampNeg) → wbX8_back_51 K n (x1 + 1) S19)))))))))
set_option maxRecDepth 4000 in
theorem bX8_back_51 {p : Program} {l : Launch} {e : Env} {R : Room} {s : State} {m : MethodId} {args : Array Value} {below : List Frame} {meth : Method} {c : Code} {D : va_G} {ad : Nat → Nat → Nat} {cs : Nat → ClassId} {P : Nat → Nat → Prop} {sz tU : Nat} {adK adV : Nat → Nat} {K : Int32 → St → Prop} (E : Ex p s m args meth c R RX8 cX8_back 2 (some .int) 1 60 D ad cs P (wA ad P) tU adK adV cnM) : ∀ (n : Nat) (x1 : Int32) (S : St) (H : Heap) (locs : List Loc) (ls : Array Slot), wbX8_back_51 K n x1 S → wH D ad cs P (wA ad P) s.heap sz S H locs → lv_has ls 2 [(0, .ref (ad 40 0)), (1, .int x1)] → W p l e R s m args below meth c H locs 0 0 (MQ below (va_Qi K (QX D ad cs P sz) (wA ad P)) args s 0 0 (wA ad P)) (F0 m 51 ls []) := by
  have hx := E.hx
  have hb := E.hb
  intro n
  induction n with
  | zero => intro x1 S H locs ls hw hh hl; exact hw.elim
  | succ n ih =>
    intro x1 S H locs ls hw hh hl
    refine lv_iload_n hx hb dX8_back_51 rfl (lv_at hl 1 rfl) ?_
    refine lv_iconst (v := 4) hx hb dX8_back_52 (by decide) ?_
    refine lv_icmp_ge (tgt := 118) hx hb dX8_back_53 (by decide) (fun c7 => ?_) (fun c7 => ?_)
    · have hw := ifT hw c7
      refine lv_aload_n hx hb dX8_back_118 rfl (lv_at hl 0 rfl) ?_
      refine lv_aload_n hx hb dX8_back_119 rfl (lv_at hl 0 rfl) ?_
      refine g_40_50 E hh tb784 (E.hn 40 0 (by decide)) dX8_back_120 ?_
      refine p_40_7 E hh tb741 (E.hn 40 0 (by decide)) dX8_back_123 (fun S8 H locs e8 hh => ?_)
      have hw := hw S8 e8
      refine lv_aload_n hx hb dX8_back_126 rfl (lv_at hl 0 rfl) ?_
      refine lv_aload_n hx hb dX8_back_127 rfl (lv_at hl 0 rfl) ?_
      refine g_40_51 E hh tb785 (E.hn 40 0 (by decide)) dX8_back_128 ?_
      refine p_40_8 E hh tb742 (E.hn 40 0 (by decide)) dX8_back_131 (fun S9 H locs e9 hh => ?_)
      have hw := hw S9 e9
      refine lv_aload_n hx hb dX8_back_134 rfl (lv_at hl 0 rfl) ?_
      refine lv_aload_n hx hb dX8_back_135 rfl (lv_at hl 0 rfl) ?_
      refine g_40_52 E hh tb786 (E.hn 40 0 (by decide)) dX8_back_136 ?_
      refine p_40_16 E hh tb750 (E.hn 40 0 (by decide)) dX8_back_139 (fun S10 H locs e10 hh => ?_)
      have hw := hw S10 e10
      refine lv_aload_n hx hb dX8_back_142 rfl (lv_at hl 0 rfl) ?_
      refine lv_aload_n hx hb dX8_back_143 rfl (lv_at hl 0 rfl) ?_
      refine g_40_53 E hh tb787 (E.hn 40 0 (by decide)) dX8_back_144 ?_
      refine p_40_4 E hh tb738 (E.hn 40 0 (by decide)) dX8_back_147 (fun S11 H locs e11 hh => ?_)
      have hw := hw S11 e11
      refine lv_aload_n hx hb dX8_back_150 rfl (lv_at hl 0 rfl) ?_
      refine g_40_7 E hh tb741 (E.hn 40 0 (by decide)) dX8_back_151 ?_
      exact x_iret E hh hw dX8_back_154
    · have hw := ifF hw c7
      refine lv_aload_n hx hb dX8_back_56 rfl (lv_at hl 0 rfl) ?_
      refine g_40_11 E hh tb745 (E.hn 40 0 (by decide)) dX8_back_57 ?_
      refine lv_iload_n hx hb dX8_back_60 rfl (lv_at hl 1 rfl) ?_
      refine lv_aload_n hx hb dX8_back_61 rfl (lv_at hl 0 rfl) ?_
      refine g_40_49 E hh tb783 (E.hn 40 0 (by decide)) dX8_back_62 ?_
      refine lv_iload_n hx hb dX8_back_65 rfl (lv_at hl 1 rfl) ?_
      obtain ⟨hi12, hw⟩ := hw
      refine x_iald E hh (E.hn 63 0 (by decide)) ly_63 hi12 dX8_back_66 ?_
      obtain ⟨hi13, hw⟩ := hw
      refine x_iast E hh (E.hn 46 0 (by decide)) ly_46 hi13 dX8_back_67 (fun S13 H locs e13 hh => ?_)
      have hw := hw S13 e13
      refine lv_aload_n hx hb dX8_back_68 rfl (lv_at hl 0 rfl) ?_
      refine g_40_12 E hh tb746 (E.hn 40 0 (by decide)) dX8_back_69 ?_
      refine lv_iload_n hx hb dX8_back_72 rfl (lv_at hl 1 rfl) ?_
      refine lv_aload_n hx hb dX8_back_73 rfl (lv_at hl 0 rfl) ?_
      refine g_40_49 E hh tb783 (E.hn 40 0 (by decide)) dX8_back_74 ?_
      refine lv_iconst (v := 4) hx hb dX8_back_77 (by decide) ?_
      refine lv_iload_n hx hb dX8_back_78 rfl (lv_at hl 1 rfl) ?_
      refine lv_iadd hx hb dX8_back_79 ?_
      obtain ⟨hi14, hw⟩ := hw
      refine x_iald E hh (E.hn 63 0 (by decide)) ly_63 hi14 dX8_back_80 ?_
      obtain ⟨hi15, hw⟩ := hw
      refine x_iast E hh (E.hn 47 0 (by decide)) ly_47 hi15 dX8_back_81 (fun S15 H locs e15 hh => ?_)
      have hw := hw S15 e15
      refine lv_aload_n hx hb dX8_back_82 rfl (lv_at hl 0 rfl) ?_
      refine g_40_13 E hh tb747 (E.hn 40 0 (by decide)) dX8_back_83 ?_
      refine lv_iload_n hx hb dX8_back_86 rfl (lv_at hl 1 rfl) ?_
      refine lv_aload_n hx hb dX8_back_87 rfl (lv_at hl 0 rfl) ?_
      refine g_40_49 E hh tb783 (E.hn 40 0 (by decide)) dX8_back_88 ?_
      refine lv_bipush (v := 8) hx hb dX8_back_91 (by decide) ?_
      refine lv_iload_n hx hb dX8_back_93 rfl (lv_at hl 1 rfl) ?_
      refine lv_iadd hx hb dX8_back_94 ?_
      obtain ⟨hi16, hw⟩ := hw
      refine x_iald E hh (E.hn 63 0 (by decide)) ly_63 hi16 dX8_back_95 ?_
      obtain ⟨hi17, hw⟩ := hw
      refine x_iast E hh (E.hn 48 0 (by decide)) ly_48 hi17 dX8_back_96 (fun S17 H locs e17 hh => ?_)
      have hw := hw S17 e17
      refine lv_aload_n hx hb dX8_back_97 rfl (lv_at hl 0 rfl) ?_
      refine g_40_15 E hh tb749 (E.hn 40 0 (by decide)) dX8_back_98 ?_
      refine lv_iload_n hx hb dX8_back_101 rfl (lv_at hl 1 rfl) ?_
      refine lv_aload_n hx hb dX8_back_102 rfl (lv_at hl 0 rfl) ?_
      refine g_40_49 E hh tb783 (E.hn 40 0 (by decide)) dX8_back_103 ?_
      refine lv_bipush (v := 12) hx hb dX8_back_106 (by decide) ?_
      refine lv_iload_n hx hb dX8_back_108 rfl (lv_at hl 1 rfl) ?_
      refine lv_iadd hx hb dX8_back_109 ?_
      obtain ⟨hi18, hw⟩ := hw
      refine x_iald E hh (E.hn 63 0 (by decide)) ly_63 hi18 dX8_back_110 ?_
      obtain ⟨hi19, hw⟩ := hw
      refine x_iast E hh (E.hn 50 0 (by decide)) ly_50 hi19 dX8_back_111 (fun S19 H locs e19 hh => ?_)
      have hw := hw S19 e19
      refine lv_iinc (k := 1) (v := x1 + 1) (lv' := [(1, .int (x1 + 1)), (0, .ref (ad 40 0))]) hx hb dX8_back_112 hl rfl rfl (by decide) rfl (fun ls hl => ?_)
      refine lv_goto (tgt := 51) hx hb dX8_back_115 (by decide) ?_
      exact ih (x1 + 1) S19 _ _ _ hw hh (lv_sub hl [1, 0] rfl)
def wbX8_back_13 (K : Int32 → St → Prop) : Nat → Int32 → St → Prop
  | 0, _, _ => False
  | n + 1, x1, S => if 16 ≤ x1 then (∃ k, wbX8_back_51 K k 0 S) else ((vp_in x1 16 ∧ (vp_in x1 16 ∧ ∀ S4, S4 = su S 44 0 x1.toNatClampNeg (S.1 61 0 x1.toNatClampNeg) → (vp_in x1 16 ∧ (vp_in x1 16 ∧ ∀ S6, S6 = su S4 45 0 x1.toNatClampNeg (S4.1 62 0 x1.toNatClampNeg) → wbX8_back_13 K n (x1 + 1) S6)))))
set_option maxRecDepth 4000 in
theorem bX8_back_13 {p : Program} {l : Launch} {e : Env} {R : Room} {s : State} {m : MethodId} {args : Array Value} {below : List Frame} {meth : Method} {c : Code} {D : va_G} {ad : Nat → Nat → Nat} {cs : Nat → ClassId} {P : Nat → Nat → Prop} {sz tU : Nat} {adK adV : Nat → Nat} {K : Int32 → St → Prop} (E : Ex p s m args meth c R RX8 cX8_back 2 (some .int) 1 60 D ad cs P (wA ad P) tU adK adV cnM) : ∀ (n : Nat) (x1 : Int32) (S : St) (H : Heap) (locs : List Loc) (ls : Array Slot), wbX8_back_13 K n x1 S → wH D ad cs P (wA ad P) s.heap sz S H locs → lv_has ls 2 [(0, .ref (ad 40 0)), (1, .int x1)] → W p l e R s m args below meth c H locs 0 0 (MQ below (va_Qi K (QX D ad cs P sz) (wA ad P)) args s 0 0 (wA ad P)) (F0 m 13 ls []) := by
  have hx := E.hx
  have hb := E.hb
  intro n
  induction n with
  | zero => intro x1 S H locs ls hw hh hl; exact hw.elim
  | succ n ih =>
    intro x1 S H locs ls hw hh hl
    refine lv_iload_n hx hb dX8_back_13 rfl (lv_at hl 1 rfl) ?_
    refine lv_bipush (v := 16) hx hb dX8_back_14 (by decide) ?_
    refine lv_icmp_ge (tgt := 49) hx hb dX8_back_16 (by decide) (fun c2 => ?_) (fun c2 => ?_)
    · have hw := ifT hw c2
      refine lv_iconst (v := 0) hx hb dX8_back_49 (by decide) ?_
      refine lv_istore_n (lv' := [(1, .int 0), (0, .ref (ad 40 0))]) hx hb dX8_back_50 rfl hl (by decide) rfl (fun ls hl => ?_)
      obtain ⟨k, hw⟩ := hw
      exact bX8_back_51 E k 0 S _ _ _ hw hh (lv_sub hl [1, 0] rfl)
    · have hw := ifF hw c2
      refine lv_aload_n hx hb dX8_back_19 rfl (lv_at hl 0 rfl) ?_
      refine g_40_9 E hh tb743 (E.hn 40 0 (by decide)) dX8_back_20 ?_
      refine lv_iload_n hx hb dX8_back_23 rfl (lv_at hl 1 rfl) ?_
      refine lv_aload_n hx hb dX8_back_24 rfl (lv_at hl 0 rfl) ?_
      refine g_40_47 E hh tb781 (E.hn 40 0 (by decide)) dX8_back_25 ?_
      refine lv_iload_n hx hb dX8_back_28 rfl (lv_at hl 1 rfl) ?_
      obtain ⟨hi3, hw⟩ := hw
      refine x_iald E hh (E.hn 61 0 (by decide)) ly_61 hi3 dX8_back_29 ?_
      obtain ⟨hi4, hw⟩ := hw
      refine x_iast E hh (E.hn 44 0 (by decide)) ly_44 hi4 dX8_back_30 (fun S4 H locs e4 hh => ?_)
      have hw := hw S4 e4
      refine lv_aload_n hx hb dX8_back_31 rfl (lv_at hl 0 rfl) ?_
      refine g_40_10 E hh tb744 (E.hn 40 0 (by decide)) dX8_back_32 ?_
      refine lv_iload_n hx hb dX8_back_35 rfl (lv_at hl 1 rfl) ?_
      refine lv_aload_n hx hb dX8_back_36 rfl (lv_at hl 0 rfl) ?_
      refine g_40_48 E hh tb782 (E.hn 40 0 (by decide)) dX8_back_37 ?_
      refine lv_iload_n hx hb dX8_back_40 rfl (lv_at hl 1 rfl) ?_
      obtain ⟨hi5, hw⟩ := hw
      refine x_iald E hh (E.hn 62 0 (by decide)) ly_62 hi5 dX8_back_41 ?_
      obtain ⟨hi6, hw⟩ := hw
      refine x_iast E hh (E.hn 45 0 (by decide)) ly_45 hi6 dX8_back_42 (fun S6 H locs e6 hh => ?_)
      have hw := hw S6 e6
      refine lv_iinc (k := 1) (v := x1 + 1) (lv' := [(1, .int (x1 + 1)), (0, .ref (ad 40 0))]) hx hb dX8_back_43 hl rfl rfl (by decide) rfl (fun ls hl => ?_)
      refine lv_goto (tgt := 13) hx hb dX8_back_46 (by decide) ?_
      exact ih (x1 + 1) S6 _ _ _ hw hh (lv_sub hl [1, 0] rfl)
def wpX8_back (S : St) (K : Int32 → St → Prop) : Prop := if (S.1 40 0 50) = (-1) then (K (-3) S) else (∃ k, wbX8_back_13 K k 0 S)
set_option maxRecDepth 4000 in
theorem bX8_back {p : Program} {l : Launch} {e : Env} {R : Room} {s : State} {m : MethodId} {args : Array Value} {below : List Frame} {meth : Method} {c : Code} {D : va_G} {ad : Nat → Nat → Nat} {cs : Nat → ClassId} {P : Nat → Nat → Prop} {sz tU : Nat} {adK adV : Nat → Nat} {K : Int32 → St → Prop} {S : St} {H : Heap} {locs : List Loc} {ls : Array Slot} (E : Ex p s m args meth c R RX8 cX8_back 2 (some .int) 1 60 D ad cs P (wA ad P) tU adK adV cnM) (hw : wpX8_back S K) (hh : wH D ad cs P (wA ad P) s.heap sz S H locs) (hl : lv_has ls 2 [(0, .ref (ad 40 0))]) : W p l e R s m args below meth c H locs 0 0 (MQ below (va_Qi K (QX D ad cs P sz) (wA ad P)) args s 0 0 (wA ad P)) (F0 m 0 ls []) := by
  have hx := E.hx
  have hb := E.hb
  refine lv_aload_n hx hb dX8_back_0 rfl (lv_at hl 0 rfl) ?_
  refine g_40_50 E hh tb784 (E.hn 40 0 (by decide)) dX8_back_1 ?_
  refine lv_iconst (v := (-1)) hx hb dX8_back_4 (by decide) ?_
  refine lv_icmp_ne (tgt := 11) hx hb dX8_back_5 (by decide) (fun c1 => ?_) (fun c1 => ?_)
  · have hw := ifF hw c1
    refine lv_iconst (v := 0) hx hb dX8_back_11 (by decide) ?_
    refine lv_istore_n (lv' := [(1, .int 0), (0, .ref (ad 40 0))]) hx hb dX8_back_12 rfl hl (by decide) rfl (fun ls hl => ?_)
    obtain ⟨k, hw⟩ := hw
    exact bX8_back_13 E k 0 S _ _ _ hw hh (lv_sub hl [1, 0] rfl)
  · have hw := ifT hw c1
    refine lv_bipush (v := (-3)) hx hb dX8_back_8 (by decide) ?_
    exact x_iret E hh hw dX8_back_10
theorem kX8_back : kI yX8_back cX8_back 2 (some .int) 0 := ⟨tb1170, tb1171, tb15, tb1172, by decide, by decide, by decide +kernel⟩
theorem mX8_back {l : Launch} {D : va_G} {ad : Nat → Nat → Nat} {cs : Nat → ClassId} {P : Nat → Nat → Prop} {sz tU : Nat} {adK adV : Nat → Nat} {S : St} {K : Int32 → St → Prop} (hI : wI ad P) (hn : ∀ kd i, i < cnM kd → P kd i) (hw : wpX8_back S K) : MI l yX8_back cX8_back 2 (some .int) 1 60 D ad cs P sz tU adK adV [.ref (ad 40 0)] S K :=
  Met_of (by decide) (Nat.le_of_ble_eq_true rfl) hI hn (fun p e R s m args below meth c ls E hl hh => bX8_back E  hw hh (lv_sub hl [0] rfl))
def wbX8_count_48 (R24 : Int32 → Int32 → St → Prop) (K : Int32 → St → Prop) (x3 : Int32) (v0 : Int32) (v1 : Int32) (S : St) : Prop := R24 (v1 + v0) (x3 + 1) S
set_option maxRecDepth 4000 in
theorem bX8_count_48 {p : Program} {l : Launch} {e : Env} {R : Room} {s : State} {m : MethodId} {args : Array Value} {below : List Frame} {meth : Method} {c : Code} {D : va_G} {ad : Nat → Nat → Nat} {cs : Nat → ClassId} {P : Nat → Nat → Prop} {sz tU : Nat} {adK adV : Nat → Nat} {R24 : Int32 → Int32 → St → Prop} {K : Int32 → St → Prop} {x3 : Int32} {v0 : Int32} {v1 : Int32} {S : St} {H : Heap} {locs : List Loc} {ls : Array Slot} (E : Ex p s m args meth c R RX8 cX8_count 4 (some .int) 2 85 D ad cs P (wA ad P) tU adK adV cnM) (hR24 : ∀ (z2 : Int32) (z3 : Int32) (S : St) (H : Heap) (locs : List Loc) (ls : Array Slot), R24 z2 z3 S → wH D ad cs P (wA ad P) s.heap sz S H locs → lv_has ls 4 [(0, .ref (ad 40 0)), (2, .int z2), (3, .int z3)] → W p l e R s m args below meth c H locs 0 0 (MQ below (va_Qi K (QX D ad cs P sz) (wA ad P)) args s 0 0 (wA ad P)) (F0 m 24 ls [])) (hw : wbX8_count_48 R24 K x3 v0 v1 S) (hh : wH D ad cs P (wA ad P) s.heap sz S H locs) (hl : lv_has ls 4 [(0, .ref (ad 40 0)), (3, .int x3)]) : W p l e R s m args below meth c H locs 0 0 (MQ below (va_Qi K (QX D ad cs P sz) (wA ad P)) args s 0 0 (wA ad P)) (F0 m 48 ls [.int v0, .int v1]) := by
  have hx := E.hx
  have hb := E.hb
  refine lv_iadd hx hb dX8_count_48 ?_
  refine lv_istore_n (lv' := [(2, .int (v1 + v0)), (0, .ref (ad 40 0)), (3, .int x3)]) hx hb dX8_count_49 rfl hl (by decide) rfl (fun ls hl => ?_)
  refine lv_iinc (k := 2) (v := x3 + 1) (lv' := [(3, .int (x3 + 1)), (2, .int (v1 + v0)), (0, .ref (ad 40 0))]) hx hb dX8_count_50 hl rfl rfl (by decide) rfl (fun ls hl => ?_)
  refine lv_goto (tgt := 24) hx hb dX8_count_53 (by decide) ?_
  exact hR24 (v1 + v0) (x3 + 1) S _ _ _ hw hh (lv_sub hl [2, 1, 0] rfl)
def wbX8_count_24 (K : Int32 → St → Prop) : Nat → Int32 → Int32 → St → Prop
  | 0, _, _, _ => False
  | n + 1, x2, x3, S => if (S.1 40 0 7) ≤ x3 then (K x2 S) else ((vp_in x3 4 ∧ if (S.1 47 0 x3.toNatClampNeg) = (-1) then (wbX8_count_48 (fun yx2 yx3 S9 => wbX8_count_24 K n yx2 yx3 S9) K x3 0 x2 S) else (wbX8_count_48 (fun yx2 yx3 S9 => wbX8_count_24 K n yx2 yx3 S9) K x3 1 x2 S)))
set_option maxRecDepth 4000 in
theorem bX8_count_24 {p : Program} {l : Launch} {e : Env} {R : Room} {s : State} {m : MethodId} {args : Array Value} {below : List Frame} {meth : Method} {c : Code} {D : va_G} {ad : Nat → Nat → Nat} {cs : Nat → ClassId} {P : Nat → Nat → Prop} {sz tU : Nat} {adK adV : Nat → Nat} {K : Int32 → St → Prop} (E : Ex p s m args meth c R RX8 cX8_count 4 (some .int) 2 85 D ad cs P (wA ad P) tU adK adV cnM) : ∀ (n : Nat) (x2 : Int32) (x3 : Int32) (S : St) (H : Heap) (locs : List Loc) (ls : Array Slot), wbX8_count_24 K n x2 x3 S → wH D ad cs P (wA ad P) s.heap sz S H locs → lv_has ls 4 [(0, .ref (ad 40 0)), (2, .int x2), (3, .int x3)] → W p l e R s m args below meth c H locs 0 0 (MQ below (va_Qi K (QX D ad cs P sz) (wA ad P)) args s 0 0 (wA ad P)) (F0 m 24 ls []) := by
  have hx := E.hx
  have hb := E.hb
  intro n
  induction n with
  | zero => intro x2 x3 S H locs ls hw hh hl; exact hw.elim
  | succ n ih =>
    intro x2 x3 S H locs ls hw hh hl
    refine lv_iload_n hx hb dX8_count_24 rfl (lv_at hl 2 rfl) ?_
    refine lv_aload_n hx hb dX8_count_25 rfl (lv_at hl 0 rfl) ?_
    refine g_40_7 E hh tb741 (E.hn 40 0 (by decide)) dX8_count_26 ?_
    refine lv_icmp_ge (tgt := 56) hx hb dX8_count_29 (by decide) (fun c9 => ?_) (fun c9 => ?_)
    · have hw := ifT hw c9
      refine lv_iload_n hx hb dX8_count_56 rfl (lv_at hl 1 rfl) ?_
      exact x_iret E hh hw dX8_count_57
    · have hw := ifF hw c9
      refine lv_iload_n hx hb dX8_count_32 rfl (lv_at hl 1 rfl) ?_
      refine lv_aload_n hx hb dX8_count_33 rfl (lv_at hl 0 rfl) ?_
      refine g_40_12 E hh tb746 (E.hn 40 0 (by decide)) dX8_count_34 ?_
      refine lv_iload_n hx hb dX8_count_37 rfl (lv_at hl 2 rfl) ?_
      obtain ⟨hi10, hw⟩ := hw
      refine x_iald E hh (E.hn 47 0 (by decide)) ly_47 hi10 dX8_count_38 ?_
      refine lv_iconst (v := (-1)) hx hb dX8_count_39 (by decide) ?_
      refine lv_icmp_ne (tgt := 47) hx hb dX8_count_40 (by decide) (fun c11 => ?_) (fun c11 => ?_)
      · have hw := ifF hw c11
        refine lv_iconst (v := 1) hx hb dX8_count_47 (by decide) ?_
        exact bX8_count_48 E ih hw hh (lv_sub hl [0, 2] rfl)
      · have hw := ifT hw c11
        refine lv_iconst (v := 0) hx hb dX8_count_43 (by decide) ?_
        refine lv_goto (tgt := 48) hx hb dX8_count_44 (by decide) ?_
        exact bX8_count_48 E ih hw hh (lv_sub hl [0, 2] rfl)
def wpX8_count (x1 : Int32) (S : St) (K : Int32 → St → Prop) : Prop := wpX8_in x1.toInt64 0 6 S (fun r1 S1 => if r1 = 0 then (K (-2) S1) else (if x1 = 2 then (∃ k, wbX8_count_24 K k 0 0 S1) else (if x1 = 0 then (K (S1.1 40 0 7) S1) else (if x1 = 1 then (K (S1.1 40 0 8) S1) else (if x1 = 3 then (K (S1.1 40 0 16) S1) else (if x1 = 4 then (K (S1.1 40 0 3) S1) else (if x1 = 5 then (K (S1.1 40 0 6) S1) else (K (S1.1 40 0 4) S1))))))))
set_option maxRecDepth 4000 in
theorem bX8_count {p : Program} {l : Launch} {e : Env} {R : Room} {s : State} {m : MethodId} {args : Array Value} {below : List Frame} {meth : Method} {c : Code} {D : va_G} {ad : Nat → Nat → Nat} {cs : Nat → ClassId} {P : Nat → Nat → Prop} {sz tU : Nat} {adK adV : Nat → Nat} {K : Int32 → St → Prop} {x1 : Int32} {S : St} {H : Heap} {locs : List Loc} {ls : Array Slot} (E : Ex p s m args meth c R RX8 cX8_count 4 (some .int) 2 85 D ad cs P (wA ad P) tU adK adV cnM) (hw : wpX8_count x1 S K) (hh : wH D ad cs P (wA ad P) s.heap sz S H locs) (hl : lv_has ls 4 [(0, .ref (ad 40 0)), (1, .int x1)]) : W p l e R s m args below meth c H locs 0 0 (MQ below (va_Qi K (QX D ad cs P sz) (wA ad P)) args s 0 0 (wA ad P)) (F0 m 0 ls []) := by
  have hx := E.hx
  have hb := E.hb
  refine lv_iload_n hx hb dX8_count_0 rfl (lv_at hl 1 rfl) ?_
  refine lv_i2l hx hb dX8_count_1 rfl ?_
  refine lv_lconst (v := 0) hx hb dX8_count_2 (by decide) ?_
  refine lv_ldc2 (v := 6) hx hb E.hown (E.hts _ tb944) dX8_count_3 ?_
  refine x_ci E.hA hh (x_runS E hh (mX8_in E.hI (fun _ _ h => absurd h (Nat.not_lt_zero _)) hw) kX8_in tb914 ⟨by decide, by decide⟩ rfl hl.1 rfl (Nat.le_of_ble_eq_true rfl) dX8_count_6 ⟨Nat.zero_le _, Nat.zero_le _⟩) (fun r1 S1 H locs hw hh => ?_)
  have hq1 := hw.2
  have hw := hw.1
  refine lv_if_ne (tgt := 15) hx hb dX8_count_9 (by decide) (fun c2 => ?_) (fun c2 => ?_)
  · have hw := ifF hw c2
    refine lv_iload_n hx hb dX8_count_15 rfl (lv_at hl 1 rfl) ?_
    refine lv_iconst (v := 2) hx hb dX8_count_16 (by decide) ?_
    refine lv_icmp_ne (tgt := 58) hx hb dX8_count_17 (by decide) (fun c3 => ?_) (fun c3 => ?_)
    · have hw := ifF hw c3
      refine lv_iload_n hx hb dX8_count_58 rfl (lv_at hl 1 rfl) ?_
      refine lv_if_ne (tgt := 69) hx hb dX8_count_59 (by decide) (fun c4 => ?_) (fun c4 => ?_)
      · have hw := ifF hw c4
        refine lv_iload_n hx hb dX8_count_69 rfl (lv_at hl 1 rfl) ?_
        refine lv_iconst (v := 1) hx hb dX8_count_70 (by decide) ?_
        refine lv_icmp_ne (tgt := 81) hx hb dX8_count_71 (by decide) (fun c5 => ?_) (fun c5 => ?_)
        · have hw := ifF hw c5
          refine lv_iload_n hx hb dX8_count_81 rfl (lv_at hl 1 rfl) ?_
          refine lv_iconst (v := 3) hx hb dX8_count_82 (by decide) ?_
          refine lv_icmp_ne (tgt := 93) hx hb dX8_count_83 (by decide) (fun c6 => ?_) (fun c6 => ?_)
          · have hw := ifF hw c6
            refine lv_iload_n hx hb dX8_count_93 rfl (lv_at hl 1 rfl) ?_
            refine lv_iconst (v := 4) hx hb dX8_count_94 (by decide) ?_
            refine lv_icmp_ne (tgt := 105) hx hb dX8_count_95 (by decide) (fun c7 => ?_) (fun c7 => ?_)
            · have hw := ifF hw c7
              refine lv_iload_n hx hb dX8_count_105 rfl (lv_at hl 1 rfl) ?_
              refine lv_iconst (v := 5) hx hb dX8_count_106 (by decide) ?_
              refine lv_icmp_ne (tgt := 117) hx hb dX8_count_107 (by decide) (fun c8 => ?_) (fun c8 => ?_)
              · have hw := ifF hw c8
                refine lv_aload_n hx hb dX8_count_117 rfl (lv_at hl 0 rfl) ?_
                refine g_40_4 E hh tb738 (E.hn 40 0 (by decide)) dX8_count_118 ?_
                exact x_iret E hh hw dX8_count_121
              · have hw := ifT hw c8
                refine lv_aload_n hx hb dX8_count_110 rfl (lv_at hl 0 rfl) ?_
                refine g_40_6 E hh tb740 (E.hn 40 0 (by decide)) dX8_count_111 ?_
                refine lv_goto (tgt := 121) hx hb dX8_count_114 (by decide) ?_
                exact x_iret E hh hw dX8_count_121
            · have hw := ifT hw c7
              refine lv_aload_n hx hb dX8_count_98 rfl (lv_at hl 0 rfl) ?_
              refine g_40_3 E hh tb737 (E.hn 40 0 (by decide)) dX8_count_99 ?_
              refine lv_goto (tgt := 121) hx hb dX8_count_102 (by decide) ?_
              exact x_iret E hh hw dX8_count_121
          · have hw := ifT hw c6
            refine lv_aload_n hx hb dX8_count_86 rfl (lv_at hl 0 rfl) ?_
            refine g_40_16 E hh tb750 (E.hn 40 0 (by decide)) dX8_count_87 ?_
            refine lv_goto (tgt := 121) hx hb dX8_count_90 (by decide) ?_
            exact x_iret E hh hw dX8_count_121
        · have hw := ifT hw c5
          refine lv_aload_n hx hb dX8_count_74 rfl (lv_at hl 0 rfl) ?_
          refine g_40_8 E hh tb742 (E.hn 40 0 (by decide)) dX8_count_75 ?_
          refine lv_goto (tgt := 121) hx hb dX8_count_78 (by decide) ?_
          exact x_iret E hh hw dX8_count_121
      · have hw := ifT hw c4
        refine lv_aload_n hx hb dX8_count_62 rfl (lv_at hl 0 rfl) ?_
        refine g_40_7 E hh tb741 (E.hn 40 0 (by decide)) dX8_count_63 ?_
        refine lv_goto (tgt := 121) hx hb dX8_count_66 (by decide) ?_
        exact x_iret E hh hw dX8_count_121
    · have hw := ifT hw c3
      refine lv_iconst (v := 0) hx hb dX8_count_20 (by decide) ?_
      refine lv_istore_n (lv' := [(2, .int 0), (0, .ref (ad 40 0)), (1, .int x1)]) hx hb dX8_count_21 rfl hl (by decide) rfl (fun ls hl => ?_)
      refine lv_iconst (v := 0) hx hb dX8_count_22 (by decide) ?_
      refine lv_istore_n (lv' := [(3, .int 0), (2, .int 0), (0, .ref (ad 40 0)), (1, .int x1)]) hx hb dX8_count_23 rfl hl (by decide) rfl (fun ls hl => ?_)
      obtain ⟨k, hw⟩ := hw
      exact bX8_count_24 E k 0 0 S1 _ _ _ hw hh (lv_sub hl [2, 1, 0] rfl)
  · have hw := ifT hw c2
    refine lv_bipush (v := (-2)) hx hb dX8_count_12 (by decide) ?_
    exact x_iret E hh hw dX8_count_14
theorem kX8_count : kI yX8_count cX8_count 4 (some .int) 1 := ⟨tb1174, tb1175, tb15, tb1176, by decide, by decide, by decide +kernel⟩
theorem mX8_count {l : Launch} {D : va_G} {ad : Nat → Nat → Nat} {cs : Nat → ClassId} {P : Nat → Nat → Prop} {sz tU : Nat} {adK adV : Nat → Nat} {x1 : Int32} {S : St} {K : Int32 → St → Prop} (hI : wI ad P) (hn : ∀ kd i, i < cnM kd → P kd i) (hw : wpX8_count x1 S K) : MI l yX8_count cX8_count 4 (some .int) 2 85 D ad cs P sz tU adK adV [.ref (ad 40 0), .int x1] S K :=
  Met_of (by decide) (Nat.le_of_ble_eq_true rfl) hI hn (fun p e R s m args below meth c ls E hl hh => bX8_count E  hw hh (lv_sub hl [0, 1] rfl))
def wbX8_sheet_77 (K : Int32 → St → Prop) (x1 : Int32) (x2 : Int32) (x3 : Int32) : Nat → Int32 → St → Prop
  | 0, _, _ => False
  | n + 1, x4, S => if x3 ≤ x4 then (K 1 S) else (if x2 < 0 then (K 1 S) else ((vp_in ((40 * x1) + x4) 160 ∧ ∀ S15, S15 = su S 67 0 ((40 * x1) + x4).toNatClampNeg 0 → wbX8_sheet_77 K x1 x2 x3 n (x4 + 1) S15)))
set_option maxRecDepth 4000 in
theorem bX8_sheet_77 {p : Program} {l : Launch} {e : Env} {R : Room} {s : State} {m : MethodId} {args : Array Value} {below : List Frame} {meth : Method} {c : Code} {D : va_G} {ad : Nat → Nat → Nat} {cs : Nat → ClassId} {P : Nat → Nat → Prop} {sz tU : Nat} {adK adV : Nat → Nat} {K : Int32 → St → Prop} {x1 : Int32} {x2 : Int32} {x3 : Int32} (E : Ex p s m args meth c R RX8 cX8_sheet 5 (some .int) 3 105 D ad cs P (wA ad P) tU adK adV cnM) : ∀ (n : Nat) (x4 : Int32) (S : St) (H : Heap) (locs : List Loc) (ls : Array Slot), wbX8_sheet_77 K x1 x2 x3 n x4 S → wH D ad cs P (wA ad P) s.heap sz S H locs → lv_has ls 5 [(0, .ref (ad 40 0)), (1, .int x1), (2, .int x2), (3, .int x3), (4, .int x4)] → W p l e R s m args below meth c H locs 0 0 (MQ below (va_Qi K (QX D ad cs P sz) (wA ad P)) args s 0 0 (wA ad P)) (F0 m 77 ls []) := by
  have hx := E.hx
  have hb := E.hb
  intro n
  induction n with
  | zero => intro x4 S H locs ls hw hh hl; exact hw.elim
  | succ n ih =>
    intro x4 S H locs ls hw hh hl
    refine lv_iload hx hb dX8_sheet_77 (lv_at hl 4 rfl) ?_
    refine lv_iload_n hx hb dX8_sheet_79 rfl (lv_at hl 3 rfl) ?_
    refine lv_icmp_ge (tgt := 106) hx hb dX8_sheet_80 (by decide) (fun c13 => ?_) (fun c13 => ?_)
    · have hw := ifT hw c13
      refine lv_iconst (v := 1) hx hb dX8_sheet_106 (by decide) ?_
      exact x_iret E hh hw dX8_sheet_107
    · have hw := ifF hw c13
      refine lv_iload_n hx hb dX8_sheet_83 rfl (lv_at hl 2 rfl) ?_
      refine lv_if_lt (tgt := 106) hx hb dX8_sheet_84 (by decide) (fun c14 => ?_) (fun c14 => ?_)
      · have hw := ifT hw c14
        refine lv_iconst (v := 1) hx hb dX8_sheet_106 (by decide) ?_
        exact x_iret E hh hw dX8_sheet_107
      · have hw := ifF hw c14
        refine lv_aload_n hx hb dX8_sheet_87 rfl (lv_at hl 0 rfl) ?_
        refine g_40_57 E hh tb791 (E.hn 40 0 (by decide)) dX8_sheet_88 ?_
        refine lv_bipush (v := 40) hx hb dX8_sheet_91 (by decide) ?_
        refine lv_iload_n hx hb dX8_sheet_93 rfl (lv_at hl 1 rfl) ?_
        refine lv_imul hx hb dX8_sheet_94 ?_
        refine lv_iload hx hb dX8_sheet_95 (lv_at hl 4 rfl) ?_
        refine lv_iadd hx hb dX8_sheet_97 ?_
        refine lv_iconst (v := 0) hx hb dX8_sheet_98 (by decide) ?_
        obtain ⟨hi15, hw⟩ := hw
        refine x_iast E hh (E.hn 67 0 (by decide)) ly_67 hi15 dX8_sheet_99 (fun S15 H locs e15 hh => ?_)
        have hw := hw S15 e15
        refine lv_iinc (k := 4) (v := x4 + 1) (lv' := [(4, .int (x4 + 1)), (0, .ref (ad 40 0)), (1, .int x1), (2, .int x2), (3, .int x3)]) hx hb dX8_sheet_100 hl rfl rfl (by decide) rfl (fun ls hl => ?_)
        refine lv_goto (tgt := 77) hx hb dX8_sheet_103 (by decide) ?_
        exact ih (x4 + 1) S15 _ _ _ hw hh (lv_sub hl [1, 2, 3, 4, 0] rfl)
def wbX8_sheet_59 (K : Int32 → St → Prop) (x1 : Int32) (x2 : Int32) (x3 : Int32) (v0 : Int32) (v1 : Int32) (S : St) : Prop := (vp_in v1 4 ∧ ∀ S10, S10 = su S 64 0 v1.toNatClampNeg (vp_nar .boolean v0) → (vp_in x1 4 ∧ ∀ S11, S11 = su S10 65 0 x1.toNatClampNeg x2 → (vp_in x1 4 ∧ ∀ S12, S12 = su S11 66 0 x1.toNatClampNeg x3 → ∃ k, wbX8_sheet_77 K x1 x2 x3 k 0 S12)))
set_option maxRecDepth 4000 in
theorem bX8_sheet_59 {p : Program} {l : Launch} {e : Env} {R : Room} {s : State} {m : MethodId} {args : Array Value} {below : List Frame} {meth : Method} {c : Code} {D : va_G} {ad : Nat → Nat → Nat} {cs : Nat → ClassId} {P : Nat → Nat → Prop} {sz tU : Nat} {adK adV : Nat → Nat} {K : Int32 → St → Prop} {x1 : Int32} {x2 : Int32} {x3 : Int32} {v0 : Int32} {v1 : Int32} {S : St} {H : Heap} {locs : List Loc} {ls : Array Slot} (E : Ex p s m args meth c R RX8 cX8_sheet 5 (some .int) 3 105 D ad cs P (wA ad P) tU adK adV cnM) (hw : wbX8_sheet_59 K x1 x2 x3 v0 v1 S) (hh : wH D ad cs P (wA ad P) s.heap sz S H locs) (hl : lv_has ls 5 [(0, .ref (ad 40 0)), (1, .int x1), (2, .int x2), (3, .int x3)]) : W p l e R s m args below meth c H locs 0 0 (MQ below (va_Qi K (QX D ad cs P sz) (wA ad P)) args s 0 0 (wA ad P)) (F0 m 59 ls [.int v0, .int v1, .ref (ad 64 0)]) := by
  have hx := E.hx
  have hb := E.hb
  obtain ⟨hi10, hw⟩ := hw
  refine x_zast E hh (E.hn 64 0 (by decide)) ly_64 hi10 dX8_sheet_59 (fun S10 H locs e10 hh => ?_)
  have hw := hw S10 e10
  refine lv_aload_n hx hb dX8_sheet_60 rfl (lv_at hl 0 rfl) ?_
  refine g_40_55 E hh tb789 (E.hn 40 0 (by decide)) dX8_sheet_61 ?_
  refine lv_iload_n hx hb dX8_sheet_64 rfl (lv_at hl 1 rfl) ?_
  refine lv_iload_n hx hb dX8_sheet_65 rfl (lv_at hl 2 rfl) ?_
  obtain ⟨hi11, hw⟩ := hw
  refine x_iast E hh (E.hn 65 0 (by decide)) ly_65 hi11 dX8_sheet_66 (fun S11 H locs e11 hh => ?_)
  have hw := hw S11 e11
  refine lv_aload_n hx hb dX8_sheet_67 rfl (lv_at hl 0 rfl) ?_
  refine g_40_56 E hh tb790 (E.hn 40 0 (by decide)) dX8_sheet_68 ?_
  refine lv_iload_n hx hb dX8_sheet_71 rfl (lv_at hl 1 rfl) ?_
  refine lv_iload_n hx hb dX8_sheet_72 rfl (lv_at hl 3 rfl) ?_
  obtain ⟨hi12, hw⟩ := hw
  refine x_iast E hh (E.hn 66 0 (by decide)) ly_66 hi12 dX8_sheet_73 (fun S12 H locs e12 hh => ?_)
  have hw := hw S12 e12
  refine lv_iconst (v := 0) hx hb dX8_sheet_74 (by decide) ?_
  refine lv_istore (lv' := [(4, .int 0), (0, .ref (ad 40 0)), (1, .int x1), (2, .int x2), (3, .int x3)]) hx hb dX8_sheet_75 hl (by decide) rfl (fun ls hl => ?_)
  obtain ⟨k, hw⟩ := hw
  exact bX8_sheet_77 E k 0 S12 _ _ _ hw hh (lv_sub hl [1, 2, 3, 4, 0] rfl)
def wbX8_sheet_45 (K : Int32 → St → Prop) (x1 : Int32) (x2 : Int32) (x3 : Int32) (S : St) : Prop := if x2 < 0 then (wbX8_sheet_59 K x1 x2 x3 0 x1 S) else (wbX8_sheet_59 K x1 x2 x3 1 x1 S)
set_option maxRecDepth 4000 in
theorem bX8_sheet_45 {p : Program} {l : Launch} {e : Env} {R : Room} {s : State} {m : MethodId} {args : Array Value} {below : List Frame} {meth : Method} {c : Code} {D : va_G} {ad : Nat → Nat → Nat} {cs : Nat → ClassId} {P : Nat → Nat → Prop} {sz tU : Nat} {adK adV : Nat → Nat} {K : Int32 → St → Prop} {x1 : Int32} {x2 : Int32} {x3 : Int32} {S : St} {H : Heap} {locs : List Loc} {ls : Array Slot} (E : Ex p s m args meth c R RX8 cX8_sheet 5 (some .int) 3 105 D ad cs P (wA ad P) tU adK adV cnM) (hw : wbX8_sheet_45 K x1 x2 x3 S) (hh : wH D ad cs P (wA ad P) s.heap sz S H locs) (hl : lv_has ls 5 [(0, .ref (ad 40 0)), (1, .int x1), (2, .int x2), (3, .int x3)]) : W p l e R s m args below meth c H locs 0 0 (MQ below (va_Qi K (QX D ad cs P sz) (wA ad P)) args s 0 0 (wA ad P)) (F0 m 45 ls []) := by
  have hx := E.hx
  have hb := E.hb
  refine lv_aload_n hx hb dX8_sheet_45 rfl (lv_at hl 0 rfl) ?_
  refine g_40_54 E hh tb788 (E.hn 40 0 (by decide)) dX8_sheet_46 ?_
  refine lv_iload_n hx hb dX8_sheet_49 rfl (lv_at hl 1 rfl) ?_
  refine lv_iload_n hx hb dX8_sheet_50 rfl (lv_at hl 2 rfl) ?_
  refine lv_if_lt (tgt := 58) hx hb dX8_sheet_51 (by decide) (fun c9 => ?_) (fun c9 => ?_)
  · have hw := ifT hw c9
    refine lv_iconst (v := 0) hx hb dX8_sheet_58 (by decide) ?_
    exact bX8_sheet_59 E hw hh (lv_sub hl [0, 1, 2, 3] rfl)
  · have hw := ifF hw c9
    refine lv_iconst (v := 1) hx hb dX8_sheet_54 (by decide) ?_
    refine lv_goto (tgt := 59) hx hb dX8_sheet_55 (by decide) ?_
    exact bX8_sheet_59 E hw hh (lv_sub hl [0, 1, 2, 3] rfl)
def wbX8_sheet_34 (K : Int32 → St → Prop) (x1 : Int32) (x2 : Int32) (x3 : Int32) (S : St) : Prop := if x2 < 0 then (wbX8_sheet_45 K x1 x2 x3 S) else (if 0 ≤ x3 then (wbX8_sheet_45 K x1 x2 x3 S) else (K (-14) S))
set_option maxRecDepth 4000 in
theorem bX8_sheet_34 {p : Program} {l : Launch} {e : Env} {R : Room} {s : State} {m : MethodId} {args : Array Value} {below : List Frame} {meth : Method} {c : Code} {D : va_G} {ad : Nat → Nat → Nat} {cs : Nat → ClassId} {P : Nat → Nat → Prop} {sz tU : Nat} {adK adV : Nat → Nat} {K : Int32 → St → Prop} {x1 : Int32} {x2 : Int32} {x3 : Int32} {S : St} {H : Heap} {locs : List Loc} {ls : Array Slot} (E : Ex p s m args meth c R RX8 cX8_sheet 5 (some .int) 3 105 D ad cs P (wA ad P) tU adK adV cnM) (hw : wbX8_sheet_34 K x1 x2 x3 S) (hh : wH D ad cs P (wA ad P) s.heap sz S H locs) (hl : lv_has ls 5 [(0, .ref (ad 40 0)), (1, .int x1), (2, .int x2), (3, .int x3)]) : W p l e R s m args below meth c H locs 0 0 (MQ below (va_Qi K (QX D ad cs P sz) (wA ad P)) args s 0 0 (wA ad P)) (F0 m 34 ls []) := by
  have hx := E.hx
  have hb := E.hb
  refine lv_iload_n hx hb dX8_sheet_34 rfl (lv_at hl 2 rfl) ?_
  refine lv_if_lt (tgt := 45) hx hb dX8_sheet_35 (by decide) (fun c7 => ?_) (fun c7 => ?_)
  · have hw := ifT hw c7
    exact bX8_sheet_45 E hw hh (lv_sub hl [0, 1, 2, 3] rfl)
  · have hw := ifF hw c7
    refine lv_iload_n hx hb dX8_sheet_38 rfl (lv_at hl 3 rfl) ?_
    refine lv_if_ge (tgt := 45) hx hb dX8_sheet_39 (by decide) (fun c8 => ?_) (fun c8 => ?_)
    · have hw := ifT hw c8
      exact bX8_sheet_45 E hw hh (lv_sub hl [0, 1, 2, 3] rfl)
    · have hw := ifF hw c8
      refine lv_bipush (v := (-14)) hx hb dX8_sheet_42 (by decide) ?_
      exact x_iret E hh hw dX8_sheet_44
def wpX8_sheet (x1 : Int32) (x2 : Int32) (x3 : Int32) (S : St) (K : Int32 → St → Prop) : Prop := wpX8_isSheet x1 S (fun r1 S1 => if r1 = 0 then (K (-2) S1) else (wpX8_in x2.toInt64 (-1) 2 S1 (fun r3 S3 => if r3 = 0 then (K (-2) S3) else (if x2 < 0 then (wbX8_sheet_34 K x1 x2 x3 S3) else (if x3 ≤ 40 then (wbX8_sheet_34 K x1 x2 x3 S3) else (K (-2) S3))))))
set_option maxRecDepth 4000 in
theorem bX8_sheet {p : Program} {l : Launch} {e : Env} {R : Room} {s : State} {m : MethodId} {args : Array Value} {below : List Frame} {meth : Method} {c : Code} {D : va_G} {ad : Nat → Nat → Nat} {cs : Nat → ClassId} {P : Nat → Nat → Prop} {sz tU : Nat} {adK adV : Nat → Nat} {K : Int32 → St → Prop} {x1 : Int32} {x2 : Int32} {x3 : Int32} {S : St} {H : Heap} {locs : List Loc} {ls : Array Slot} (E : Ex p s m args meth c R RX8 cX8_sheet 5 (some .int) 3 105 D ad cs P (wA ad P) tU adK adV cnM) (hw : wpX8_sheet x1 x2 x3 S K) (hh : wH D ad cs P (wA ad P) s.heap sz S H locs) (hl : lv_has ls 5 [(0, .ref (ad 40 0)), (1, .int x1), (2, .int x2), (3, .int x3)]) : W p l e R s m args below meth c H locs 0 0 (MQ below (va_Qi K (QX D ad cs P sz) (wA ad P)) args s 0 0 (wA ad P)) (F0 m 0 ls []) := by
  have hx := E.hx
  have hb := E.hb
  refine lv_iload_n hx hb dX8_sheet_0 rfl (lv_at hl 1 rfl) ?_
  refine x_ci E.hA hh (x_runS E hh (mX8_isSheet E.hI (fun _ _ h => absurd h (Nat.not_lt_zero _)) hw) kX8_isSheet tb1132 ⟨by decide, by decide⟩ rfl hl.1 rfl (Nat.le_of_ble_eq_true rfl) dX8_sheet_1 ⟨Nat.zero_le _, Nat.zero_le _⟩) (fun r1 S1 H locs hw hh => ?_)
  have hq1 := hw.2
  have hw := hw.1
  refine lv_if_eq (tgt := 31) hx hb dX8_sheet_4 (by decide) (fun c2 => ?_) (fun c2 => ?_)
  · have hw := ifT hw c2
    refine lv_bipush (v := (-2)) hx hb dX8_sheet_31 (by decide) ?_
    exact x_iret E hh hw dX8_sheet_33
  · have hw := ifF hw c2
    refine lv_iload_n hx hb dX8_sheet_7 rfl (lv_at hl 2 rfl) ?_
    refine lv_i2l hx hb dX8_sheet_8 rfl ?_
    refine lv_ldc2 (v := (-1)) hx hb E.hown (E.hts _ tb1181) dX8_sheet_9 ?_
    refine lv_ldc2 (v := 2) hx hb E.hown (E.hts _ tb939) dX8_sheet_12 ?_
    refine x_ci E.hA hh (x_runS E hh (mX8_in E.hI (fun _ _ h => absurd h (Nat.not_lt_zero _)) hw) kX8_in tb914 ⟨by decide, by decide⟩ rfl hl.1 rfl (Nat.le_of_ble_eq_true rfl) dX8_sheet_15 ⟨Nat.zero_le _, Nat.zero_le _⟩) (fun r3 S3 H locs hw hh => ?_)
    have hq3 := hw.2
    have hw := hw.1
    refine lv_if_eq (tgt := 31) hx hb dX8_sheet_18 (by decide) (fun c4 => ?_) (fun c4 => ?_)
    · have hw := ifT hw c4
      refine lv_bipush (v := (-2)) hx hb dX8_sheet_31 (by decide) ?_
      exact x_iret E hh hw dX8_sheet_33
    · have hw := ifF hw c4
      refine lv_iload_n hx hb dX8_sheet_21 rfl (lv_at hl 2 rfl) ?_
      refine lv_if_lt (tgt := 34) hx hb dX8_sheet_22 (by decide) (fun c5 => ?_) (fun c5 => ?_)
      · have hw := ifT hw c5
        exact bX8_sheet_34 E hw hh (lv_sub hl [0, 1, 2, 3] rfl)
      · have hw := ifF hw c5
        refine lv_iload_n hx hb dX8_sheet_25 rfl (lv_at hl 3 rfl) ?_
        refine lv_bipush (v := 40) hx hb dX8_sheet_26 (by decide) ?_
        refine lv_icmp_le (tgt := 34) hx hb dX8_sheet_28 (by decide) (fun c6 => ?_) (fun c6 => ?_)
        · have hw := ifT hw c6
          exact bX8_sheet_34 E hw hh (lv_sub hl [0, 1, 2, 3] rfl)
        · have hw := ifF hw c6
          refine lv_bipush (v := (-2)) hx hb dX8_sheet_31 (by decide) ?_
          exact x_iret E hh hw dX8_sheet_33
theorem kX8_sheet : kI yX8_sheet cX8_sheet 5 (some .int) 3 := ⟨tb1178, tb1179, tb15, tb1180, by decide, by decide, by decide +kernel⟩
theorem mX8_sheet {l : Launch} {D : va_G} {ad : Nat → Nat → Nat} {cs : Nat → ClassId} {P : Nat → Nat → Prop} {sz tU : Nat} {adK adV : Nat → Nat} {x1 : Int32} {x2 : Int32} {x3 : Int32} {S : St} {K : Int32 → St → Prop} (hI : wI ad P) (hn : ∀ kd i, i < cnM kd → P kd i) (hw : wpX8_sheet x1 x2 x3 S K) : MI l yX8_sheet cX8_sheet 5 (some .int) 3 105 D ad cs P sz tU adK adV [.ref (ad 40 0), .int x1, .int x2, .int x3] S K :=
  Met_of (by decide) (Nat.le_of_ble_eq_true rfl) hI hn (fun p e R s m args below meth c ls E hl hh => bX8_sheet E  hw hh (lv_sub hl [0, 1, 2, 3] rfl))
def wbX8_cell_83 (K : Int32 → St → Prop) (v0 : Int32) (v1 : Int32) (S : St) : Prop := (vp_in v1 160 ∧ ∀ S12, S12 = su S 67 0 v1.toNatClampNeg v0 → K 1 S12)
set_option maxRecDepth 4000 in
theorem bX8_cell_83 {p : Program} {l : Launch} {e : Env} {R : Room} {s : State} {m : MethodId} {args : Array Value} {below : List Frame} {meth : Method} {c : Code} {D : va_G} {ad : Nat → Nat → Nat} {cs : Nat → ClassId} {P : Nat → Nat → Prop} {sz tU : Nat} {adK adV : Nat → Nat} {K : Int32 → St → Prop} {v0 : Int32} {v1 : Int32} {S : St} {H : Heap} {locs : List Loc} {ls : Array Slot} (E : Ex p s m args meth c R RX8 cX8_cell 4 (some .int) 3 105 D ad cs P (wA ad P) tU adK adV cnM) (hw : wbX8_cell_83 K v0 v1 S) (hh : wH D ad cs P (wA ad P) s.heap sz S H locs) (hl : lv_has ls 4 []) : W p l e R s m args below meth c H locs 0 0 (MQ below (va_Qi K (QX D ad cs P sz) (wA ad P)) args s 0 0 (wA ad P)) (F0 m 83 ls [.int v0, .int v1, .ref (ad 67 0)]) := by
  have hx := E.hx
  have hb := E.hb
  obtain ⟨hi12, hw⟩ := hw
  refine x_iast E hh (E.hn 67 0 (by decide)) ly_67 hi12 dX8_cell_83 (fun S12 H locs e12 hh => ?_)
  have hw := hw S12 e12
  refine lv_iconst (v := 1) hx hb dX8_cell_84 (by decide) ?_
  exact x_iret E hh hw dX8_cell_85
def wpX8_cell (x1 : Int32) (x2 : Int32) (x3 : Int32) (S : St) (K : Int32 → St → Prop) : Prop := wpX8_isSheet x1 S (fun r1 S1 => if r1 = 0 then (K (-2) S1) else ((vp_in x1 4 ∧ if (S1.1 64 0 x1.toNatClampNeg) = 0 then (K (-11) S1) else ((vp_in x1 4 ∧ wpX8_in x2.toInt64 0 (((S1.1 66 0 x1.toNatClampNeg) - 1).toInt64) S1 (fun r6 S6 => if r6 = 0 then (K (-12) S6) else ((vp_in x1 4 ∧ if (S6.1 65 0 x1.toNatClampNeg) = 0 then (wbX8_cell_83 K x3.toInt8.toInt32 ((40 * x1) + x2) S6) else ((vp_in x1 4 ∧ if (S6.1 65 0 x1.toNatClampNeg) = 1 then (wbX8_cell_83 K x3.toInt16.toInt32 ((40 * x1) + x2) S6) else (wbX8_cell_83 K x3 ((40 * x1) + x2) S6)))))))))))
set_option maxRecDepth 4000 in
theorem bX8_cell {p : Program} {l : Launch} {e : Env} {R : Room} {s : State} {m : MethodId} {args : Array Value} {below : List Frame} {meth : Method} {c : Code} {D : va_G} {ad : Nat → Nat → Nat} {cs : Nat → ClassId} {P : Nat → Nat → Prop} {sz tU : Nat} {adK adV : Nat → Nat} {K : Int32 → St → Prop} {x1 : Int32} {x2 : Int32} {x3 : Int32} {S : St} {H : Heap} {locs : List Loc} {ls : Array Slot} (E : Ex p s m args meth c R RX8 cX8_cell 4 (some .int) 3 105 D ad cs P (wA ad P) tU adK adV cnM) (hw : wpX8_cell x1 x2 x3 S K) (hh : wH D ad cs P (wA ad P) s.heap sz S H locs) (hl : lv_has ls 4 [(0, .ref (ad 40 0)), (1, .int x1), (2, .int x2), (3, .int x3)]) : W p l e R s m args below meth c H locs 0 0 (MQ below (va_Qi K (QX D ad cs P sz) (wA ad P)) args s 0 0 (wA ad P)) (F0 m 0 ls []) := by
  have hx := E.hx
  have hb := E.hb
  refine lv_iload_n hx hb dX8_cell_0 rfl (lv_at hl 1 rfl) ?_
  refine x_ci E.hA hh (x_runS E hh (mX8_isSheet E.hI (fun _ _ h => absurd h (Nat.not_lt_zero _)) hw) kX8_isSheet tb1132 ⟨by decide, by decide⟩ rfl hl.1 rfl (Nat.le_of_ble_eq_true rfl) dX8_cell_1 ⟨Nat.zero_le _, Nat.zero_le _⟩) (fun r1 S1 H locs hw hh => ?_)
  have hq1 := hw.2
  have hw := hw.1
  refine lv_if_ne (tgt := 10) hx hb dX8_cell_4 (by decide) (fun c2 => ?_) (fun c2 => ?_)
  · have hw := ifF hw c2
    refine lv_aload_n hx hb dX8_cell_10 rfl (lv_at hl 0 rfl) ?_
    refine g_40_54 E hh tb788 (E.hn 40 0 (by decide)) dX8_cell_11 ?_
    refine lv_iload_n hx hb dX8_cell_14 rfl (lv_at hl 1 rfl) ?_
    obtain ⟨hi3, hw⟩ := hw
    refine x_zald E hh (E.hn 64 0 (by decide)) ly_64 hi3 dX8_cell_15 ?_
    refine lv_if_ne (tgt := 22) hx hb dX8_cell_16 (by decide) (fun c4 => ?_) (fun c4 => ?_)
    · have hw := ifF hw c4
      refine lv_iload_n hx hb dX8_cell_22 rfl (lv_at hl 2 rfl) ?_
      refine lv_i2l hx hb dX8_cell_23 rfl ?_
      refine lv_lconst (v := 0) hx hb dX8_cell_24 (by decide) ?_
      refine lv_aload_n hx hb dX8_cell_25 rfl (lv_at hl 0 rfl) ?_
      refine g_40_56 E hh tb790 (E.hn 40 0 (by decide)) dX8_cell_26 ?_
      refine lv_iload_n hx hb dX8_cell_29 rfl (lv_at hl 1 rfl) ?_
      obtain ⟨hi5, hw⟩ := hw
      refine x_iald E hh (E.hn 66 0 (by decide)) ly_66 hi5 dX8_cell_30 ?_
      refine lv_iconst (v := 1) hx hb dX8_cell_31 (by decide) ?_
      refine lv_isub hx hb dX8_cell_32 ?_
      refine lv_i2l hx hb dX8_cell_33 rfl ?_
      refine x_ci E.hA hh (x_runS E hh (mX8_in E.hI (fun _ _ h => absurd h (Nat.not_lt_zero _)) hw) kX8_in tb914 ⟨by decide, by decide⟩ rfl hl.1 rfl (Nat.le_of_ble_eq_true rfl) dX8_cell_34 ⟨Nat.zero_le _, Nat.zero_le _⟩) (fun r6 S6 H locs hw hh => ?_)
      have hq6 := hw.2
      have hw := hw.1
      refine lv_if_ne (tgt := 43) hx hb dX8_cell_37 (by decide) (fun c7 => ?_) (fun c7 => ?_)
      · have hw := ifF hw c7
        refine lv_aload_n hx hb dX8_cell_43 rfl (lv_at hl 0 rfl) ?_
        refine g_40_57 E hh tb791 (E.hn 40 0 (by decide)) dX8_cell_44 ?_
        refine lv_bipush (v := 40) hx hb dX8_cell_47 (by decide) ?_
        refine lv_iload_n hx hb dX8_cell_49 rfl (lv_at hl 1 rfl) ?_
        refine lv_imul hx hb dX8_cell_50 ?_
        refine lv_iload_n hx hb dX8_cell_51 rfl (lv_at hl 2 rfl) ?_
        refine lv_iadd hx hb dX8_cell_52 ?_
        refine lv_aload_n hx hb dX8_cell_53 rfl (lv_at hl 0 rfl) ?_
        refine g_40_55 E hh tb789 (E.hn 40 0 (by decide)) dX8_cell_54 ?_
        refine lv_iload_n hx hb dX8_cell_57 rfl (lv_at hl 1 rfl) ?_
        obtain ⟨hi8, hw⟩ := hw
        refine x_iald E hh (E.hn 65 0 (by decide)) ly_65 hi8 dX8_cell_58 ?_
        refine lv_if_ne (tgt := 67) hx hb dX8_cell_59 (by decide) (fun c9 => ?_) (fun c9 => ?_)
        · have hw := ifF hw c9
          refine lv_aload_n hx hb dX8_cell_67 rfl (lv_at hl 0 rfl) ?_
          refine g_40_55 E hh tb789 (E.hn 40 0 (by decide)) dX8_cell_68 ?_
          refine lv_iload_n hx hb dX8_cell_71 rfl (lv_at hl 1 rfl) ?_
          obtain ⟨hi10, hw⟩ := hw
          refine x_iald E hh (E.hn 65 0 (by decide)) ly_65 hi10 dX8_cell_72 ?_
          refine lv_iconst (v := 1) hx hb dX8_cell_73 (by decide) ?_
          refine lv_icmp_ne (tgt := 82) hx hb dX8_cell_74 (by decide) (fun c11 => ?_) (fun c11 => ?_)
          · have hw := ifF hw c11
            refine lv_iload_n hx hb dX8_cell_82 rfl (lv_at hl 3 rfl) ?_
            exact bX8_cell_83 E hw hh (lv_sub hl [] rfl)
          · have hw := ifT hw c11
            refine lv_iload_n hx hb dX8_cell_77 rfl (lv_at hl 3 rfl) ?_
            refine lv_i2s hx hb dX8_cell_78 rfl ?_
            refine lv_goto (tgt := 83) hx hb dX8_cell_79 (by decide) ?_
            exact bX8_cell_83 E hw hh (lv_sub hl [] rfl)
        · have hw := ifT hw c9
          refine lv_iload_n hx hb dX8_cell_62 rfl (lv_at hl 3 rfl) ?_
          refine lv_i2b hx hb dX8_cell_63 rfl ?_
          refine lv_goto (tgt := 83) hx hb dX8_cell_64 (by decide) ?_
          exact bX8_cell_83 E hw hh (lv_sub hl [] rfl)
      · have hw := ifT hw c7
        refine lv_bipush (v := (-12)) hx hb dX8_cell_40 (by decide) ?_
        exact x_iret E hh hw dX8_cell_42
    · have hw := ifT hw c4
      refine lv_bipush (v := (-11)) hx hb dX8_cell_19 (by decide) ?_
      exact x_iret E hh hw dX8_cell_21
  · have hw := ifT hw c2
    refine lv_bipush (v := (-2)) hx hb dX8_cell_7 (by decide) ?_
    exact x_iret E hh hw dX8_cell_9
theorem kX8_cell : kI yX8_cell cX8_cell 4 (some .int) 3 := ⟨tb1183, tb1184, tb15, tb1185, by decide, by decide, by decide +kernel⟩
theorem mX8_cell {l : Launch} {D : va_G} {ad : Nat → Nat → Nat} {cs : Nat → ClassId} {P : Nat → Nat → Prop} {sz tU : Nat} {adK adV : Nat → Nat} {x1 : Int32} {x2 : Int32} {x3 : Int32} {S : St} {K : Int32 → St → Prop} (hI : wI ad P) (hn : ∀ kd i, i < cnM kd → P kd i) (hw : wpX8_cell x1 x2 x3 S K) : MI l yX8_cell cX8_cell 4 (some .int) 3 105 D ad cs P sz tU adK adV [.ref (ad 40 0), .int x1, .int x2, .int x3] S K :=
  Met_of (by decide) (Nat.le_of_ble_eq_true rfl) hI hn (fun p e R s m args below meth c ls E hl hh => bX8_cell E  hw hh (lv_sub hl [0, 1, 2, 3] rfl))
def wbX8_copy_145 (R121 : Int32 → St → Prop) (K : Int32 → St → Prop) (x1 : Int32) (x2 : Int32) (x3 : Int32) (x4 : Int32) (x5 : Int32) (x6 : Int32) (x7 : Int32) (v0 : Int32) (S : St) : Prop := (vp_in (((40 * x1) + x2) + v0) 160 ∧ (vp_in (((40 * x3) + x4) + v0) 160 ∧ ∀ S24, S24 = su S 67 0 (((40 * x3) + x4) + v0).toNatClampNeg (S.1 67 0 (((40 * x1) + x2) + v0).toNatClampNeg) → R121 (x7 + 1) S24))
set_option maxRecDepth 4000 in
theorem bX8_copy_145 {p : Program} {l : Launch} {e : Env} {R : Room} {s : State} {m : MethodId} {args : Array Value} {below : List Frame} {meth : Method} {c : Code} {D : va_G} {ad : Nat → Nat → Nat} {cs : Nat → ClassId} {P : Nat → Nat → Prop} {sz tU : Nat} {adK adV : Nat → Nat} {R121 : Int32 → St → Prop} {K : Int32 → St → Prop} {x1 : Int32} {x2 : Int32} {x3 : Int32} {x4 : Int32} {x5 : Int32} {x6 : Int32} {x7 : Int32} {v0 : Int32} {S : St} {H : Heap} {locs : List Loc} {ls : Array Slot} (E : Ex p s m args meth c R RX8 cX8_copy 9 (some .int) 3 105 D ad cs P (wA ad P) tU adK adV cnM) (hR121 : ∀ (z7 : Int32) (S : St) (H : Heap) (locs : List Loc) (ls : Array Slot), R121 z7 S → wH D ad cs P (wA ad P) s.heap sz S H locs → lv_has ls 9 [(0, .ref (ad 40 0)), (1, .int x1), (2, .int x2), (3, .int x3), (4, .int x4), (5, .int x5), (6, .int x6), (7, .int z7)] → W p l e R s m args below meth c H locs 0 0 (MQ below (va_Qi K (QX D ad cs P sz) (wA ad P)) args s 0 0 (wA ad P)) (F0 m 121 ls [])) (hw : wbX8_copy_145 R121 K x1 x2 x3 x4 x5 x6 x7 v0 S) (hh : wH D ad cs P (wA ad P) s.heap sz S H locs) (hl : lv_has ls 9 [(0, .ref (ad 40 0)), (1, .int x1), (2, .int x2), (3, .int x3), (4, .int x4), (5, .int x5), (6, .int x6), (7, .int x7)]) : W p l e R s m args below meth c H locs 0 0 (MQ below (va_Qi K (QX D ad cs P sz) (wA ad P)) args s 0 0 (wA ad P)) (F0 m 145 ls [.int v0]) := by
  have hx := E.hx
  have hb := E.hb
  refine lv_istore (lv' := [(8, .int v0), (0, .ref (ad 40 0)), (1, .int x1), (2, .int x2), (3, .int x3), (4, .int x4), (5, .int x5), (6, .int x6), (7, .int x7)]) hx hb dX8_copy_145 hl (by decide) rfl (fun ls hl => ?_)
  refine lv_aload_n hx hb dX8_copy_147 rfl (lv_at hl 1 rfl) ?_
  refine g_40_57 E hh tb791 (E.hn 40 0 (by decide)) dX8_copy_148 ?_
  refine lv_bipush (v := 40) hx hb dX8_copy_151 (by decide) ?_
  refine lv_iload_n hx hb dX8_copy_153 rfl (lv_at hl 4 rfl) ?_
  refine lv_imul hx hb dX8_copy_154 ?_
  refine lv_iload hx hb dX8_copy_155 (lv_at hl 5 rfl) ?_
  refine lv_iadd hx hb dX8_copy_157 ?_
  refine lv_iload hx hb dX8_copy_158 (lv_at hl 0 rfl) ?_
  refine lv_iadd hx hb dX8_copy_160 ?_
  refine lv_aload_n hx hb dX8_copy_161 rfl (lv_at hl 1 rfl) ?_
  refine g_40_57 E hh tb791 (E.hn 40 0 (by decide)) dX8_copy_162 ?_
  refine lv_bipush (v := 40) hx hb dX8_copy_165 (by decide) ?_
  refine lv_iload_n hx hb dX8_copy_167 rfl (lv_at hl 2 rfl) ?_
  refine lv_imul hx hb dX8_copy_168 ?_
  refine lv_iload_n hx hb dX8_copy_169 rfl (lv_at hl 3 rfl) ?_
  refine lv_iadd hx hb dX8_copy_170 ?_
  refine lv_iload hx hb dX8_copy_171 (lv_at hl 0 rfl) ?_
  refine lv_iadd hx hb dX8_copy_173 ?_
  obtain ⟨hi23, hw⟩ := hw
  refine x_iald E hh (E.hn 67 0 (by decide)) ly_67 hi23 dX8_copy_174 ?_
  obtain ⟨hi24, hw⟩ := hw
  refine x_iast E hh (E.hn 67 0 (by decide)) ly_67 hi24 dX8_copy_175 (fun S24 H locs e24 hh => ?_)
  have hw := hw S24 e24
  refine lv_iinc (k := 8) (v := x7 + 1) (lv' := [(7, .int (x7 + 1)), (8, .int v0), (0, .ref (ad 40 0)), (1, .int x1), (2, .int x2), (3, .int x3), (4, .int x4), (5, .int x5), (6, .int x6)]) hx hb dX8_copy_176 hl rfl rfl (by decide) rfl (fun ls hl => ?_)
  refine lv_goto (tgt := 121) hx hb dX8_copy_179 (by decide) ?_
  exact hR121 (x7 + 1) S24 _ _ _ hw hh (lv_sub hl [2, 3, 4, 5, 6, 7, 8, 0] rfl)
def wbX8_copy_121 (K : Int32 → St → Prop) (x1 : Int32) (x2 : Int32) (x3 : Int32) (x4 : Int32) (x5 : Int32) (x6 : Int32) : Nat → Int32 → St → Prop
  | 0, _, _ => False
  | n + 1, x7, S => if x5 ≤ x7 then (K x5 S) else (if x6 = 0 then (wbX8_copy_145 (fun yx7 S9 => wbX8_copy_121 K x1 x2 x3 x4 x5 x6 n yx7 S9) K x1 x2 x3 x4 x5 x6 x7 x7 S) else (wbX8_copy_145 (fun yx7 S9 => wbX8_copy_121 K x1 x2 x3 x4 x5 x6 n yx7 S9) K x1 x2 x3 x4 x5 x6 x7 ((x5 - 1) - x7) S))
set_option maxRecDepth 4000 in
theorem bX8_copy_121 {p : Program} {l : Launch} {e : Env} {R : Room} {s : State} {m : MethodId} {args : Array Value} {below : List Frame} {meth : Method} {c : Code} {D : va_G} {ad : Nat → Nat → Nat} {cs : Nat → ClassId} {P : Nat → Nat → Prop} {sz tU : Nat} {adK adV : Nat → Nat} {K : Int32 → St → Prop} {x1 : Int32} {x2 : Int32} {x3 : Int32} {x4 : Int32} {x5 : Int32} {x6 : Int32} (E : Ex p s m args meth c R RX8 cX8_copy 9 (some .int) 3 105 D ad cs P (wA ad P) tU adK adV cnM) : ∀ (n : Nat) (x7 : Int32) (S : St) (H : Heap) (locs : List Loc) (ls : Array Slot), wbX8_copy_121 K x1 x2 x3 x4 x5 x6 n x7 S → wH D ad cs P (wA ad P) s.heap sz S H locs → lv_has ls 9 [(0, .ref (ad 40 0)), (1, .int x1), (2, .int x2), (3, .int x3), (4, .int x4), (5, .int x5), (6, .int x6), (7, .int x7)] → W p l e R s m args below meth c H locs 0 0 (MQ below (va_Qi K (QX D ad cs P sz) (wA ad P)) args s 0 0 (wA ad P)) (F0 m 121 ls []) := by
  have hx := E.hx
  have hb := E.hb
  intro n
  induction n with
  | zero => intro x7 S H locs ls hw hh hl; exact hw.elim
  | succ n ih =>
    intro x7 S H locs ls hw hh hl
    refine lv_iload hx hb dX8_copy_121 (lv_at hl 7 rfl) ?_
    refine lv_iload hx hb dX8_copy_123 (lv_at hl 5 rfl) ?_
    refine lv_icmp_ge (tgt := 182) hx hb dX8_copy_125 (by decide) (fun c21 => ?_) (fun c21 => ?_)
    · have hw := ifT hw c21
      refine lv_iload hx hb dX8_copy_182 (lv_at hl 5 rfl) ?_
      exact x_iret E hh hw dX8_copy_184
    · have hw := ifF hw c21
      refine lv_iload hx hb dX8_copy_128 (lv_at hl 6 rfl) ?_
      refine lv_if_eq (tgt := 143) hx hb dX8_copy_130 (by decide) (fun c22 => ?_) (fun c22 => ?_)
      · have hw := ifT hw c22
        refine lv_iload hx hb dX8_copy_143 (lv_at hl 7 rfl) ?_
        exact bX8_copy_145 E ih hw hh (lv_sub hl [0, 1, 2, 3, 4, 5, 6, 7] rfl)
      · have hw := ifF hw c22
        refine lv_iload hx hb dX8_copy_133 (lv_at hl 5 rfl) ?_
        refine lv_iconst (v := 1) hx hb dX8_copy_135 (by decide) ?_
        refine lv_isub hx hb dX8_copy_136 ?_
        refine lv_iload hx hb dX8_copy_137 (lv_at hl 7 rfl) ?_
        refine lv_isub hx hb dX8_copy_139 ?_
        refine lv_goto (tgt := 145) hx hb dX8_copy_140 (by decide) ?_
        exact bX8_copy_145 E ih hw hh (lv_sub hl [0, 1, 2, 3, 4, 5, 6, 7] rfl)
def wbX8_copy_116 (K : Int32 → St → Prop) (x1 : Int32) (x2 : Int32) (x3 : Int32) (x4 : Int32) (x5 : Int32) (v0 : Int32) (S : St) : Prop := ∃ k, wbX8_copy_121 K x1 x2 x3 x4 x5 v0 k 0 S
set_option maxRecDepth 4000 in
theorem bX8_copy_116 {p : Program} {l : Launch} {e : Env} {R : Room} {s : State} {m : MethodId} {args : Array Value} {below : List Frame} {meth : Method} {c : Code} {D : va_G} {ad : Nat → Nat → Nat} {cs : Nat → ClassId} {P : Nat → Nat → Prop} {sz tU : Nat} {adK adV : Nat → Nat} {K : Int32 → St → Prop} {x1 : Int32} {x2 : Int32} {x3 : Int32} {x4 : Int32} {x5 : Int32} {v0 : Int32} {S : St} {H : Heap} {locs : List Loc} {ls : Array Slot} (E : Ex p s m args meth c R RX8 cX8_copy 9 (some .int) 3 105 D ad cs P (wA ad P) tU adK adV cnM) (hw : wbX8_copy_116 K x1 x2 x3 x4 x5 v0 S) (hh : wH D ad cs P (wA ad P) s.heap sz S H locs) (hl : lv_has ls 9 [(0, .ref (ad 40 0)), (1, .int x1), (2, .int x2), (3, .int x3), (4, .int x4), (5, .int x5)]) : W p l e R s m args below meth c H locs 0 0 (MQ below (va_Qi K (QX D ad cs P sz) (wA ad P)) args s 0 0 (wA ad P)) (F0 m 116 ls [.int v0]) := by
  have hx := E.hx
  have hb := E.hb
  refine lv_istore (lv' := [(6, .int v0), (0, .ref (ad 40 0)), (1, .int x1), (2, .int x2), (3, .int x3), (4, .int x4), (5, .int x5)]) hx hb dX8_copy_116 hl (by decide) rfl (fun ls hl => ?_)
  refine lv_iconst (v := 0) hx hb dX8_copy_118 (by decide) ?_
  refine lv_istore (lv' := [(7, .int 0), (6, .int v0), (0, .ref (ad 40 0)), (1, .int x1), (2, .int x2), (3, .int x3), (4, .int x4), (5, .int x5)]) hx hb dX8_copy_119 hl (by decide) rfl (fun ls hl => ?_)
  obtain ⟨k, hw⟩ := hw
  exact bX8_copy_121 E k 0 S _ _ _ hw hh (lv_sub hl [2, 3, 4, 5, 6, 7, 1, 0] rfl)
def wbX8_copy_115 (K : Int32 → St → Prop) (x1 : Int32) (x2 : Int32) (x3 : Int32) (x4 : Int32) (x5 : Int32) (S : St) : Prop := wbX8_copy_116 K x1 x2 x3 x4 x5 0 S
set_option maxRecDepth 4000 in
theorem bX8_copy_115 {p : Program} {l : Launch} {e : Env} {R : Room} {s : State} {m : MethodId} {args : Array Value} {below : List Frame} {meth : Method} {c : Code} {D : va_G} {ad : Nat → Nat → Nat} {cs : Nat → ClassId} {P : Nat → Nat → Prop} {sz tU : Nat} {adK adV : Nat → Nat} {K : Int32 → St → Prop} {x1 : Int32} {x2 : Int32} {x3 : Int32} {x4 : Int32} {x5 : Int32} {S : St} {H : Heap} {locs : List Loc} {ls : Array Slot} (E : Ex p s m args meth c R RX8 cX8_copy 9 (some .int) 3 105 D ad cs P (wA ad P) tU adK adV cnM) (hw : wbX8_copy_115 K x1 x2 x3 x4 x5 S) (hh : wH D ad cs P (wA ad P) s.heap sz S H locs) (hl : lv_has ls 9 [(0, .ref (ad 40 0)), (1, .int x1), (2, .int x2), (3, .int x3), (4, .int x4), (5, .int x5)]) : W p l e R s m args below meth c H locs 0 0 (MQ below (va_Qi K (QX D ad cs P sz) (wA ad P)) args s 0 0 (wA ad P)) (F0 m 115 ls []) := by
  have hx := E.hx
  have hb := E.hb
  refine lv_iconst (v := 0) hx hb dX8_copy_115 (by decide) ?_
  exact bX8_copy_116 E hw hh (lv_sub hl [0, 1, 2, 3, 4, 5] rfl)
def wpX8_copy (x1 : Int32) (x2 : Int32) (x3 : Int32) (x4 : Int32) (x5 : Int32) (S : St) (K : Int32 → St → Prop) : Prop := wpX8_isSheet x1 S (fun r1 S1 => if r1 = 0 then (K (-2) S1) else (wpX8_isSheet x3 S1 (fun r3 S3 => if r3 = 0 then (K (-2) S3) else ((vp_in x1 4 ∧ if (S3.1 64 0 x1.toNatClampNeg) = 0 then (K (-11) S3) else ((vp_in x3 4 ∧ if (S3.1 64 0 x3.toNatClampNeg) = 0 then (K (-11) S3) else ((vp_in x1 4 ∧ (vp_in x3 4 ∧ if (S3.1 65 0 x1.toNatClampNeg) = (S3.1 65 0 x3.toNatClampNeg) then (if x5 < 0 then (K (-12) S3) else (if x2 < 0 then (K (-12) S3) else (if x4 < 0 then (K (-12) S3) else ((vp_in x1 4 ∧ if ((S3.1 66 0 x1.toNatClampNeg) - x5) < x2 then (K (-12) S3) else ((vp_in x3 4 ∧ if x4 ≤ ((S3.1 66 0 x3.toNatClampNeg) - x5) then (if x1 = x3 then (if x4 ≤ x2 then (wbX8_copy_115 K x1 x2 x3 x4 x5 S3) else (wbX8_copy_116 K x1 x2 x3 x4 x5 1 S3)) else (wbX8_copy_115 K x1 x2 x3 x4 x5 S3)) else (K (-12) S3)))))))) else (K (-13) S3)))))))))))
set_option maxRecDepth 4000 in
theorem bX8_copy {p : Program} {l : Launch} {e : Env} {R : Room} {s : State} {m : MethodId} {args : Array Value} {below : List Frame} {meth : Method} {c : Code} {D : va_G} {ad : Nat → Nat → Nat} {cs : Nat → ClassId} {P : Nat → Nat → Prop} {sz tU : Nat} {adK adV : Nat → Nat} {K : Int32 → St → Prop} {x1 : Int32} {x2 : Int32} {x3 : Int32} {x4 : Int32} {x5 : Int32} {S : St} {H : Heap} {locs : List Loc} {ls : Array Slot} (E : Ex p s m args meth c R RX8 cX8_copy 9 (some .int) 3 105 D ad cs P (wA ad P) tU adK adV cnM) (hw : wpX8_copy x1 x2 x3 x4 x5 S K) (hh : wH D ad cs P (wA ad P) s.heap sz S H locs) (hl : lv_has ls 9 [(0, .ref (ad 40 0)), (1, .int x1), (2, .int x2), (3, .int x3), (4, .int x4), (5, .int x5)]) : W p l e R s m args below meth c H locs 0 0 (MQ below (va_Qi K (QX D ad cs P sz) (wA ad P)) args s 0 0 (wA ad P)) (F0 m 0 ls []) := by
  have hx := E.hx
  have hb := E.hb
  refine lv_iload_n hx hb dX8_copy_0 rfl (lv_at hl 1 rfl) ?_
  refine x_ci E.hA hh (x_runS E hh (mX8_isSheet E.hI (fun _ _ h => absurd h (Nat.not_lt_zero _)) hw) kX8_isSheet tb1132 ⟨by decide, by decide⟩ rfl hl.1 rfl (Nat.le_of_ble_eq_true rfl) dX8_copy_1 ⟨Nat.zero_le _, Nat.zero_le _⟩) (fun r1 S1 H locs hw hh => ?_)
  have hq1 := hw.2
  have hw := hw.1
  refine lv_if_eq (tgt := 14) hx hb dX8_copy_4 (by decide) (fun c2 => ?_) (fun c2 => ?_)
  · have hw := ifT hw c2
    refine lv_bipush (v := (-2)) hx hb dX8_copy_14 (by decide) ?_
    exact x_iret E hh hw dX8_copy_16
  · have hw := ifF hw c2
    refine lv_iload_n hx hb dX8_copy_7 rfl (lv_at hl 3 rfl) ?_
    refine x_ci E.hA hh (x_runS E hh (mX8_isSheet E.hI (fun _ _ h => absurd h (Nat.not_lt_zero _)) hw) kX8_isSheet tb1132 ⟨by decide, by decide⟩ rfl hl.1 rfl (Nat.le_of_ble_eq_true rfl) dX8_copy_8 ⟨Nat.zero_le _, Nat.zero_le _⟩) (fun r3 S3 H locs hw hh => ?_)
    have hq3 := hw.2
    have hw := hw.1
    refine lv_if_ne (tgt := 17) hx hb dX8_copy_11 (by decide) (fun c4 => ?_) (fun c4 => ?_)
    · have hw := ifF hw c4
      refine lv_aload_n hx hb dX8_copy_17 rfl (lv_at hl 0 rfl) ?_
      refine g_40_54 E hh tb788 (E.hn 40 0 (by decide)) dX8_copy_18 ?_
      refine lv_iload_n hx hb dX8_copy_21 rfl (lv_at hl 1 rfl) ?_
      obtain ⟨hi5, hw⟩ := hw
      refine x_zald E hh (E.hn 64 0 (by decide)) ly_64 hi5 dX8_copy_22 ?_
      refine lv_if_eq (tgt := 35) hx hb dX8_copy_23 (by decide) (fun c6 => ?_) (fun c6 => ?_)
      · have hw := ifT hw c6
        refine lv_bipush (v := (-11)) hx hb dX8_copy_35 (by decide) ?_
        exact x_iret E hh hw dX8_copy_37
      · have hw := ifF hw c6
        refine lv_aload_n hx hb dX8_copy_26 rfl (lv_at hl 0 rfl) ?_
        refine g_40_54 E hh tb788 (E.hn 40 0 (by decide)) dX8_copy_27 ?_
        refine lv_iload_n hx hb dX8_copy_30 rfl (lv_at hl 3 rfl) ?_
        obtain ⟨hi7, hw⟩ := hw
        refine x_zald E hh (E.hn 64 0 (by decide)) ly_64 hi7 dX8_copy_31 ?_
        refine lv_if_ne (tgt := 38) hx hb dX8_copy_32 (by decide) (fun c8 => ?_) (fun c8 => ?_)
        · have hw := ifF hw c8
          refine lv_aload_n hx hb dX8_copy_38 rfl (lv_at hl 0 rfl) ?_
          refine g_40_55 E hh tb789 (E.hn 40 0 (by decide)) dX8_copy_39 ?_
          refine lv_iload_n hx hb dX8_copy_42 rfl (lv_at hl 1 rfl) ?_
          obtain ⟨hi9, hw⟩ := hw
          refine x_iald E hh (E.hn 65 0 (by decide)) ly_65 hi9 dX8_copy_43 ?_
          refine lv_aload_n hx hb dX8_copy_44 rfl (lv_at hl 0 rfl) ?_
          refine g_40_55 E hh tb789 (E.hn 40 0 (by decide)) dX8_copy_45 ?_
          refine lv_iload_n hx hb dX8_copy_48 rfl (lv_at hl 3 rfl) ?_
          obtain ⟨hi10, hw⟩ := hw
          refine x_iald E hh (E.hn 65 0 (by decide)) ly_65 hi10 dX8_copy_49 ?_
          refine lv_icmp_eq (tgt := 56) hx hb dX8_copy_50 (by decide) (fun c11 => ?_) (fun c11 => ?_)
          · have hw := ifT hw c11
            refine lv_iload hx hb dX8_copy_56 (lv_at hl 5 rfl) ?_
            refine lv_if_lt (tgt := 97) hx hb dX8_copy_58 (by decide) (fun c12 => ?_) (fun c12 => ?_)
            · have hw := ifT hw c12
              refine lv_bipush (v := (-12)) hx hb dX8_copy_97 (by decide) ?_
              exact x_iret E hh hw dX8_copy_99
            · have hw := ifF hw c12
              refine lv_iload_n hx hb dX8_copy_61 rfl (lv_at hl 2 rfl) ?_
              refine lv_if_lt (tgt := 97) hx hb dX8_copy_62 (by decide) (fun c13 => ?_) (fun c13 => ?_)
              · have hw := ifT hw c13
                refine lv_bipush (v := (-12)) hx hb dX8_copy_97 (by decide) ?_
                exact x_iret E hh hw dX8_copy_99
              · have hw := ifF hw c13
                refine lv_iload hx hb dX8_copy_65 (lv_at hl 4 rfl) ?_
                refine lv_if_lt (tgt := 97) hx hb dX8_copy_67 (by decide) (fun c14 => ?_) (fun c14 => ?_)
                · have hw := ifT hw c14
                  refine lv_bipush (v := (-12)) hx hb dX8_copy_97 (by decide) ?_
                  exact x_iret E hh hw dX8_copy_99
                · have hw := ifF hw c14
                  refine lv_iload_n hx hb dX8_copy_70 rfl (lv_at hl 2 rfl) ?_
                  refine lv_aload_n hx hb dX8_copy_71 rfl (lv_at hl 0 rfl) ?_
                  refine g_40_56 E hh tb790 (E.hn 40 0 (by decide)) dX8_copy_72 ?_
                  refine lv_iload_n hx hb dX8_copy_75 rfl (lv_at hl 1 rfl) ?_
                  obtain ⟨hi15, hw⟩ := hw
                  refine x_iald E hh (E.hn 66 0 (by decide)) ly_66 hi15 dX8_copy_76 ?_
                  refine lv_iload hx hb dX8_copy_77 (lv_at hl 5 rfl) ?_
                  refine lv_isub hx hb dX8_copy_79 ?_
                  refine lv_icmp_gt (tgt := 97) hx hb dX8_copy_80 (by decide) (fun c16 => ?_) (fun c16 => ?_)
                  · have hw := ifT hw c16
                    refine lv_bipush (v := (-12)) hx hb dX8_copy_97 (by decide) ?_
                    exact x_iret E hh hw dX8_copy_99
                  · have hw := ifF hw c16
                    refine lv_iload hx hb dX8_copy_83 (lv_at hl 4 rfl) ?_
                    refine lv_aload_n hx hb dX8_copy_85 rfl (lv_at hl 0 rfl) ?_
                    refine g_40_56 E hh tb790 (E.hn 40 0 (by decide)) dX8_copy_86 ?_
                    refine lv_iload_n hx hb dX8_copy_89 rfl (lv_at hl 3 rfl) ?_
                    obtain ⟨hi17, hw⟩ := hw
                    refine x_iald E hh (E.hn 66 0 (by decide)) ly_66 hi17 dX8_copy_90 ?_
                    refine lv_iload hx hb dX8_copy_91 (lv_at hl 5 rfl) ?_
                    refine lv_isub hx hb dX8_copy_93 ?_
                    refine lv_icmp_le (tgt := 100) hx hb dX8_copy_94 (by decide) (fun c18 => ?_) (fun c18 => ?_)
                    · have hw := ifT hw c18
                      refine lv_iload_n hx hb dX8_copy_100 rfl (lv_at hl 1 rfl) ?_
                      refine lv_iload_n hx hb dX8_copy_101 rfl (lv_at hl 3 rfl) ?_
                      refine lv_icmp_ne (tgt := 115) hx hb dX8_copy_102 (by decide) (fun c19 => ?_) (fun c19 => ?_)
                      · have hw := ifF hw c19
                        exact bX8_copy_115 E hw hh (lv_sub hl [0, 1, 2, 3, 4, 5] rfl)
                      · have hw := ifT hw c19
                        refine lv_iload_n hx hb dX8_copy_105 rfl (lv_at hl 2 rfl) ?_
                        refine lv_iload hx hb dX8_copy_106 (lv_at hl 4 rfl) ?_
                        refine lv_icmp_ge (tgt := 115) hx hb dX8_copy_108 (by decide) (fun c20 => ?_) (fun c20 => ?_)
                        · have hw := ifT hw c20
                          exact bX8_copy_115 E hw hh (lv_sub hl [0, 1, 2, 3, 4, 5] rfl)
                        · have hw := ifF hw c20
                          refine lv_iconst (v := 1) hx hb dX8_copy_111 (by decide) ?_
                          refine lv_goto (tgt := 116) hx hb dX8_copy_112 (by decide) ?_
                          exact bX8_copy_116 E hw hh (lv_sub hl [0, 1, 2, 3, 4, 5] rfl)
                    · have hw := ifF hw c18
                      refine lv_bipush (v := (-12)) hx hb dX8_copy_97 (by decide) ?_
                      exact x_iret E hh hw dX8_copy_99
          · have hw := ifF hw c11
            refine lv_bipush (v := (-13)) hx hb dX8_copy_53 (by decide) ?_
            exact x_iret E hh hw dX8_copy_55
        · have hw := ifT hw c8
          refine lv_bipush (v := (-11)) hx hb dX8_copy_35 (by decide) ?_
          exact x_iret E hh hw dX8_copy_37
    · have hw := ifT hw c4
      refine lv_bipush (v := (-2)) hx hb dX8_copy_14 (by decide) ?_
      exact x_iret E hh hw dX8_copy_16
theorem kX8_copy : kI yX8_copy cX8_copy 9 (some .int) 5 := ⟨tb1187, tb1188, tb15, tb1189, by decide, by decide, by decide +kernel⟩
theorem mX8_copy {l : Launch} {D : va_G} {ad : Nat → Nat → Nat} {cs : Nat → ClassId} {P : Nat → Nat → Prop} {sz tU : Nat} {adK adV : Nat → Nat} {x1 : Int32} {x2 : Int32} {x3 : Int32} {x4 : Int32} {x5 : Int32} {S : St} {K : Int32 → St → Prop} (hI : wI ad P) (hn : ∀ kd i, i < cnM kd → P kd i) (hw : wpX8_copy x1 x2 x3 x4 x5 S K) : MI l yX8_copy cX8_copy 9 (some .int) 3 105 D ad cs P sz tU adK adV [.ref (ad 40 0), .int x1, .int x2, .int x3, .int x4, .int x5] S K :=
  Met_of (by decide) (Nat.le_of_ble_eq_true rfl) hI hn (fun p e R s m args below meth c ls E hl hh => bX8_copy E  hw hh (lv_sub hl [0, 1, 2, 3, 4, 5] rfl))
def wbX8_likings_167 (R75 : Int32 → Int32 → St → Prop) (K : Int32 → St → Prop) (x1 : Int32) (x3 : Int32) (x4 : Int32) (x6 : Int32) (v0 : Int32) (v1 : Int32) (S : St) : Prop := R75 (v1 + v0) (x6 + 1) S
set_option maxRecDepth 4000 in
theorem bX8_likings_167 {p : Program} {l : Launch} {e : Env} {R : Room} {s : State} {m : MethodId} {args : Array Value} {below : List Frame} {meth : Method} {c : Code} {D : va_G} {ad : Nat → Nat → Nat} {cs : Nat → ClassId} {P : Nat → Nat → Prop} {sz tU : Nat} {adK adV : Nat → Nat} {R75 : Int32 → Int32 → St → Prop} {K : Int32 → St → Prop} {x1 : Int32} {x3 : Int32} {x4 : Int32} {x6 : Int32} {v0 : Int32} {v1 : Int32} {S : St} {H : Heap} {locs : List Loc} {ls : Array Slot} (E : Ex p s m args meth c R RX8 cX8_likings 8 (some .int) 4 132 D ad cs P (wA ad P) tU adK adV cnM) (hR75 : ∀ (z5 : Int32) (z6 : Int32) (S : St) (H : Heap) (locs : List Loc) (ls : Array Slot), R75 z5 z6 S → wH D ad cs P (wA ad P) s.heap sz S H locs → lv_has ls 8 [(0, .ref (ad 40 0)), (1, .int x1), (3, .int x3), (4, .int x4), (5, .int z5), (6, .int z6)] → W p l e R s m args below meth c H locs 0 0 (MQ below (va_Qi K (QX D ad cs P sz) (wA ad P)) args s 0 0 (wA ad P)) (F0 m 75 ls [])) (hw : wbX8_likings_167 R75 K x1 x3 x4 x6 v0 v1 S) (hh : wH D ad cs P (wA ad P) s.heap sz S H locs) (hl : lv_has ls 8 [(0, .ref (ad 40 0)), (1, .int x1), (3, .int x3), (4, .int x4), (6, .int x6)]) : W p l e R s m args below meth c H locs 0 0 (MQ below (va_Qi K (QX D ad cs P sz) (wA ad P)) args s 0 0 (wA ad P)) (F0 m 167 ls [.int v0, .int v1]) := by
  have hx := E.hx
  have hb := E.hb
  refine lv_iadd hx hb dX8_likings_167 ?_
  refine lv_istore (lv' := [(5, .int (v1 + v0)), (0, .ref (ad 40 0)), (1, .int x1), (3, .int x3), (4, .int x4), (6, .int x6)]) hx hb dX8_likings_168 hl (by decide) rfl (fun ls hl => ?_)
  refine lv_iinc (k := 5) (v := x6 + 1) (lv' := [(6, .int (x6 + 1)), (5, .int (v1 + v0)), (0, .ref (ad 40 0)), (1, .int x1), (3, .int x3), (4, .int x4)]) hx hb dX8_likings_170 hl rfl rfl (by decide) rfl (fun ls hl => ?_)
  refine lv_goto (tgt := 75) hx hb dX8_likings_173 (by decide) ?_
  exact hR75 (v1 + v0) (x6 + 1) S _ _ _ hw hh (lv_sub hl [2, 3, 4, 5, 1, 0] rfl)
def wbX8_likings_75 (K : Int32 → St → Prop) (x1 : Int32) (x3 : Int32) (x4 : Int32) : Nat → Int32 → Int32 → St → Prop
  | 0, _, _, _ => False
  | n + 1, x5, x6, S => if x4 ≤ x6 then (K x5 S) else (if x3 < 0 then (K (-12) S) else ((vp_in x1 4 ∧ if x3 ≤ (((S.1 66 0 x1.toNatClampNeg) - (4 * x6)) - 4) then ((vp_in (((40 * x1) + x3) + (4 * x6)) 160 ∧ (vp_in ((((40 * x1) + x3) + (4 * x6)) + 1) 160 ∧ (vp_in ((((40 * x1) + x3) + (4 * x6)) + 2) 160 ∧ (vp_in ((((40 * x1) + x3) + (4 * x6)) + 3) 160 ∧ wpX8_likes (S.1 67 0 (((40 * x1) + x3) + (4 * x6)).toNatClampNeg) (S.1 67 0 ((((40 * x1) + x3) + (4 * x6)) + 1).toNatClampNeg) (S.1 67 0 ((((40 * x1) + x3) + (4 * x6)) + 2).toNatClampNeg) (S.1 67 0 ((((40 * x1) + x3) + (4 * x6)) + 3).toNatClampNeg) S (fun r21 S21 => if r21 < 0 then (wbX8_likings_167 (fun yx5 yx6 S9 => wbX8_likings_75 K x1 x3 x4 n yx5 yx6 S9) K x1 x3 x4 x6 0 x5 S21) else (wbX8_likings_167 (fun yx5 yx6 S9 => wbX8_likings_75 K x1 x3 x4 n yx5 yx6 S9) K x1 x3 x4 x6 1 x5 S21))))))) else (K (-12) S))))
set_option maxRecDepth 4000 in
theorem bX8_likings_75 {p : Program} {l : Launch} {e : Env} {R : Room} {s : State} {m : MethodId} {args : Array Value} {below : List Frame} {meth : Method} {c : Code} {D : va_G} {ad : Nat → Nat → Nat} {cs : Nat → ClassId} {P : Nat → Nat → Prop} {sz tU : Nat} {adK adV : Nat → Nat} {K : Int32 → St → Prop} {x1 : Int32} {x3 : Int32} {x4 : Int32} (E : Ex p s m args meth c R RX8 cX8_likings 8 (some .int) 4 132 D ad cs P (wA ad P) tU adK adV cnM) : ∀ (n : Nat) (x5 : Int32) (x6 : Int32) (S : St) (H : Heap) (locs : List Loc) (ls : Array Slot), wbX8_likings_75 K x1 x3 x4 n x5 x6 S → wH D ad cs P (wA ad P) s.heap sz S H locs → lv_has ls 8 [(0, .ref (ad 40 0)), (1, .int x1), (3, .int x3), (4, .int x4), (5, .int x5), (6, .int x6)] → W p l e R s m args below meth c H locs 0 0 (MQ below (va_Qi K (QX D ad cs P sz) (wA ad P)) args s 0 0 (wA ad P)) (F0 m 75 ls []) := by
  have hx := E.hx
  have hb := E.hb
  intro n
  induction n with
  | zero => intro x5 x6 S H locs ls hw hh hl; exact hw.elim
  | succ n ih =>
    intro x5 x6 S H locs ls hw hh hl
    refine lv_iload hx hb dX8_likings_75 (lv_at hl 5 rfl) ?_
    refine lv_iload hx hb dX8_likings_77 (lv_at hl 3 rfl) ?_
    refine lv_icmp_ge (tgt := 176) hx hb dX8_likings_79 (by decide) (fun c13 => ?_) (fun c13 => ?_)
    · have hw := ifT hw c13
      refine lv_iload hx hb dX8_likings_176 (lv_at hl 4 rfl) ?_
      exact x_iret E hh hw dX8_likings_178
    · have hw := ifF hw c13
      refine lv_iload_n hx hb dX8_likings_82 rfl (lv_at hl 2 rfl) ?_
      refine lv_if_lt (tgt := 103) hx hb dX8_likings_83 (by decide) (fun c14 => ?_) (fun c14 => ?_)
      · have hw := ifT hw c14
        refine lv_bipush (v := (-12)) hx hb dX8_likings_103 (by decide) ?_
        exact x_iret E hh hw dX8_likings_105
      · have hw := ifF hw c14
        refine lv_iload_n hx hb dX8_likings_86 rfl (lv_at hl 2 rfl) ?_
        refine lv_aload_n hx hb dX8_likings_87 rfl (lv_at hl 0 rfl) ?_
        refine g_40_56 E hh tb790 (E.hn 40 0 (by decide)) dX8_likings_88 ?_
        refine lv_iload_n hx hb dX8_likings_91 rfl (lv_at hl 1 rfl) ?_
        obtain ⟨hi15, hw⟩ := hw
        refine x_iald E hh (E.hn 66 0 (by decide)) ly_66 hi15 dX8_likings_92 ?_
        refine lv_iconst (v := 4) hx hb dX8_likings_93 (by decide) ?_
        refine lv_iload hx hb dX8_likings_94 (lv_at hl 5 rfl) ?_
        refine lv_imul hx hb dX8_likings_96 ?_
        refine lv_isub hx hb dX8_likings_97 ?_
        refine lv_iconst (v := 4) hx hb dX8_likings_98 (by decide) ?_
        refine lv_isub hx hb dX8_likings_99 ?_
        refine lv_icmp_le (tgt := 106) hx hb dX8_likings_100 (by decide) (fun c16 => ?_) (fun c16 => ?_)
        · have hw := ifT hw c16
          refine lv_bipush (v := 40) hx hb dX8_likings_106 (by decide) ?_
          refine lv_iload_n hx hb dX8_likings_108 rfl (lv_at hl 1 rfl) ?_
          refine lv_imul hx hb dX8_likings_109 ?_
          refine lv_iload_n hx hb dX8_likings_110 rfl (lv_at hl 2 rfl) ?_
          refine lv_iadd hx hb dX8_likings_111 ?_
          refine lv_iconst (v := 4) hx hb dX8_likings_112 (by decide) ?_
          refine lv_iload hx hb dX8_likings_113 (lv_at hl 5 rfl) ?_
          refine lv_imul hx hb dX8_likings_115 ?_
          refine lv_iadd hx hb dX8_likings_116 ?_
          refine lv_istore (lv' := [(7, .int (((40 * x1) + x3) + (4 * x6))), (0, .ref (ad 40 0)), (1, .int x1), (3, .int x3), (4, .int x4), (5, .int x5), (6, .int x6)]) hx hb dX8_likings_117 hl (by decide) rfl (fun ls hl => ?_)
          refine lv_iload hx hb dX8_likings_119 (lv_at hl 5 rfl) ?_
          refine lv_aload_n hx hb dX8_likings_121 rfl (lv_at hl 1 rfl) ?_
          refine lv_aload_n hx hb dX8_likings_122 rfl (lv_at hl 1 rfl) ?_
          refine g_40_57 E hh tb791 (E.hn 40 0 (by decide)) dX8_likings_123 ?_
          refine lv_iload hx hb dX8_likings_126 (lv_at hl 0 rfl) ?_
          obtain ⟨hi17, hw⟩ := hw
          refine x_iald E hh (E.hn 67 0 (by decide)) ly_67 hi17 dX8_likings_128 ?_
          refine lv_aload_n hx hb dX8_likings_129 rfl (lv_at hl 1 rfl) ?_
          refine g_40_57 E hh tb791 (E.hn 40 0 (by decide)) dX8_likings_130 ?_
          refine lv_iload hx hb dX8_likings_133 (lv_at hl 0 rfl) ?_
          refine lv_iconst (v := 1) hx hb dX8_likings_135 (by decide) ?_
          refine lv_iadd hx hb dX8_likings_136 ?_
          obtain ⟨hi18, hw⟩ := hw
          refine x_iald E hh (E.hn 67 0 (by decide)) ly_67 hi18 dX8_likings_137 ?_
          refine lv_aload_n hx hb dX8_likings_138 rfl (lv_at hl 1 rfl) ?_
          refine g_40_57 E hh tb791 (E.hn 40 0 (by decide)) dX8_likings_139 ?_
          refine lv_iload hx hb dX8_likings_142 (lv_at hl 0 rfl) ?_
          refine lv_iconst (v := 2) hx hb dX8_likings_144 (by decide) ?_
          refine lv_iadd hx hb dX8_likings_145 ?_
          obtain ⟨hi19, hw⟩ := hw
          refine x_iald E hh (E.hn 67 0 (by decide)) ly_67 hi19 dX8_likings_146 ?_
          refine lv_aload_n hx hb dX8_likings_147 rfl (lv_at hl 1 rfl) ?_
          refine g_40_57 E hh tb791 (E.hn 40 0 (by decide)) dX8_likings_148 ?_
          refine lv_iload hx hb dX8_likings_151 (lv_at hl 0 rfl) ?_
          refine lv_iconst (v := 3) hx hb dX8_likings_153 (by decide) ?_
          refine lv_iadd hx hb dX8_likings_154 ?_
          obtain ⟨hi20, hw⟩ := hw
          refine x_iald E hh (E.hn 67 0 (by decide)) ly_67 hi20 dX8_likings_155 ?_
          refine x_ci E.hA hh (x_runV E hh (mX8_likes E.hI E.hn hw) kX8_likes tb1194 (E.hn 40 0 (by decide)) rv_40 ⟨by decide, by decide⟩ rfl hl.1 rfl (Nat.le_of_ble_eq_true rfl) dX8_likings_156 ⟨Nat.zero_le _, Nat.zero_le _⟩) (fun r21 S21 H locs hw hh => ?_)
          refine lv_if_lt (tgt := 166) hx hb dX8_likings_159 (by decide) (fun c22 => ?_) (fun c22 => ?_)
          · have hw := ifT hw c22
            refine lv_iconst (v := 0) hx hb dX8_likings_166 (by decide) ?_
            exact bX8_likings_167 E ih hw hh (lv_sub hl [1, 2, 3, 4, 6] rfl)
          · have hw := ifF hw c22
            refine lv_iconst (v := 1) hx hb dX8_likings_162 (by decide) ?_
            refine lv_goto (tgt := 167) hx hb dX8_likings_163 (by decide) ?_
            exact bX8_likings_167 E ih hw hh (lv_sub hl [1, 2, 3, 4, 6] rfl)
        · have hw := ifF hw c16
          refine lv_bipush (v := (-12)) hx hb dX8_likings_103 (by decide) ?_
          exact x_iret E hh hw dX8_likings_105
def wbX8_likings_57 (K : Int32 → St → Prop) (x1 : Int32) (x3 : Int32) (x4 : Int32) (S : St) : Prop := (vp_in x1 4 ∧ if (S.1 64 0 x1.toNatClampNeg) = 0 then (K (-11) S) else (∃ k, wbX8_likings_75 K x1 x3 x4 k 0 0 S))
set_option maxRecDepth 4000 in
theorem bX8_likings_57 {p : Program} {l : Launch} {e : Env} {R : Room} {s : State} {m : MethodId} {args : Array Value} {below : List Frame} {meth : Method} {c : Code} {D : va_G} {ad : Nat → Nat → Nat} {cs : Nat → ClassId} {P : Nat → Nat → Prop} {sz tU : Nat} {adK adV : Nat → Nat} {K : Int32 → St → Prop} {x1 : Int32} {x3 : Int32} {x4 : Int32} {S : St} {H : Heap} {locs : List Loc} {ls : Array Slot} (E : Ex p s m args meth c R RX8 cX8_likings 8 (some .int) 4 132 D ad cs P (wA ad P) tU adK adV cnM) (hw : wbX8_likings_57 K x1 x3 x4 S) (hh : wH D ad cs P (wA ad P) s.heap sz S H locs) (hl : lv_has ls 8 [(0, .ref (ad 40 0)), (1, .int x1), (3, .int x3), (4, .int x4)]) : W p l e R s m args below meth c H locs 0 0 (MQ below (va_Qi K (QX D ad cs P sz) (wA ad P)) args s 0 0 (wA ad P)) (F0 m 57 ls []) := by
  have hx := E.hx
  have hb := E.hb
  refine lv_aload_n hx hb dX8_likings_57 rfl (lv_at hl 0 rfl) ?_
  refine g_40_54 E hh tb788 (E.hn 40 0 (by decide)) dX8_likings_58 ?_
  refine lv_iload_n hx hb dX8_likings_61 rfl (lv_at hl 1 rfl) ?_
  obtain ⟨hi11, hw⟩ := hw
  refine x_zald E hh (E.hn 64 0 (by decide)) ly_64 hi11 dX8_likings_62 ?_
  refine lv_if_ne (tgt := 69) hx hb dX8_likings_63 (by decide) (fun c12 => ?_) (fun c12 => ?_)
  · have hw := ifF hw c12
    refine lv_iconst (v := 0) hx hb dX8_likings_69 (by decide) ?_
    refine lv_istore (lv' := [(5, .int 0), (0, .ref (ad 40 0)), (1, .int x1), (3, .int x3), (4, .int x4)]) hx hb dX8_likings_70 hl (by decide) rfl (fun ls hl => ?_)
    refine lv_iconst (v := 0) hx hb dX8_likings_72 (by decide) ?_
    refine lv_istore (lv' := [(6, .int 0), (5, .int 0), (0, .ref (ad 40 0)), (1, .int x1), (3, .int x3), (4, .int x4)]) hx hb dX8_likings_73 hl (by decide) rfl (fun ls hl => ?_)
    obtain ⟨k, hw⟩ := hw
    exact bX8_likings_75 E k 0 0 S _ _ _ hw hh (lv_sub hl [2, 3, 4, 5, 1, 0] rfl)
  · have hw := ifT hw c12
    refine lv_bipush (v := (-11)) hx hb dX8_likings_66 (by decide) ?_
    exact x_iret E hh hw dX8_likings_68
def wpX8_likings (x1 : Int32) (x2 : Int32) (x3 : Int32) (x4 : Int32) (S : St) (K : Int32 → St → Prop) : Prop := wpX8_isSheet x1 S (fun r1 S1 => if r1 = 0 then (K (-2) S1) else (wpX8_in x2.toInt64 0 2 S1 (fun r3 S3 => if r3 = 0 then (K (-2) S3) else (wpX8_in x4.toInt64 0 10 S3 (fun r5 S5 => if r5 = 0 then (K (-2) S5) else ((vp_in x1 4 ∧ if (S5.1 64 0 x1.toNatClampNeg) = 0 then (wbX8_likings_57 K x1 x3 x4 S5) else ((vp_in x1 4 ∧ if (S5.1 65 0 x1.toNatClampNeg) = x2 then (wbX8_likings_57 K x1 x3 x4 S5) else (K (-13) S5))))))))))
set_option maxRecDepth 4000 in
theorem bX8_likings {p : Program} {l : Launch} {e : Env} {R : Room} {s : State} {m : MethodId} {args : Array Value} {below : List Frame} {meth : Method} {c : Code} {D : va_G} {ad : Nat → Nat → Nat} {cs : Nat → ClassId} {P : Nat → Nat → Prop} {sz tU : Nat} {adK adV : Nat → Nat} {K : Int32 → St → Prop} {x1 : Int32} {x2 : Int32} {x3 : Int32} {x4 : Int32} {S : St} {H : Heap} {locs : List Loc} {ls : Array Slot} (E : Ex p s m args meth c R RX8 cX8_likings 8 (some .int) 4 132 D ad cs P (wA ad P) tU adK adV cnM) (hw : wpX8_likings x1 x2 x3 x4 S K) (hh : wH D ad cs P (wA ad P) s.heap sz S H locs) (hl : lv_has ls 8 [(0, .ref (ad 40 0)), (1, .int x1), (2, .int x2), (3, .int x3), (4, .int x4)]) : W p l e R s m args below meth c H locs 0 0 (MQ below (va_Qi K (QX D ad cs P sz) (wA ad P)) args s 0 0 (wA ad P)) (F0 m 0 ls []) := by
  have hx := E.hx
  have hb := E.hb
  refine lv_iload_n hx hb dX8_likings_0 rfl (lv_at hl 1 rfl) ?_
  refine x_ci E.hA hh (x_runS E hh (mX8_isSheet E.hI (fun _ _ h => absurd h (Nat.not_lt_zero _)) hw) kX8_isSheet tb1132 ⟨by decide, by decide⟩ rfl hl.1 rfl (Nat.le_of_ble_eq_true rfl) dX8_likings_1 ⟨Nat.zero_le _, Nat.zero_le _⟩) (fun r1 S1 H locs hw hh => ?_)
  have hq1 := hw.2
  have hw := hw.1
  refine lv_if_eq (tgt := 32) hx hb dX8_likings_4 (by decide) (fun c2 => ?_) (fun c2 => ?_)
  · have hw := ifT hw c2
    refine lv_bipush (v := (-2)) hx hb dX8_likings_32 (by decide) ?_
    exact x_iret E hh hw dX8_likings_34
  · have hw := ifF hw c2
    refine lv_iload_n hx hb dX8_likings_7 rfl (lv_at hl 2 rfl) ?_
    refine lv_i2l hx hb dX8_likings_8 rfl ?_
    refine lv_lconst (v := 0) hx hb dX8_likings_9 (by decide) ?_
    refine lv_ldc2 (v := 2) hx hb E.hown (E.hts _ tb939) dX8_likings_10 ?_
    refine x_ci E.hA hh (x_runS E hh (mX8_in E.hI (fun _ _ h => absurd h (Nat.not_lt_zero _)) hw) kX8_in tb914 ⟨by decide, by decide⟩ rfl hl.1 rfl (Nat.le_of_ble_eq_true rfl) dX8_likings_13 ⟨Nat.zero_le _, Nat.zero_le _⟩) (fun r3 S3 H locs hw hh => ?_)
    have hq3 := hw.2
    have hw := hw.1
    refine lv_if_eq (tgt := 32) hx hb dX8_likings_16 (by decide) (fun c4 => ?_) (fun c4 => ?_)
    · have hw := ifT hw c4
      refine lv_bipush (v := (-2)) hx hb dX8_likings_32 (by decide) ?_
      exact x_iret E hh hw dX8_likings_34
    · have hw := ifF hw c4
      refine lv_iload hx hb dX8_likings_19 (lv_at hl 4 rfl) ?_
      refine lv_i2l hx hb dX8_likings_21 rfl ?_
      refine lv_lconst (v := 0) hx hb dX8_likings_22 (by decide) ?_
      refine lv_ldc2 (v := 10) hx hb E.hown (E.hts _ tb978) dX8_likings_23 ?_
      refine x_ci E.hA hh (x_runS E hh (mX8_in E.hI (fun _ _ h => absurd h (Nat.not_lt_zero _)) hw) kX8_in tb914 ⟨by decide, by decide⟩ rfl hl.1 rfl (Nat.le_of_ble_eq_true rfl) dX8_likings_26 ⟨Nat.zero_le _, Nat.zero_le _⟩) (fun r5 S5 H locs hw hh => ?_)
      have hq5 := hw.2
      have hw := hw.1
      refine lv_if_ne (tgt := 35) hx hb dX8_likings_29 (by decide) (fun c6 => ?_) (fun c6 => ?_)
      · have hw := ifF hw c6
        refine lv_aload_n hx hb dX8_likings_35 rfl (lv_at hl 0 rfl) ?_
        refine g_40_54 E hh tb788 (E.hn 40 0 (by decide)) dX8_likings_36 ?_
        refine lv_iload_n hx hb dX8_likings_39 rfl (lv_at hl 1 rfl) ?_
        obtain ⟨hi7, hw⟩ := hw
        refine x_zald E hh (E.hn 64 0 (by decide)) ly_64 hi7 dX8_likings_40 ?_
        refine lv_if_eq (tgt := 57) hx hb dX8_likings_41 (by decide) (fun c8 => ?_) (fun c8 => ?_)
        · have hw := ifT hw c8
          exact bX8_likings_57 E hw hh (lv_sub hl [0, 1, 3, 4] rfl)
        · have hw := ifF hw c8
          refine lv_aload_n hx hb dX8_likings_44 rfl (lv_at hl 0 rfl) ?_
          refine g_40_55 E hh tb789 (E.hn 40 0 (by decide)) dX8_likings_45 ?_
          refine lv_iload_n hx hb dX8_likings_48 rfl (lv_at hl 1 rfl) ?_
          obtain ⟨hi9, hw⟩ := hw
          refine x_iald E hh (E.hn 65 0 (by decide)) ly_65 hi9 dX8_likings_49 ?_
          refine lv_iload_n hx hb dX8_likings_50 rfl (lv_at hl 2 rfl) ?_
          refine lv_icmp_eq (tgt := 57) hx hb dX8_likings_51 (by decide) (fun c10 => ?_) (fun c10 => ?_)
          · have hw := ifT hw c10
            exact bX8_likings_57 E hw hh (lv_sub hl [0, 1, 3, 4] rfl)
          · have hw := ifF hw c10
            refine lv_bipush (v := (-13)) hx hb dX8_likings_54 (by decide) ?_
            exact x_iret E hh hw dX8_likings_56
      · have hw := ifT hw c6
        refine lv_bipush (v := (-2)) hx hb dX8_likings_32 (by decide) ?_
        exact x_iret E hh hw dX8_likings_34
theorem kX8_likings : kI yX8_likings cX8_likings 8 (some .int) 4 := ⟨tb1191, tb1192, tb15, tb1193, by decide, by decide, by decide +kernel⟩
theorem mX8_likings {l : Launch} {D : va_G} {ad : Nat → Nat → Nat} {cs : Nat → ClassId} {P : Nat → Nat → Prop} {sz tU : Nat} {adK adV : Nat → Nat} {x1 : Int32} {x2 : Int32} {x3 : Int32} {x4 : Int32} {S : St} {K : Int32 → St → Prop} (hI : wI ad P) (hn : ∀ kd i, i < cnM kd → P kd i) (hw : wpX8_likings x1 x2 x3 x4 S K) : MI l yX8_likings cX8_likings 8 (some .int) 4 132 D ad cs P sz tU adK adV [.ref (ad 40 0), .int x1, .int x2, .int x3, .int x4] S K :=
  Met_of (by decide) (Nat.le_of_ble_eq_true rfl) hI hn (fun p e R s m args below meth c ls E hl hh => bX8_likings E  hw hh (lv_sub hl [0, 1, 2, 3, 4] rfl))
def wpX8_over (x0 : Int32) (S : St) (K : Int32 → St → Prop) : Prop := if x0 = 0 then (K (-1) S) else (if x0 = 3 then (K 2 S) else (if x0 = 4 then (K 1 S) else (K 0 S)))
set_option maxRecDepth 4000 in
theorem bX8_over {p : Program} {l : Launch} {e : Env} {R : Room} {s : State} {m : MethodId} {args : Array Value} {below : List Frame} {meth : Method} {c : Code} {D : va_G} {ad : Nat → Nat → Nat} {cs : Nat → ClassId} {P : Nat → Nat → Prop} {sz tU : Nat} {adK adV : Nat → Nat} {K : Int32 → St → Prop} {x0 : Int32} {S : St} {H : Heap} {locs : List Loc} {ls : Array Slot} (E : Ex p s m args meth c R RX8 cX8_over 1 (some .int) 1 60 D ad cs P (wA ad P) tU adK adV cn0) (hw : wpX8_over x0 S K) (hh : wH D ad cs P (wA ad P) s.heap sz S H locs) (hl : lv_has ls 1 [(0, .int x0)]) : W p l e R s m args below meth c H locs 0 0 (MQ below (va_Qi K (QX D ad cs P sz) (wA ad P)) args s 0 0 (wA ad P)) (F0 m 0 ls []) := by
  have hx := E.hx
  have hb := E.hb
  refine lv_iload_n hx hb dX8_over_0 rfl (lv_at hl 0 rfl) ?_
  refine lv_if_ne (tgt := 8) hx hb dX8_over_1 (by decide) (fun c1 => ?_) (fun c1 => ?_)
  · have hw := ifF hw c1
    refine lv_iload_n hx hb dX8_over_8 rfl (lv_at hl 0 rfl) ?_
    refine lv_iconst (v := 3) hx hb dX8_over_9 (by decide) ?_
    refine lv_icmp_ne (tgt := 17) hx hb dX8_over_10 (by decide) (fun c2 => ?_) (fun c2 => ?_)
    · have hw := ifF hw c2
      refine lv_iload_n hx hb dX8_over_17 rfl (lv_at hl 0 rfl) ?_
      refine lv_iconst (v := 4) hx hb dX8_over_18 (by decide) ?_
      refine lv_icmp_ne (tgt := 26) hx hb dX8_over_19 (by decide) (fun c3 => ?_) (fun c3 => ?_)
      · have hw := ifF hw c3
        refine lv_iconst (v := 0) hx hb dX8_over_26 (by decide) ?_
        exact x_iret E hh hw dX8_over_27
      · have hw := ifT hw c3
        refine lv_iconst (v := 1) hx hb dX8_over_22 (by decide) ?_
        refine lv_goto (tgt := 27) hx hb dX8_over_23 (by decide) ?_
        exact x_iret E hh hw dX8_over_27
    · have hw := ifT hw c2
      refine lv_iconst (v := 2) hx hb dX8_over_13 (by decide) ?_
      refine lv_goto (tgt := 27) hx hb dX8_over_14 (by decide) ?_
      exact x_iret E hh hw dX8_over_27
  · have hw := ifT hw c1
    refine lv_iconst (v := (-1)) hx hb dX8_over_4 (by decide) ?_
    refine lv_goto (tgt := 27) hx hb dX8_over_5 (by decide) ?_
    exact x_iret E hh hw dX8_over_27
theorem kX8_over : kS yX8_over cX8_over 1 (some .int) 1 := ⟨tb1200, tb15, tb1201, by decide, by decide, by decide +kernel⟩
theorem mX8_over {l : Launch} {D : va_G} {ad : Nat → Nat → Nat} {cs : Nat → ClassId} {P : Nat → Nat → Prop} {sz tU : Nat} {adK adV : Nat → Nat} {x0 : Int32} {S : St} {K : Int32 → St → Prop} (hI : wI ad P) (hn : ∀ kd i, i < cn0 kd → P kd i) (hw : wpX8_over x0 S K) : MI l yX8_over cX8_over 1 (some .int) 1 60 D ad cs P sz tU adK adV [.int x0] S K :=
  Met_of (by decide) (Nat.le_of_ble_eq_true rfl) hI hn (fun p e R s m args below meth c ls E hl hh => bX8_over E  hw hh (lv_sub hl [0] rfl))
def wbX8_taken_51 (K : Int32 → St → Prop) (x1 : Int32) (x2 : Int32) (x3 : Int32) (S : St) : Prop := if x3 = x2 then ((vp_in x1 4 ∧ K (S.1 50 0 x1.toNatClampNeg) S)) else (K (-13) S)
set_option maxRecDepth 4000 in
theorem bX8_taken_51 {p : Program} {l : Launch} {e : Env} {R : Room} {s : State} {m : MethodId} {args : Array Value} {below : List Frame} {meth : Method} {c : Code} {D : va_G} {ad : Nat → Nat → Nat} {cs : Nat → ClassId} {P : Nat → Nat → Prop} {sz tU : Nat} {adK adV : Nat → Nat} {K : Int32 → St → Prop} {x1 : Int32} {x2 : Int32} {x3 : Int32} {S : St} {H : Heap} {locs : List Loc} {ls : Array Slot} (E : Ex p s m args meth c R RX8 cX8_taken 4 (some .int) 3 106 D ad cs P (wA ad P) tU adK adV cnM) (hw : wbX8_taken_51 K x1 x2 x3 S) (hh : wH D ad cs P (wA ad P) s.heap sz S H locs) (hl : lv_has ls 4 [(0, .ref (ad 40 0)), (1, .int x1), (2, .int x2), (3, .int x3)]) : W p l e R s m args below meth c H locs 0 0 (MQ below (va_Qi K (QX D ad cs P sz) (wA ad P)) args s 0 0 (wA ad P)) (F0 m 51 ls []) := by
  have hx := E.hx
  have hb := E.hb
  refine lv_iload_n hx hb dX8_taken_51 rfl (lv_at hl 3 rfl) ?_
  refine lv_iload_n hx hb dX8_taken_52 rfl (lv_at hl 2 rfl) ?_
  refine lv_icmp_ne (tgt := 65) hx hb dX8_taken_53 (by decide) (fun c9 => ?_) (fun c9 => ?_)
  · have hw := ifF hw c9
    refine lv_bipush (v := (-13)) hx hb dX8_taken_65 (by decide) ?_
    exact x_iret E hh hw dX8_taken_67
  · have hw := ifT hw c9
    refine lv_aload_n hx hb dX8_taken_56 rfl (lv_at hl 0 rfl) ?_
    refine g_40_15 E hh tb749 (E.hn 40 0 (by decide)) dX8_taken_57 ?_
    refine lv_iload_n hx hb dX8_taken_60 rfl (lv_at hl 1 rfl) ?_
    obtain ⟨hi10, hw⟩ := hw
    refine x_iald E hh (E.hn 50 0 (by decide)) ly_50 hi10 dX8_taken_61 ?_
    refine lv_goto (tgt := 67) hx hb dX8_taken_62 (by decide) ?_
    exact x_iret E hh hw dX8_taken_67
def wbX8_taken_33 (K : Int32 → St → Prop) (x1 : Int32) (x2 : Int32) : Nat → Int32 → St → Prop
  | 0, _, _ => False
  | n + 1, x3, S => if x3 = (-1) then (wbX8_taken_51 K x1 x2 x3 S) else (if x3 = x2 then (wbX8_taken_51 K x1 x2 x3 S) else (wpX8_over x3 S (fun r8 S8 => wbX8_taken_33 K x1 x2 n r8 S8)))
set_option maxRecDepth 4000 in
theorem bX8_taken_33 {p : Program} {l : Launch} {e : Env} {R : Room} {s : State} {m : MethodId} {args : Array Value} {below : List Frame} {meth : Method} {c : Code} {D : va_G} {ad : Nat → Nat → Nat} {cs : Nat → ClassId} {P : Nat → Nat → Prop} {sz tU : Nat} {adK adV : Nat → Nat} {K : Int32 → St → Prop} {x1 : Int32} {x2 : Int32} (E : Ex p s m args meth c R RX8 cX8_taken 4 (some .int) 3 106 D ad cs P (wA ad P) tU adK adV cnM) : ∀ (n : Nat) (x3 : Int32) (S : St) (H : Heap) (locs : List Loc) (ls : Array Slot), wbX8_taken_33 K x1 x2 n x3 S → wH D ad cs P (wA ad P) s.heap sz S H locs → lv_has ls 4 [(0, .ref (ad 40 0)), (1, .int x1), (2, .int x2), (3, .int x3)] → W p l e R s m args below meth c H locs 0 0 (MQ below (va_Qi K (QX D ad cs P sz) (wA ad P)) args s 0 0 (wA ad P)) (F0 m 33 ls []) := by
  have hx := E.hx
  have hb := E.hb
  intro n
  induction n with
  | zero => intro x3 S H locs ls hw hh hl; exact hw.elim
  | succ n ih =>
    intro x3 S H locs ls hw hh hl
    refine lv_iload_n hx hb dX8_taken_33 rfl (lv_at hl 3 rfl) ?_
    refine lv_iconst (v := (-1)) hx hb dX8_taken_34 (by decide) ?_
    refine lv_icmp_eq (tgt := 51) hx hb dX8_taken_35 (by decide) (fun c6 => ?_) (fun c6 => ?_)
    · have hw := ifT hw c6
      exact bX8_taken_51 E hw hh (lv_sub hl [0, 1, 2, 3] rfl)
    · have hw := ifF hw c6
      refine lv_iload_n hx hb dX8_taken_38 rfl (lv_at hl 3 rfl) ?_
      refine lv_iload_n hx hb dX8_taken_39 rfl (lv_at hl 2 rfl) ?_
      refine lv_icmp_eq (tgt := 51) hx hb dX8_taken_40 (by decide) (fun c7 => ?_) (fun c7 => ?_)
      · have hw := ifT hw c7
        exact bX8_taken_51 E hw hh (lv_sub hl [0, 1, 2, 3] rfl)
      · have hw := ifF hw c7
        refine lv_iload_n hx hb dX8_taken_43 rfl (lv_at hl 3 rfl) ?_
        refine x_ci E.hA hh (x_runS E hh (mX8_over E.hI (fun _ _ h => absurd h (Nat.not_lt_zero _)) hw) kX8_over tb1199 ⟨by decide, by decide⟩ rfl hl.1 rfl (Nat.le_of_ble_eq_true rfl) dX8_taken_44 ⟨Nat.zero_le _, Nat.zero_le _⟩) (fun r8 S8 H locs hw hh => ?_)
        refine lv_istore_n (lv' := [(3, .int r8), (0, .ref (ad 40 0)), (1, .int x1), (2, .int x2)]) hx hb dX8_taken_47 rfl hl (by decide) rfl (fun ls hl => ?_)
        refine lv_goto (tgt := 33) hx hb dX8_taken_48 (by decide) ?_
        exact ih r8 S8 _ _ _ hw hh (lv_sub hl [1, 2, 3, 0] rfl)
def wpX8_taken (x1 : Int32) (x2 : Int32) (S : St) (K : Int32 → St → Prop) : Prop := wpX8_in x2.toInt64 0 5 S (fun r1 S1 => if r1 = 0 then (K (-2) S1) else (wpX8_isMaid x1 S1 (fun r3 S3 => if r3 = 0 then (K (-11) S3) else ((vp_in x1 4 ∧ ∃ k, wbX8_taken_33 K x1 x2 k (S3.1 49 0 x1.toNatClampNeg) S3)))))
set_option maxRecDepth 4000 in
theorem bX8_taken {p : Program} {l : Launch} {e : Env} {R : Room} {s : State} {m : MethodId} {args : Array Value} {below : List Frame} {meth : Method} {c : Code} {D : va_G} {ad : Nat → Nat → Nat} {cs : Nat → ClassId} {P : Nat → Nat → Prop} {sz tU : Nat} {adK adV : Nat → Nat} {K : Int32 → St → Prop} {x1 : Int32} {x2 : Int32} {S : St} {H : Heap} {locs : List Loc} {ls : Array Slot} (E : Ex p s m args meth c R RX8 cX8_taken 4 (some .int) 3 106 D ad cs P (wA ad P) tU adK adV cnM) (hw : wpX8_taken x1 x2 S K) (hh : wH D ad cs P (wA ad P) s.heap sz S H locs) (hl : lv_has ls 4 [(0, .ref (ad 40 0)), (1, .int x1), (2, .int x2)]) : W p l e R s m args below meth c H locs 0 0 (MQ below (va_Qi K (QX D ad cs P sz) (wA ad P)) args s 0 0 (wA ad P)) (F0 m 0 ls []) := by
  have hx := E.hx
  have hb := E.hb
  refine lv_iload_n hx hb dX8_taken_0 rfl (lv_at hl 2 rfl) ?_
  refine lv_i2l hx hb dX8_taken_1 rfl ?_
  refine lv_lconst (v := 0) hx hb dX8_taken_2 (by decide) ?_
  refine lv_ldc2 (v := 5) hx hb E.hown (E.hts _ tb921) dX8_taken_3 ?_
  refine x_ci E.hA hh (x_runS E hh (mX8_in E.hI (fun _ _ h => absurd h (Nat.not_lt_zero _)) hw) kX8_in tb914 ⟨by decide, by decide⟩ rfl hl.1 rfl (Nat.le_of_ble_eq_true rfl) dX8_taken_6 ⟨Nat.zero_le _, Nat.zero_le _⟩) (fun r1 S1 H locs hw hh => ?_)
  have hq1 := hw.2
  have hw := hw.1
  refine lv_if_ne (tgt := 15) hx hb dX8_taken_9 (by decide) (fun c2 => ?_) (fun c2 => ?_)
  · have hw := ifF hw c2
    refine lv_aload_n hx hb dX8_taken_15 rfl (lv_at hl 0 rfl) ?_
    refine lv_iload_n hx hb dX8_taken_16 rfl (lv_at hl 1 rfl) ?_
    refine x_ci E.hA hh (x_runV E hh (mX8_isMaid E.hI E.hn hw) kX8_isMaid tb930 (E.hn 40 0 (by decide)) rv_40 ⟨by decide, by decide⟩ rfl hl.1 rfl (Nat.le_of_ble_eq_true rfl) dX8_taken_17 ⟨Nat.zero_le _, Nat.zero_le _⟩) (fun r3 S3 H locs hw hh => ?_)
    have hq3 := hw.2
    have hw := hw.1
    refine lv_if_ne (tgt := 26) hx hb dX8_taken_20 (by decide) (fun c4 => ?_) (fun c4 => ?_)
    · have hw := ifF hw c4
      refine lv_aload_n hx hb dX8_taken_26 rfl (lv_at hl 0 rfl) ?_
      refine g_40_14 E hh tb748 (E.hn 40 0 (by decide)) dX8_taken_27 ?_
      refine lv_iload_n hx hb dX8_taken_30 rfl (lv_at hl 1 rfl) ?_
      obtain ⟨hi5, hw⟩ := hw
      refine x_iald E hh (E.hn 49 0 (by decide)) ly_49 hi5 dX8_taken_31 ?_
      refine lv_istore_n (lv' := [(3, .int (S3.1 49 0 x1.toNatClampNeg)), (0, .ref (ad 40 0)), (1, .int x1), (2, .int x2)]) hx hb dX8_taken_32 rfl hl (by decide) rfl (fun ls hl => ?_)
      obtain ⟨k, hw⟩ := hw
      exact bX8_taken_33 E k (S3.1 49 0 x1.toNatClampNeg) S3 _ _ _ hw hh (lv_sub hl [1, 2, 3, 0] rfl)
    · have hw := ifT hw c4
      refine lv_bipush (v := (-11)) hx hb dX8_taken_23 (by decide) ?_
      exact x_iret E hh hw dX8_taken_25
  · have hw := ifT hw c2
    refine lv_bipush (v := (-2)) hx hb dX8_taken_12 (by decide) ?_
    exact x_iret E hh hw dX8_taken_14
theorem kX8_taken : kI yX8_taken cX8_taken 4 (some .int) 2 := ⟨tb1196, tb1197, tb15, tb1198, by decide, by decide, by decide +kernel⟩
theorem mX8_taken {l : Launch} {D : va_G} {ad : Nat → Nat → Nat} {cs : Nat → ClassId} {P : Nat → Nat → Prop} {sz tU : Nat} {adK adV : Nat → Nat} {x1 : Int32} {x2 : Int32} {S : St} {K : Int32 → St → Prop} (hI : wI ad P) (hn : ∀ kd i, i < cnM kd → P kd i) (hw : wpX8_taken x1 x2 S K) : MI l yX8_taken cX8_taken 4 (some .int) 3 106 D ad cs P sz tU adK adV [.ref (ad 40 0), .int x1, .int x2] S K :=
  Met_of (by decide) (Nat.le_of_ble_eq_true rfl) hI hn (fun p e R s m args below meth c ls E hl hh => bX8_taken E  hw hh (lv_sub hl [0, 1, 2] rfl))
