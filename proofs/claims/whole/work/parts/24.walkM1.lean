/-! walks, written by wip/whole/tools/walk.py: 24.walkM1 -/
def wpX8_in (x0 : Int64) (x2 : Int64) (x4 : Int64) (S : St) (K : Int32 → St → Prop) : Prop := if (lg_cmp x0 x2) < 0 then (K 0 S) else (if 0 < (lg_cmp x0 x4) then (K 0 S) else (K 1 S))
set_option maxRecDepth 4000 in
theorem bX8_in {p : Program} {l : Launch} {e : Env} {R : Room} {s : State} {m : MethodId} {args : Array Value} {below : List Frame} {meth : Method} {c : Code} {D : va_G} {ad : Nat → Nat → Nat} {cs : Nat → ClassId} {P : Nat → Nat → Prop} {sz tU : Nat} {adK adV : Nat → Nat} {K : Int32 → St → Prop} {x0 : Int64} {x2 : Int64} {x4 : Int64} {S : St} {H : Heap} {locs : List Loc} {ls : Array Slot} (E : Ex p s m args meth c R RX8 cX8_in 6 (some .boolean) 1 60 D ad cs P (wA ad P) tU adK adV cn0) (hw : wpX8_in x0 x2 x4 S K) (hh : wH D ad cs P (wA ad P) s.heap sz S H locs) (hl : lv_has ls 6 [(0, .long x0), (2, .long x2), (4, .long x4)]) : W p l e R s m args below meth c H locs 0 0 (MQ below (va_Qi (fun r S => K r S ∧ narrow .boolean (.int r) = .int r) (QX D ad cs P sz) (wA ad P)) args s 0 0 (wA ad P)) (F0 m 0 ls []) := by
  have hx := E.hx
  have hb := E.hb
  refine lv_lload_n hx hb dX8_in_0 rfl (lv_at hl 0 rfl) ?_
  refine lv_lload_n hx hb dX8_in_1 rfl (lv_at hl 1 rfl) ?_
  refine W.lcmp hx hb dX8_in_2 ?_
  refine lv_if_lt (tgt := 17) hx hb dX8_in_3 (by decide) (fun c1 => ?_) (fun c1 => ?_)
  · have hw := ifT hw c1
    refine lv_iconst (v := 0) hx hb dX8_in_17 (by decide) ?_
    exact x_zret E hh hw rfl dX8_in_18
  · have hw := ifF hw c1
    refine lv_lload_n hx hb dX8_in_6 rfl (lv_at hl 0 rfl) ?_
    refine lv_lload hx hb dX8_in_7 (lv_at hl 2 rfl) ?_
    refine W.lcmp hx hb dX8_in_9 ?_
    refine lv_if_gt (tgt := 17) hx hb dX8_in_10 (by decide) (fun c2 => ?_) (fun c2 => ?_)
    · have hw := ifT hw c2
      refine lv_iconst (v := 0) hx hb dX8_in_17 (by decide) ?_
      exact x_zret E hh hw rfl dX8_in_18
    · have hw := ifF hw c2
      refine lv_iconst (v := 1) hx hb dX8_in_13 (by decide) ?_
      refine lv_goto (tgt := 18) hx hb dX8_in_14 (by decide) ?_
      exact x_zret E hh hw rfl dX8_in_18
theorem kX8_in : kS yX8_in cX8_in 6 (some .boolean) 3 := ⟨tb915, tb15, tb916, by decide, by decide, by decide +kernel⟩
theorem mX8_in {l : Launch} {D : va_G} {ad : Nat → Nat → Nat} {cs : Nat → ClassId} {P : Nat → Nat → Prop} {sz tU : Nat} {adK adV : Nat → Nat} {x0 : Int64} {x2 : Int64} {x4 : Int64} {S : St} {K : Int32 → St → Prop} (hI : wI ad P) (hn : ∀ kd i, i < cn0 kd → P kd i) (hw : wpX8_in x0 x2 x4 S K) : MI l yX8_in cX8_in 6 (some .boolean) 1 60 D ad cs P sz tU adK adV [.long x0, .long x2, .long x4] S (fun r S => K r S ∧ narrow .boolean (.int r) = .int r) :=
  Met_of (by decide) (Nat.le_of_ble_eq_true rfl) hI hn (fun p e R s m args below meth c ls E hl hh => bX8_in E  hw hh (lv_sub hl [0, 1, 2] rfl))
def wpX8_within (x0 : Int32) (x1 : Int32) (x2 : Int32) (S : St) (K : Int32 → St → Prop) : Prop := if x1 ≤ x0 then (if x0 ≤ x2 then (K x0 S) else (K x2 S)) else (K x1 S)
set_option maxRecDepth 4000 in
theorem bX8_within {p : Program} {l : Launch} {e : Env} {R : Room} {s : State} {m : MethodId} {args : Array Value} {below : List Frame} {meth : Method} {c : Code} {D : va_G} {ad : Nat → Nat → Nat} {cs : Nat → ClassId} {P : Nat → Nat → Prop} {sz tU : Nat} {adK adV : Nat → Nat} {K : Int32 → St → Prop} {x0 : Int32} {x1 : Int32} {x2 : Int32} {S : St} {H : Heap} {locs : List Loc} {ls : Array Slot} (E : Ex p s m args meth c R RX8 cX8_within 3 (some .int) 1 60 D ad cs P (wA ad P) tU adK adV cn0) (hw : wpX8_within x0 x1 x2 S K) (hh : wH D ad cs P (wA ad P) s.heap sz S H locs) (hl : lv_has ls 3 [(0, .int x0), (1, .int x1), (2, .int x2)]) : W p l e R s m args below meth c H locs 0 0 (MQ below (va_Qi K (QX D ad cs P sz) (wA ad P)) args s 0 0 (wA ad P)) (F0 m 0 ls []) := by
  have hx := E.hx
  have hb := E.hb
  refine lv_iload_n hx hb dX8_within_0 rfl (lv_at hl 0 rfl) ?_
  refine lv_iload_n hx hb dX8_within_1 rfl (lv_at hl 1 rfl) ?_
  refine lv_icmp_ge (tgt := 9) hx hb dX8_within_2 (by decide) (fun c1 => ?_) (fun c1 => ?_)
  · have hw := ifT hw c1
    refine lv_iload_n hx hb dX8_within_9 rfl (lv_at hl 0 rfl) ?_
    refine lv_iload_n hx hb dX8_within_10 rfl (lv_at hl 2 rfl) ?_
    refine lv_icmp_le (tgt := 18) hx hb dX8_within_11 (by decide) (fun c2 => ?_) (fun c2 => ?_)
    · have hw := ifT hw c2
      refine lv_iload_n hx hb dX8_within_18 rfl (lv_at hl 0 rfl) ?_
      exact x_iret E hh hw dX8_within_19
    · have hw := ifF hw c2
      refine lv_iload_n hx hb dX8_within_14 rfl (lv_at hl 2 rfl) ?_
      refine lv_goto (tgt := 19) hx hb dX8_within_15 (by decide) ?_
      exact x_iret E hh hw dX8_within_19
  · have hw := ifF hw c1
    refine lv_iload_n hx hb dX8_within_5 rfl (lv_at hl 1 rfl) ?_
    refine lv_goto (tgt := 19) hx hb dX8_within_6 (by decide) ?_
    exact x_iret E hh hw dX8_within_19
theorem kX8_within : kS yX8_within cX8_within 3 (some .int) 3 := ⟨tb1050, tb15, tb1051, by decide, by decide, by decide +kernel⟩
theorem mX8_within {l : Launch} {D : va_G} {ad : Nat → Nat → Nat} {cs : Nat → ClassId} {P : Nat → Nat → Prop} {sz tU : Nat} {adK adV : Nat → Nat} {x0 : Int32} {x1 : Int32} {x2 : Int32} {S : St} {K : Int32 → St → Prop} (hI : wI ad P) (hn : ∀ kd i, i < cn0 kd → P kd i) (hw : wpX8_within x0 x1 x2 S K) : MI l yX8_within cX8_within 3 (some .int) 1 60 D ad cs P sz tU adK adV [.int x0, .int x1, .int x2] S K :=
  Met_of (by decide) (Nat.le_of_ble_eq_true rfl) hI hn (fun p e R s m args below meth c ls E hl hh => bX8_within E  hw hh (lv_sub hl [0, 1, 2] rfl))
def wpX8_spell (x1 : Int32) (x2 : Int32) (x3 : Int32) (x4 : Int32) (x5 : Int32) (x6 : Int32) (x7 : Int32) (x8 : Int32) (x9 : Int32) (S : St) (K : St → Prop) : Prop := (vp_in x1 960 ∧ ∀ S1, S1 = su S 41 0 x1.toNatClampNeg x2 → (vp_in (x1 + 1) 960 ∧ ∀ S2, S2 = su S1 41 0 (x1 + 1).toNatClampNeg x3 → (vp_in (x1 + 2) 960 ∧ ∀ S3, S3 = su S2 41 0 (x1 + 2).toNatClampNeg x4 → (vp_in (x1 + 3) 960 ∧ ∀ S4, S4 = su S3 41 0 (x1 + 3).toNatClampNeg x5 → (vp_in (x1 + 4) 960 ∧ ∀ S5, S5 = su S4 41 0 (x1 + 4).toNatClampNeg x6 → (vp_in (x1 + 5) 960 ∧ ∀ S6, S6 = su S5 41 0 (x1 + 5).toNatClampNeg x7 → (vp_in (x1 + 6) 960 ∧ ∀ S7, S7 = su S6 41 0 (x1 + 6).toNatClampNeg x8 → (vp_in (x1 + 7) 960 ∧ ∀ S8, S8 = su S7 41 0 (x1 + 7).toNatClampNeg x9 → K S8))))))))
set_option maxRecDepth 4000 in
theorem bX8_spell {p : Program} {l : Launch} {e : Env} {R : Room} {s : State} {m : MethodId} {args : Array Value} {below : List Frame} {meth : Method} {c : Code} {D : va_G} {ad : Nat → Nat → Nat} {cs : Nat → ClassId} {P : Nat → Nat → Prop} {sz tU : Nat} {adK adV : Nat → Nat} {K : St → Prop} {x1 : Int32} {x2 : Int32} {x3 : Int32} {x4 : Int32} {x5 : Int32} {x6 : Int32} {x7 : Int32} {x8 : Int32} {x9 : Int32} {S : St} {H : Heap} {locs : List Loc} {ls : Array Slot} (E : Ex p s m args meth c R RX8 cX8_spell 10 none 1 60 D ad cs P (wA ad P) tU adK adV cnM) (hw : wpX8_spell x1 x2 x3 x4 x5 x6 x7 x8 x9 S K) (hh : wH D ad cs P (wA ad P) s.heap sz S H locs) (hl : lv_has ls 10 [(0, .ref (ad 40 0)), (1, .int x1), (2, .int x2), (3, .int x3), (4, .int x4), (5, .int x5), (6, .int x6), (7, .int x7), (8, .int x8), (9, .int x9)]) : W p l e R s m args below meth c H locs 0 0 (MQ below (va_Qv K (QX D ad cs P sz) (wA ad P)) args s 0 0 (wA ad P)) (F0 m 0 ls []) := by
  have hx := E.hx
  have hb := E.hb
  refine lv_aload_n hx hb dX8_spell_0 rfl (lv_at hl 0 rfl) ?_
  refine g_40_1 E hh tb735 (E.hn 40 0 (by decide)) dX8_spell_1 ?_
  refine lv_iload_n hx hb dX8_spell_4 rfl (lv_at hl 1 rfl) ?_
  refine lv_iload_n hx hb dX8_spell_5 rfl (lv_at hl 2 rfl) ?_
  obtain ⟨hi1, hw⟩ := hw
  refine x_iast E hh (E.hn 41 0 (by decide)) ly_41 hi1 dX8_spell_6 (fun S1 H locs e1 hh => ?_)
  have hw := hw S1 e1
  refine lv_aload_n hx hb dX8_spell_7 rfl (lv_at hl 0 rfl) ?_
  refine g_40_1 E hh tb735 (E.hn 40 0 (by decide)) dX8_spell_8 ?_
  refine lv_iload_n hx hb dX8_spell_11 rfl (lv_at hl 1 rfl) ?_
  refine lv_iconst (v := 1) hx hb dX8_spell_12 (by decide) ?_
  refine lv_iadd hx hb dX8_spell_13 ?_
  refine lv_iload_n hx hb dX8_spell_14 rfl (lv_at hl 3 rfl) ?_
  obtain ⟨hi2, hw⟩ := hw
  refine x_iast E hh (E.hn 41 0 (by decide)) ly_41 hi2 dX8_spell_15 (fun S2 H locs e2 hh => ?_)
  have hw := hw S2 e2
  refine lv_aload_n hx hb dX8_spell_16 rfl (lv_at hl 0 rfl) ?_
  refine g_40_1 E hh tb735 (E.hn 40 0 (by decide)) dX8_spell_17 ?_
  refine lv_iload_n hx hb dX8_spell_20 rfl (lv_at hl 1 rfl) ?_
  refine lv_iconst (v := 2) hx hb dX8_spell_21 (by decide) ?_
  refine lv_iadd hx hb dX8_spell_22 ?_
  refine lv_iload hx hb dX8_spell_23 (lv_at hl 4 rfl) ?_
  obtain ⟨hi3, hw⟩ := hw
  refine x_iast E hh (E.hn 41 0 (by decide)) ly_41 hi3 dX8_spell_25 (fun S3 H locs e3 hh => ?_)
  have hw := hw S3 e3
  refine lv_aload_n hx hb dX8_spell_26 rfl (lv_at hl 0 rfl) ?_
  refine g_40_1 E hh tb735 (E.hn 40 0 (by decide)) dX8_spell_27 ?_
  refine lv_iload_n hx hb dX8_spell_30 rfl (lv_at hl 1 rfl) ?_
  refine lv_iconst (v := 3) hx hb dX8_spell_31 (by decide) ?_
  refine lv_iadd hx hb dX8_spell_32 ?_
  refine lv_iload hx hb dX8_spell_33 (lv_at hl 5 rfl) ?_
  obtain ⟨hi4, hw⟩ := hw
  refine x_iast E hh (E.hn 41 0 (by decide)) ly_41 hi4 dX8_spell_35 (fun S4 H locs e4 hh => ?_)
  have hw := hw S4 e4
  refine lv_aload_n hx hb dX8_spell_36 rfl (lv_at hl 0 rfl) ?_
  refine g_40_1 E hh tb735 (E.hn 40 0 (by decide)) dX8_spell_37 ?_
  refine lv_iload_n hx hb dX8_spell_40 rfl (lv_at hl 1 rfl) ?_
  refine lv_iconst (v := 4) hx hb dX8_spell_41 (by decide) ?_
  refine lv_iadd hx hb dX8_spell_42 ?_
  refine lv_iload hx hb dX8_spell_43 (lv_at hl 6 rfl) ?_
  obtain ⟨hi5, hw⟩ := hw
  refine x_iast E hh (E.hn 41 0 (by decide)) ly_41 hi5 dX8_spell_45 (fun S5 H locs e5 hh => ?_)
  have hw := hw S5 e5
  refine lv_aload_n hx hb dX8_spell_46 rfl (lv_at hl 0 rfl) ?_
  refine g_40_1 E hh tb735 (E.hn 40 0 (by decide)) dX8_spell_47 ?_
  refine lv_iload_n hx hb dX8_spell_50 rfl (lv_at hl 1 rfl) ?_
  refine lv_iconst (v := 5) hx hb dX8_spell_51 (by decide) ?_
  refine lv_iadd hx hb dX8_spell_52 ?_
  refine lv_iload hx hb dX8_spell_53 (lv_at hl 7 rfl) ?_
  obtain ⟨hi6, hw⟩ := hw
  refine x_iast E hh (E.hn 41 0 (by decide)) ly_41 hi6 dX8_spell_55 (fun S6 H locs e6 hh => ?_)
  have hw := hw S6 e6
  refine lv_aload_n hx hb dX8_spell_56 rfl (lv_at hl 0 rfl) ?_
  refine g_40_1 E hh tb735 (E.hn 40 0 (by decide)) dX8_spell_57 ?_
  refine lv_iload_n hx hb dX8_spell_60 rfl (lv_at hl 1 rfl) ?_
  refine lv_bipush (v := 6) hx hb dX8_spell_61 (by decide) ?_
  refine lv_iadd hx hb dX8_spell_63 ?_
  refine lv_iload hx hb dX8_spell_64 (lv_at hl 8 rfl) ?_
  obtain ⟨hi7, hw⟩ := hw
  refine x_iast E hh (E.hn 41 0 (by decide)) ly_41 hi7 dX8_spell_66 (fun S7 H locs e7 hh => ?_)
  have hw := hw S7 e7
  refine lv_aload_n hx hb dX8_spell_67 rfl (lv_at hl 0 rfl) ?_
  refine g_40_1 E hh tb735 (E.hn 40 0 (by decide)) dX8_spell_68 ?_
  refine lv_iload_n hx hb dX8_spell_71 rfl (lv_at hl 1 rfl) ?_
  refine lv_bipush (v := 7) hx hb dX8_spell_72 (by decide) ?_
  refine lv_iadd hx hb dX8_spell_74 ?_
  refine lv_iload hx hb dX8_spell_75 (lv_at hl 9 rfl) ?_
  obtain ⟨hi8, hw⟩ := hw
  refine x_iast E hh (E.hn 41 0 (by decide)) ly_41 hi8 dX8_spell_77 (fun S8 H locs e8 hh => ?_)
  have hw := hw S8 e8
  exact x_vret E hh hw dX8_spell_78
theorem kX8_spell : kI yX8_spell cX8_spell 10 none 9 := ⟨tb733, ts26, tb15, tb734, by decide, by decide, by decide +kernel⟩
theorem mX8_spell {l : Launch} {D : va_G} {ad : Nat → Nat → Nat} {cs : Nat → ClassId} {P : Nat → Nat → Prop} {sz tU : Nat} {adK adV : Nat → Nat} {x1 : Int32} {x2 : Int32} {x3 : Int32} {x4 : Int32} {x5 : Int32} {x6 : Int32} {x7 : Int32} {x8 : Int32} {x9 : Int32} {S : St} {K : St → Prop} (hI : wI ad P) (hn : ∀ kd i, i < cnM kd → P kd i) (hw : wpX8_spell x1 x2 x3 x4 x5 x6 x7 x8 x9 S K) : MV l yX8_spell cX8_spell 10 none 1 60 D ad cs P sz tU adK adV [.ref (ad 40 0), .int x1, .int x2, .int x3, .int x4, .int x5, .int x6, .int x7, .int x8, .int x9] S K :=
  Met_of (by decide) (Nat.le_of_ble_eq_true rfl) hI hn (fun p e R s m args below meth c ls E hl hh => bX8_spell E  hw hh (lv_sub hl [0, 1, 2, 3, 4, 5, 6, 7, 8, 9] rfl))
def wpX8_isMan (x1 : Int32) (S : St) (K : Int32 → St → Prop) : Prop := wpX8_in x1.toInt64 0 (((S.1 40 0 7) - 1).toInt64) S (fun r1 S1 => K r1 S1)
set_option maxRecDepth 4000 in
theorem bX8_isMan {p : Program} {l : Launch} {e : Env} {R : Room} {s : State} {m : MethodId} {args : Array Value} {below : List Frame} {meth : Method} {c : Code} {D : va_G} {ad : Nat → Nat → Nat} {cs : Nat → ClassId} {P : Nat → Nat → Prop} {sz tU : Nat} {adK adV : Nat → Nat} {K : Int32 → St → Prop} {x1 : Int32} {S : St} {H : Heap} {locs : List Loc} {ls : Array Slot} (E : Ex p s m args meth c R RX8 cX8_isMan 2 (some .boolean) 2 85 D ad cs P (wA ad P) tU adK adV cnM) (hw : wpX8_isMan x1 S K) (hh : wH D ad cs P (wA ad P) s.heap sz S H locs) (hl : lv_has ls 2 [(0, .ref (ad 40 0)), (1, .int x1)]) : W p l e R s m args below meth c H locs 0 0 (MQ below (va_Qi (fun r S => K r S ∧ narrow .boolean (.int r) = .int r) (QX D ad cs P sz) (wA ad P)) args s 0 0 (wA ad P)) (F0 m 0 ls []) := by
  have hx := E.hx
  have hb := E.hb
  refine lv_iload_n hx hb dX8_isMan_0 rfl (lv_at hl 1 rfl) ?_
  refine lv_i2l hx hb dX8_isMan_1 rfl ?_
  refine lv_lconst (v := 0) hx hb dX8_isMan_2 (by decide) ?_
  refine lv_aload_n hx hb dX8_isMan_3 rfl (lv_at hl 0 rfl) ?_
  refine g_40_7 E hh tb741 (E.hn 40 0 (by decide)) dX8_isMan_4 ?_
  refine lv_iconst (v := 1) hx hb dX8_isMan_7 (by decide) ?_
  refine lv_isub hx hb dX8_isMan_8 ?_
  refine lv_i2l hx hb dX8_isMan_9 rfl ?_
  refine x_ci E.hA hh (x_runS E hh (mX8_in E.hI (fun _ _ h => absurd h (Nat.not_lt_zero _)) hw) kX8_in tb914 ⟨by decide, by decide⟩ rfl hl.1 rfl (Nat.le_of_ble_eq_true rfl) dX8_isMan_10 ⟨Nat.zero_le _, Nat.zero_le _⟩) (fun r1 S1 H locs hw hh => ?_)
  have hq1 := hw.2
  have hw := hw.1
  exact x_zret E hh hw hq1 dX8_isMan_13
theorem kX8_isMan : kI yX8_isMan cX8_isMan 2 (some .boolean) 1 := ⟨tb928, ts27, tb15, tb929, by decide, by decide, by decide +kernel⟩
theorem mX8_isMan {l : Launch} {D : va_G} {ad : Nat → Nat → Nat} {cs : Nat → ClassId} {P : Nat → Nat → Prop} {sz tU : Nat} {adK adV : Nat → Nat} {x1 : Int32} {S : St} {K : Int32 → St → Prop} (hI : wI ad P) (hn : ∀ kd i, i < cnM kd → P kd i) (hw : wpX8_isMan x1 S K) : MI l yX8_isMan cX8_isMan 2 (some .boolean) 2 85 D ad cs P sz tU adK adV [.ref (ad 40 0), .int x1] S (fun r S => K r S ∧ narrow .boolean (.int r) = .int r) :=
  Met_of (by decide) (Nat.le_of_ble_eq_true rfl) hI hn (fun p e R s m args below meth c ls E hl hh => bX8_isMan E  hw hh (lv_sub hl [0, 1] rfl))
def wpX8_isMaid (x1 : Int32) (S : St) (K : Int32 → St → Prop) : Prop := wpX8_in x1.toInt64 0 (((S.1 40 0 8) - 1).toInt64) S (fun r1 S1 => K r1 S1)
set_option maxRecDepth 4000 in
theorem bX8_isMaid {p : Program} {l : Launch} {e : Env} {R : Room} {s : State} {m : MethodId} {args : Array Value} {below : List Frame} {meth : Method} {c : Code} {D : va_G} {ad : Nat → Nat → Nat} {cs : Nat → ClassId} {P : Nat → Nat → Prop} {sz tU : Nat} {adK adV : Nat → Nat} {K : Int32 → St → Prop} {x1 : Int32} {S : St} {H : Heap} {locs : List Loc} {ls : Array Slot} (E : Ex p s m args meth c R RX8 cX8_isMaid 2 (some .boolean) 2 85 D ad cs P (wA ad P) tU adK adV cnM) (hw : wpX8_isMaid x1 S K) (hh : wH D ad cs P (wA ad P) s.heap sz S H locs) (hl : lv_has ls 2 [(0, .ref (ad 40 0)), (1, .int x1)]) : W p l e R s m args below meth c H locs 0 0 (MQ below (va_Qi (fun r S => K r S ∧ narrow .boolean (.int r) = .int r) (QX D ad cs P sz) (wA ad P)) args s 0 0 (wA ad P)) (F0 m 0 ls []) := by
  have hx := E.hx
  have hb := E.hb
  refine lv_iload_n hx hb dX8_isMaid_0 rfl (lv_at hl 1 rfl) ?_
  refine lv_i2l hx hb dX8_isMaid_1 rfl ?_
  refine lv_lconst (v := 0) hx hb dX8_isMaid_2 (by decide) ?_
  refine lv_aload_n hx hb dX8_isMaid_3 rfl (lv_at hl 0 rfl) ?_
  refine g_40_8 E hh tb742 (E.hn 40 0 (by decide)) dX8_isMaid_4 ?_
  refine lv_iconst (v := 1) hx hb dX8_isMaid_7 (by decide) ?_
  refine lv_isub hx hb dX8_isMaid_8 ?_
  refine lv_i2l hx hb dX8_isMaid_9 rfl ?_
  refine x_ci E.hA hh (x_runS E hh (mX8_in E.hI (fun _ _ h => absurd h (Nat.not_lt_zero _)) hw) kX8_in tb914 ⟨by decide, by decide⟩ rfl hl.1 rfl (Nat.le_of_ble_eq_true rfl) dX8_isMaid_10 ⟨Nat.zero_le _, Nat.zero_le _⟩) (fun r1 S1 H locs hw hh => ?_)
  have hq1 := hw.2
  have hw := hw.1
  exact x_zret E hh hw hq1 dX8_isMaid_13
theorem kX8_isMaid : kI yX8_isMaid cX8_isMaid 2 (some .boolean) 1 := ⟨tb932, ts28, tb15, tb933, by decide, by decide, by decide +kernel⟩
theorem mX8_isMaid {l : Launch} {D : va_G} {ad : Nat → Nat → Nat} {cs : Nat → ClassId} {P : Nat → Nat → Prop} {sz tU : Nat} {adK adV : Nat → Nat} {x1 : Int32} {S : St} {K : Int32 → St → Prop} (hI : wI ad P) (hn : ∀ kd i, i < cnM kd → P kd i) (hw : wpX8_isMaid x1 S K) : MI l yX8_isMaid cX8_isMaid 2 (some .boolean) 2 85 D ad cs P sz tU adK adV [.ref (ad 40 0), .int x1] S (fun r S => K r S ∧ narrow .boolean (.int r) = .int r) :=
  Met_of (by decide) (Nat.le_of_ble_eq_true rfl) hI hn (fun p e R s m args below meth c ls E hl hh => bX8_isMaid E  hw hh (lv_sub hl [0, 1] rfl))
def wbX8_man_48 (K : Int32 → St → Prop) : Nat → Int32 → St → Prop
  | 0, _, _ => False
  | n + 1, x2, S => if 4 ≤ x2 then ((∀ S7, S7 = su S 40 0 7 ((S.1 40 0 7) + 1) → K ((S7.1 40 0 7) - 1) S7)) else ((vp_in ((4 * (S.1 40 0 7)) + x2) 16 ∧ ∀ S8, S8 = su S 44 0 ((4 * (S.1 40 0 7)) + x2).toNatClampNeg 50 → (vp_in ((4 * (S8.1 40 0 7)) + x2) 16 ∧ ∀ S9, S9 = su S8 45 0 ((4 * (S8.1 40 0 7)) + x2).toNatClampNeg 50 → wbX8_man_48 K n (x2 + 1) S9)))
set_option maxRecDepth 4000 in
theorem bX8_man_48 {p : Program} {l : Launch} {e : Env} {R : Room} {s : State} {m : MethodId} {args : Array Value} {below : List Frame} {meth : Method} {c : Code} {D : va_G} {ad : Nat → Nat → Nat} {cs : Nat → ClassId} {P : Nat → Nat → Prop} {sz tU : Nat} {adK adV : Nat → Nat} {K : Int32 → St → Prop} (E : Ex p s m args meth c R RX8 cX8_man 3 (some .int) 2 85 D ad cs P (wA ad P) tU adK adV cnM) : ∀ (n : Nat) (x2 : Int32) (S : St) (H : Heap) (locs : List Loc) (ls : Array Slot), wbX8_man_48 K n x2 S → wH D ad cs P (wA ad P) s.heap sz S H locs → lv_has ls 3 [(0, .ref (ad 40 0)), (2, .int x2)] → W p l e R s m args below meth c H locs 0 0 (MQ below (va_Qi K (QX D ad cs P sz) (wA ad P)) args s 0 0 (wA ad P)) (F0 m 48 ls []) := by
  have hx := E.hx
  have hb := E.hb
  intro n
  induction n with
  | zero => intro x2 S H locs ls hw hh hl; exact hw.elim
  | succ n ih =>
    intro x2 S H locs ls hw hh hl
    refine lv_iload_n hx hb dX8_man_48 rfl (lv_at hl 1 rfl) ?_
    refine lv_iconst (v := 4) hx hb dX8_man_49 (by decide) ?_
    refine lv_icmp_ge (tgt := 89) hx hb dX8_man_50 (by decide) (fun c6 => ?_) (fun c6 => ?_)
    · have hw := ifT hw c6
      refine lv_aload_n hx hb dX8_man_89 rfl (lv_at hl 0 rfl) ?_
      refine lv_dup hx hb dX8_man_90 rfl ?_
      refine g_40_7 E hh tb741 (E.hn 40 0 (by decide)) dX8_man_91 ?_
      refine lv_iconst (v := 1) hx hb dX8_man_94 (by decide) ?_
      refine lv_iadd hx hb dX8_man_95 ?_
      refine p_40_7 E hh tb741 (E.hn 40 0 (by decide)) dX8_man_96 (fun S7 H locs e7 hh => ?_)
      have hw := hw S7 e7
      refine lv_aload_n hx hb dX8_man_99 rfl (lv_at hl 0 rfl) ?_
      refine g_40_7 E hh tb741 (E.hn 40 0 (by decide)) dX8_man_100 ?_
      refine lv_iconst (v := 1) hx hb dX8_man_103 (by decide) ?_
      refine lv_isub hx hb dX8_man_104 ?_
      exact x_iret E hh hw dX8_man_105
    · have hw := ifF hw c6
      refine lv_aload_n hx hb dX8_man_53 rfl (lv_at hl 0 rfl) ?_
      refine g_40_9 E hh tb743 (E.hn 40 0 (by decide)) dX8_man_54 ?_
      refine lv_iconst (v := 4) hx hb dX8_man_57 (by decide) ?_
      refine lv_aload_n hx hb dX8_man_58 rfl (lv_at hl 0 rfl) ?_
      refine g_40_7 E hh tb741 (E.hn 40 0 (by decide)) dX8_man_59 ?_
      refine lv_imul hx hb dX8_man_62 ?_
      refine lv_iload_n hx hb dX8_man_63 rfl (lv_at hl 1 rfl) ?_
      refine lv_iadd hx hb dX8_man_64 ?_
      refine lv_bipush (v := 50) hx hb dX8_man_65 (by decide) ?_
      obtain ⟨hi8, hw⟩ := hw
      refine x_iast E hh (E.hn 44 0 (by decide)) ly_44 hi8 dX8_man_67 (fun S8 H locs e8 hh => ?_)
      have hw := hw S8 e8
      refine lv_aload_n hx hb dX8_man_68 rfl (lv_at hl 0 rfl) ?_
      refine g_40_10 E hh tb744 (E.hn 40 0 (by decide)) dX8_man_69 ?_
      refine lv_iconst (v := 4) hx hb dX8_man_72 (by decide) ?_
      refine lv_aload_n hx hb dX8_man_73 rfl (lv_at hl 0 rfl) ?_
      refine g_40_7 E hh tb741 (E.hn 40 0 (by decide)) dX8_man_74 ?_
      refine lv_imul hx hb dX8_man_77 ?_
      refine lv_iload_n hx hb dX8_man_78 rfl (lv_at hl 1 rfl) ?_
      refine lv_iadd hx hb dX8_man_79 ?_
      refine lv_bipush (v := 50) hx hb dX8_man_80 (by decide) ?_
      obtain ⟨hi9, hw⟩ := hw
      refine x_iast E hh (E.hn 45 0 (by decide)) ly_45 hi9 dX8_man_82 (fun S9 H locs e9 hh => ?_)
      have hw := hw S9 e9
      refine lv_iinc (k := 1) (v := x2 + 1) (lv' := [(2, .int (x2 + 1)), (0, .ref (ad 40 0))]) hx hb dX8_man_83 hl rfl rfl (by decide) rfl (fun ls hl => ?_)
      refine lv_goto (tgt := 48) hx hb dX8_man_86 (by decide) ?_
      exact ih (x2 + 1) S9 _ _ _ hw hh (lv_sub hl [1, 0] rfl)
def wpX8_man (x1 : Int32) (S : St) (K : Int32 → St → Prop) : Prop := wpX8_in x1.toInt64 0 9 S (fun r1 S1 => if r1 = 0 then (K (-2) S1) else (if (S1.1 40 0 7) = 4 then (K (-4) S1) else ((vp_in (S1.1 40 0 7) 4 ∧ ∀ S4, S4 = su S1 46 0 (S1.1 40 0 7).toNatClampNeg x1 → (vp_in (S4.1 40 0 7) 4 ∧ ∀ S5, S5 = su S4 47 0 (S4.1 40 0 7).toNatClampNeg (-1) → ∃ k, wbX8_man_48 K k 0 S5)))))
set_option maxRecDepth 4000 in
theorem bX8_man {p : Program} {l : Launch} {e : Env} {R : Room} {s : State} {m : MethodId} {args : Array Value} {below : List Frame} {meth : Method} {c : Code} {D : va_G} {ad : Nat → Nat → Nat} {cs : Nat → ClassId} {P : Nat → Nat → Prop} {sz tU : Nat} {adK adV : Nat → Nat} {K : Int32 → St → Prop} {x1 : Int32} {S : St} {H : Heap} {locs : List Loc} {ls : Array Slot} (E : Ex p s m args meth c R RX8 cX8_man 3 (some .int) 2 85 D ad cs P (wA ad P) tU adK adV cnM) (hw : wpX8_man x1 S K) (hh : wH D ad cs P (wA ad P) s.heap sz S H locs) (hl : lv_has ls 3 [(0, .ref (ad 40 0)), (1, .int x1)]) : W p l e R s m args below meth c H locs 0 0 (MQ below (va_Qi K (QX D ad cs P sz) (wA ad P)) args s 0 0 (wA ad P)) (F0 m 0 ls []) := by
  have hx := E.hx
  have hb := E.hb
  refine lv_iload_n hx hb dX8_man_0 rfl (lv_at hl 1 rfl) ?_
  refine lv_i2l hx hb dX8_man_1 rfl ?_
  refine lv_lconst (v := 0) hx hb dX8_man_2 (by decide) ?_
  refine lv_ldc2 (v := 9) hx hb E.hown (E.hts _ tb913) dX8_man_3 ?_
  refine x_ci E.hA hh (x_runS E hh (mX8_in E.hI (fun _ _ h => absurd h (Nat.not_lt_zero _)) hw) kX8_in tb914 ⟨by decide, by decide⟩ rfl hl.1 rfl (Nat.le_of_ble_eq_true rfl) dX8_man_6 ⟨Nat.zero_le _, Nat.zero_le _⟩) (fun r1 S1 H locs hw hh => ?_)
  have hq1 := hw.2
  have hw := hw.1
  refine lv_if_ne (tgt := 15) hx hb dX8_man_9 (by decide) (fun c2 => ?_) (fun c2 => ?_)
  · have hw := ifF hw c2
    refine lv_aload_n hx hb dX8_man_15 rfl (lv_at hl 0 rfl) ?_
    refine g_40_7 E hh tb741 (E.hn 40 0 (by decide)) dX8_man_16 ?_
    refine lv_iconst (v := 4) hx hb dX8_man_19 (by decide) ?_
    refine lv_icmp_ne (tgt := 26) hx hb dX8_man_20 (by decide) (fun c3 => ?_) (fun c3 => ?_)
    · have hw := ifF hw c3
      refine lv_aload_n hx hb dX8_man_26 rfl (lv_at hl 0 rfl) ?_
      refine g_40_11 E hh tb745 (E.hn 40 0 (by decide)) dX8_man_27 ?_
      refine lv_aload_n hx hb dX8_man_30 rfl (lv_at hl 0 rfl) ?_
      refine g_40_7 E hh tb741 (E.hn 40 0 (by decide)) dX8_man_31 ?_
      refine lv_iload_n hx hb dX8_man_34 rfl (lv_at hl 1 rfl) ?_
      obtain ⟨hi4, hw⟩ := hw
      refine x_iast E hh (E.hn 46 0 (by decide)) ly_46 hi4 dX8_man_35 (fun S4 H locs e4 hh => ?_)
      have hw := hw S4 e4
      refine lv_aload_n hx hb dX8_man_36 rfl (lv_at hl 0 rfl) ?_
      refine g_40_12 E hh tb746 (E.hn 40 0 (by decide)) dX8_man_37 ?_
      refine lv_aload_n hx hb dX8_man_40 rfl (lv_at hl 0 rfl) ?_
      refine g_40_7 E hh tb741 (E.hn 40 0 (by decide)) dX8_man_41 ?_
      refine lv_iconst (v := (-1)) hx hb dX8_man_44 (by decide) ?_
      obtain ⟨hi5, hw⟩ := hw
      refine x_iast E hh (E.hn 47 0 (by decide)) ly_47 hi5 dX8_man_45 (fun S5 H locs e5 hh => ?_)
      have hw := hw S5 e5
      refine lv_iconst (v := 0) hx hb dX8_man_46 (by decide) ?_
      refine lv_istore_n (lv' := [(2, .int 0), (0, .ref (ad 40 0)), (1, .int x1)]) hx hb dX8_man_47 rfl hl (by decide) rfl (fun ls hl => ?_)
      obtain ⟨k, hw⟩ := hw
      exact bX8_man_48 E k 0 S5 _ _ _ hw hh (lv_sub hl [1, 0] rfl)
    · have hw := ifT hw c3
      refine lv_bipush (v := (-4)) hx hb dX8_man_23 (by decide) ?_
      exact x_iret E hh hw dX8_man_25
  · have hw := ifT hw c2
    refine lv_bipush (v := (-2)) hx hb dX8_man_12 (by decide) ?_
    exact x_iret E hh hw dX8_man_14
theorem kX8_man : kI yX8_man cX8_man 3 (some .int) 1 := ⟨tb910, tb911, tb15, tb912, by decide, by decide, by decide +kernel⟩
theorem mX8_man {l : Launch} {D : va_G} {ad : Nat → Nat → Nat} {cs : Nat → ClassId} {P : Nat → Nat → Prop} {sz tU : Nat} {adK adV : Nat → Nat} {x1 : Int32} {S : St} {K : Int32 → St → Prop} (hI : wI ad P) (hn : ∀ kd i, i < cnM kd → P kd i) (hw : wpX8_man x1 S K) : MI l yX8_man cX8_man 3 (some .int) 2 85 D ad cs P sz tU adK adV [.ref (ad 40 0), .int x1] S K :=
  Met_of (by decide) (Nat.le_of_ble_eq_true rfl) hI hn (fun p e R s m args below meth c ls E hl hh => bX8_man E  hw hh (lv_sub hl [0, 1] rfl))
def wbX8_maid_70 (K : Int32 → St → Prop) : Nat → Int32 → St → Prop
  | 0, _, _ => False
  | n + 1, x3, S => if 4 ≤ x3 then ((∀ S10, S10 = su S 40 0 8 ((S.1 40 0 8) + 1) → K ((S10.1 40 0 8) - 1) S10)) else ((vp_in ((4 * x3) + (S.1 40 0 8)) 16 ∧ ∀ S11, S11 = su S 44 0 ((4 * x3) + (S.1 40 0 8)).toNatClampNeg 50 → (vp_in ((4 * x3) + (S11.1 40 0 8)) 16 ∧ ∀ S12, S12 = su S11 45 0 ((4 * x3) + (S11.1 40 0 8)).toNatClampNeg 50 → wbX8_maid_70 K n (x3 + 1) S12)))
set_option maxRecDepth 4000 in
theorem bX8_maid_70 {p : Program} {l : Launch} {e : Env} {R : Room} {s : State} {m : MethodId} {args : Array Value} {below : List Frame} {meth : Method} {c : Code} {D : va_G} {ad : Nat → Nat → Nat} {cs : Nat → ClassId} {P : Nat → Nat → Prop} {sz tU : Nat} {adK adV : Nat → Nat} {K : Int32 → St → Prop} (E : Ex p s m args meth c R RX8 cX8_maid 4 (some .int) 2 85 D ad cs P (wA ad P) tU adK adV cnM) : ∀ (n : Nat) (x3 : Int32) (S : St) (H : Heap) (locs : List Loc) (ls : Array Slot), wbX8_maid_70 K n x3 S → wH D ad cs P (wA ad P) s.heap sz S H locs → lv_has ls 4 [(0, .ref (ad 40 0)), (3, .int x3)] → W p l e R s m args below meth c H locs 0 0 (MQ below (va_Qi K (QX D ad cs P sz) (wA ad P)) args s 0 0 (wA ad P)) (F0 m 70 ls []) := by
  have hx := E.hx
  have hb := E.hb
  intro n
  induction n with
  | zero => intro x3 S H locs ls hw hh hl; exact hw.elim
  | succ n ih =>
    intro x3 S H locs ls hw hh hl
    refine lv_iload_n hx hb dX8_maid_70 rfl (lv_at hl 1 rfl) ?_
    refine lv_iconst (v := 4) hx hb dX8_maid_71 (by decide) ?_
    refine lv_icmp_ge (tgt := 111) hx hb dX8_maid_72 (by decide) (fun c9 => ?_) (fun c9 => ?_)
    · have hw := ifT hw c9
      refine lv_aload_n hx hb dX8_maid_111 rfl (lv_at hl 0 rfl) ?_
      refine lv_dup hx hb dX8_maid_112 rfl ?_
      refine g_40_8 E hh tb742 (E.hn 40 0 (by decide)) dX8_maid_113 ?_
      refine lv_iconst (v := 1) hx hb dX8_maid_116 (by decide) ?_
      refine lv_iadd hx hb dX8_maid_117 ?_
      refine p_40_8 E hh tb742 (E.hn 40 0 (by decide)) dX8_maid_118 (fun S10 H locs e10 hh => ?_)
      have hw := hw S10 e10
      refine lv_aload_n hx hb dX8_maid_121 rfl (lv_at hl 0 rfl) ?_
      refine g_40_8 E hh tb742 (E.hn 40 0 (by decide)) dX8_maid_122 ?_
      refine lv_iconst (v := 1) hx hb dX8_maid_125 (by decide) ?_
      refine lv_isub hx hb dX8_maid_126 ?_
      exact x_iret E hh hw dX8_maid_127
    · have hw := ifF hw c9
      refine lv_aload_n hx hb dX8_maid_75 rfl (lv_at hl 0 rfl) ?_
      refine g_40_9 E hh tb743 (E.hn 40 0 (by decide)) dX8_maid_76 ?_
      refine lv_iconst (v := 4) hx hb dX8_maid_79 (by decide) ?_
      refine lv_iload_n hx hb dX8_maid_80 rfl (lv_at hl 1 rfl) ?_
      refine lv_imul hx hb dX8_maid_81 ?_
      refine lv_aload_n hx hb dX8_maid_82 rfl (lv_at hl 0 rfl) ?_
      refine g_40_8 E hh tb742 (E.hn 40 0 (by decide)) dX8_maid_83 ?_
      refine lv_iadd hx hb dX8_maid_86 ?_
      refine lv_bipush (v := 50) hx hb dX8_maid_87 (by decide) ?_
      obtain ⟨hi11, hw⟩ := hw
      refine x_iast E hh (E.hn 44 0 (by decide)) ly_44 hi11 dX8_maid_89 (fun S11 H locs e11 hh => ?_)
      have hw := hw S11 e11
      refine lv_aload_n hx hb dX8_maid_90 rfl (lv_at hl 0 rfl) ?_
      refine g_40_10 E hh tb744 (E.hn 40 0 (by decide)) dX8_maid_91 ?_
      refine lv_iconst (v := 4) hx hb dX8_maid_94 (by decide) ?_
      refine lv_iload_n hx hb dX8_maid_95 rfl (lv_at hl 1 rfl) ?_
      refine lv_imul hx hb dX8_maid_96 ?_
      refine lv_aload_n hx hb dX8_maid_97 rfl (lv_at hl 0 rfl) ?_
      refine g_40_8 E hh tb742 (E.hn 40 0 (by decide)) dX8_maid_98 ?_
      refine lv_iadd hx hb dX8_maid_101 ?_
      refine lv_bipush (v := 50) hx hb dX8_maid_102 (by decide) ?_
      obtain ⟨hi12, hw⟩ := hw
      refine x_iast E hh (E.hn 45 0 (by decide)) ly_45 hi12 dX8_maid_104 (fun S12 H locs e12 hh => ?_)
      have hw := hw S12 e12
      refine lv_iinc (k := 1) (v := x3 + 1) (lv' := [(3, .int (x3 + 1)), (0, .ref (ad 40 0))]) hx hb dX8_maid_105 hl rfl rfl (by decide) rfl (fun ls hl => ?_)
      refine lv_goto (tgt := 70) hx hb dX8_maid_108 (by decide) ?_
      exact ih (x3 + 1) S12 _ _ _ hw hh (lv_sub hl [1, 0] rfl)
def wpX8_maid (x1 : Int32) (x2 : Int32) (S : St) (K : Int32 → St → Prop) : Prop := wpX8_in x1.toInt64 0 5 S (fun r1 S1 => if r1 = 0 then (K (-2) S1) else (wpX8_in x2.toInt64 0 9 S1 (fun r3 S3 => if r3 = 0 then (K (-2) S3) else (if (S3.1 40 0 8) = 4 then (K (-4) S3) else ((vp_in (S3.1 40 0 8) 4 ∧ ∀ S6, S6 = su S3 49 0 (S3.1 40 0 8).toNatClampNeg x1 → (vp_in (S6.1 40 0 8) 4 ∧ ∀ S7, S7 = su S6 50 0 (S6.1 40 0 8).toNatClampNeg x2 → (vp_in (S7.1 40 0 8) 4 ∧ ∀ S8, S8 = su S7 48 0 (S7.1 40 0 8).toNatClampNeg (-1) → ∃ k, wbX8_maid_70 K k 0 S8))))))))
set_option maxRecDepth 4000 in
theorem bX8_maid {p : Program} {l : Launch} {e : Env} {R : Room} {s : State} {m : MethodId} {args : Array Value} {below : List Frame} {meth : Method} {c : Code} {D : va_G} {ad : Nat → Nat → Nat} {cs : Nat → ClassId} {P : Nat → Nat → Prop} {sz tU : Nat} {adK adV : Nat → Nat} {K : Int32 → St → Prop} {x1 : Int32} {x2 : Int32} {S : St} {H : Heap} {locs : List Loc} {ls : Array Slot} (E : Ex p s m args meth c R RX8 cX8_maid 4 (some .int) 2 85 D ad cs P (wA ad P) tU adK adV cnM) (hw : wpX8_maid x1 x2 S K) (hh : wH D ad cs P (wA ad P) s.heap sz S H locs) (hl : lv_has ls 4 [(0, .ref (ad 40 0)), (1, .int x1), (2, .int x2)]) : W p l e R s m args below meth c H locs 0 0 (MQ below (va_Qi K (QX D ad cs P sz) (wA ad P)) args s 0 0 (wA ad P)) (F0 m 0 ls []) := by
  have hx := E.hx
  have hb := E.hb
  refine lv_iload_n hx hb dX8_maid_0 rfl (lv_at hl 1 rfl) ?_
  refine lv_i2l hx hb dX8_maid_1 rfl ?_
  refine lv_lconst (v := 0) hx hb dX8_maid_2 (by decide) ?_
  refine lv_ldc2 (v := 5) hx hb E.hown (E.hts _ tb921) dX8_maid_3 ?_
  refine x_ci E.hA hh (x_runS E hh (mX8_in E.hI (fun _ _ h => absurd h (Nat.not_lt_zero _)) hw) kX8_in tb914 ⟨by decide, by decide⟩ rfl hl.1 rfl (Nat.le_of_ble_eq_true rfl) dX8_maid_6 ⟨Nat.zero_le _, Nat.zero_le _⟩) (fun r1 S1 H locs hw hh => ?_)
  have hq1 := hw.2
  have hw := hw.1
  refine lv_if_eq (tgt := 24) hx hb dX8_maid_9 (by decide) (fun c2 => ?_) (fun c2 => ?_)
  · have hw := ifT hw c2
    refine lv_bipush (v := (-2)) hx hb dX8_maid_24 (by decide) ?_
    exact x_iret E hh hw dX8_maid_26
  · have hw := ifF hw c2
    refine lv_iload_n hx hb dX8_maid_12 rfl (lv_at hl 2 rfl) ?_
    refine lv_i2l hx hb dX8_maid_13 rfl ?_
    refine lv_lconst (v := 0) hx hb dX8_maid_14 (by decide) ?_
    refine lv_ldc2 (v := 9) hx hb E.hown (E.hts _ tb913) dX8_maid_15 ?_
    refine x_ci E.hA hh (x_runS E hh (mX8_in E.hI (fun _ _ h => absurd h (Nat.not_lt_zero _)) hw) kX8_in tb914 ⟨by decide, by decide⟩ rfl hl.1 rfl (Nat.le_of_ble_eq_true rfl) dX8_maid_18 ⟨Nat.zero_le _, Nat.zero_le _⟩) (fun r3 S3 H locs hw hh => ?_)
    have hq3 := hw.2
    have hw := hw.1
    refine lv_if_ne (tgt := 27) hx hb dX8_maid_21 (by decide) (fun c4 => ?_) (fun c4 => ?_)
    · have hw := ifF hw c4
      refine lv_aload_n hx hb dX8_maid_27 rfl (lv_at hl 0 rfl) ?_
      refine g_40_8 E hh tb742 (E.hn 40 0 (by decide)) dX8_maid_28 ?_
      refine lv_iconst (v := 4) hx hb dX8_maid_31 (by decide) ?_
      refine lv_icmp_ne (tgt := 38) hx hb dX8_maid_32 (by decide) (fun c5 => ?_) (fun c5 => ?_)
      · have hw := ifF hw c5
        refine lv_aload_n hx hb dX8_maid_38 rfl (lv_at hl 0 rfl) ?_
        refine g_40_14 E hh tb748 (E.hn 40 0 (by decide)) dX8_maid_39 ?_
        refine lv_aload_n hx hb dX8_maid_42 rfl (lv_at hl 0 rfl) ?_
        refine g_40_8 E hh tb742 (E.hn 40 0 (by decide)) dX8_maid_43 ?_
        refine lv_iload_n hx hb dX8_maid_46 rfl (lv_at hl 1 rfl) ?_
        obtain ⟨hi6, hw⟩ := hw
        refine x_iast E hh (E.hn 49 0 (by decide)) ly_49 hi6 dX8_maid_47 (fun S6 H locs e6 hh => ?_)
        have hw := hw S6 e6
        refine lv_aload_n hx hb dX8_maid_48 rfl (lv_at hl 0 rfl) ?_
        refine g_40_15 E hh tb749 (E.hn 40 0 (by decide)) dX8_maid_49 ?_
        refine lv_aload_n hx hb dX8_maid_52 rfl (lv_at hl 0 rfl) ?_
        refine g_40_8 E hh tb742 (E.hn 40 0 (by decide)) dX8_maid_53 ?_
        refine lv_iload_n hx hb dX8_maid_56 rfl (lv_at hl 2 rfl) ?_
        obtain ⟨hi7, hw⟩ := hw
        refine x_iast E hh (E.hn 50 0 (by decide)) ly_50 hi7 dX8_maid_57 (fun S7 H locs e7 hh => ?_)
        have hw := hw S7 e7
        refine lv_aload_n hx hb dX8_maid_58 rfl (lv_at hl 0 rfl) ?_
        refine g_40_13 E hh tb747 (E.hn 40 0 (by decide)) dX8_maid_59 ?_
        refine lv_aload_n hx hb dX8_maid_62 rfl (lv_at hl 0 rfl) ?_
        refine g_40_8 E hh tb742 (E.hn 40 0 (by decide)) dX8_maid_63 ?_
        refine lv_iconst (v := (-1)) hx hb dX8_maid_66 (by decide) ?_
        obtain ⟨hi8, hw⟩ := hw
        refine x_iast E hh (E.hn 48 0 (by decide)) ly_48 hi8 dX8_maid_67 (fun S8 H locs e8 hh => ?_)
        have hw := hw S8 e8
        refine lv_iconst (v := 0) hx hb dX8_maid_68 (by decide) ?_
        refine lv_istore_n (lv' := [(3, .int 0), (0, .ref (ad 40 0)), (1, .int x1), (2, .int x2)]) hx hb dX8_maid_69 rfl hl (by decide) rfl (fun ls hl => ?_)
        obtain ⟨k, hw⟩ := hw
        exact bX8_maid_70 E k 0 S8 _ _ _ hw hh (lv_sub hl [1, 0] rfl)
      · have hw := ifT hw c5
        refine lv_bipush (v := (-4)) hx hb dX8_maid_35 (by decide) ?_
        exact x_iret E hh hw dX8_maid_37
    · have hw := ifT hw c4
      refine lv_bipush (v := (-2)) hx hb dX8_maid_24 (by decide) ?_
      exact x_iret E hh hw dX8_maid_26
theorem kX8_maid : kI yX8_maid cX8_maid 4 (some .int) 2 := ⟨tb918, tb919, tb15, tb920, by decide, by decide, by decide +kernel⟩
theorem mX8_maid {l : Launch} {D : va_G} {ad : Nat → Nat → Nat} {cs : Nat → ClassId} {P : Nat → Nat → Prop} {sz tU : Nat} {adK adV : Nat → Nat} {x1 : Int32} {x2 : Int32} {S : St} {K : Int32 → St → Prop} (hI : wI ad P) (hn : ∀ kd i, i < cnM kd → P kd i) (hw : wpX8_maid x1 x2 S K) : MI l yX8_maid cX8_maid 4 (some .int) 2 85 D ad cs P sz tU adK adV [.ref (ad 40 0), .int x1, .int x2] S K :=
  Met_of (by decide) (Nat.le_of_ble_eq_true rfl) hI hn (fun p e R s m args below meth c ls E hl hh => bX8_maid E  hw hh (lv_sub hl [0, 1, 2] rfl))
def wbX8_likes_70 (K : Int32 → St → Prop) (x3 : Int32) (x4 : Int32) (x5 : Int32) (v0 : Int32) (S : St) : Prop := if x3 = 0 then ((vp_in x5 16 ∧ ∀ S14, S14 = su S 44 0 x5.toNatClampNeg x4 → K v0 S14)) else ((vp_in x5 16 ∧ ∀ S13, S13 = su S 45 0 x5.toNatClampNeg x4 → K v0 S13))
set_option maxRecDepth 4000 in
theorem bX8_likes_70 {p : Program} {l : Launch} {e : Env} {R : Room} {s : State} {m : MethodId} {args : Array Value} {below : List Frame} {meth : Method} {c : Code} {D : va_G} {ad : Nat → Nat → Nat} {cs : Nat → ClassId} {P : Nat → Nat → Prop} {sz tU : Nat} {adK adV : Nat → Nat} {K : Int32 → St → Prop} {x3 : Int32} {x4 : Int32} {x5 : Int32} {v0 : Int32} {S : St} {H : Heap} {locs : List Loc} {ls : Array Slot} (E : Ex p s m args meth c R RX8 cX8_likes 7 (some .int) 3 106 D ad cs P (wA ad P) tU adK adV cnM) (hw : wbX8_likes_70 K x3 x4 x5 v0 S) (hh : wH D ad cs P (wA ad P) s.heap sz S H locs) (hl : lv_has ls 7 [(0, .ref (ad 40 0)), (3, .int x3), (4, .int x4), (5, .int x5)]) : W p l e R s m args below meth c H locs 0 0 (MQ below (va_Qi K (QX D ad cs P sz) (wA ad P)) args s 0 0 (wA ad P)) (F0 m 70 ls [.int v0]) := by
  have hx := E.hx
  have hb := E.hb
  refine lv_istore (lv' := [(6, .int v0), (0, .ref (ad 40 0)), (3, .int x3), (4, .int x4), (5, .int x5)]) hx hb dX8_likes_70 hl (by decide) rfl (fun ls hl => ?_)
  refine lv_iload_n hx hb dX8_likes_72 rfl (lv_at hl 2 rfl) ?_
  refine lv_if_ne (tgt := 88) hx hb dX8_likes_73 (by decide) (fun c12 => ?_) (fun c12 => ?_)
  · have hw := ifF hw c12
    refine lv_aload_n hx hb dX8_likes_88 rfl (lv_at hl 1 rfl) ?_
    refine g_40_10 E hh tb744 (E.hn 40 0 (by decide)) dX8_likes_89 ?_
    refine lv_iload hx hb dX8_likes_92 (lv_at hl 4 rfl) ?_
    refine lv_iload hx hb dX8_likes_94 (lv_at hl 3 rfl) ?_
    obtain ⟨hi13, hw⟩ := hw
    refine x_iast E hh (E.hn 45 0 (by decide)) ly_45 hi13 dX8_likes_96 (fun S13 H locs e13 hh => ?_)
    have hw := hw S13 e13
    refine lv_iload hx hb dX8_likes_97 (lv_at hl 0 rfl) ?_
    exact x_iret E hh hw dX8_likes_99
  · have hw := ifT hw c12
    refine lv_aload_n hx hb dX8_likes_76 rfl (lv_at hl 1 rfl) ?_
    refine g_40_9 E hh tb743 (E.hn 40 0 (by decide)) dX8_likes_77 ?_
    refine lv_iload hx hb dX8_likes_80 (lv_at hl 4 rfl) ?_
    refine lv_iload hx hb dX8_likes_82 (lv_at hl 3 rfl) ?_
    obtain ⟨hi14, hw⟩ := hw
    refine x_iast E hh (E.hn 44 0 (by decide)) ly_44 hi14 dX8_likes_84 (fun S14 H locs e14 hh => ?_)
    have hw := hw S14 e14
    refine lv_goto (tgt := 97) hx hb dX8_likes_85 (by decide) ?_
    refine lv_iload hx hb dX8_likes_97 (lv_at hl 0 rfl) ?_
    exact x_iret E hh hw dX8_likes_99
def wpX8_likes (x1 : Int32) (x2 : Int32) (x3 : Int32) (x4 : Int32) (S : St) (K : Int32 → St → Prop) : Prop := wpX8_isMan x1 S (fun r1 S1 => if r1 = 0 then (K (-2) S1) else (wpX8_isMaid x2 S1 (fun r3 S3 => if r3 = 0 then (K (-2) S3) else (wpX8_in x3.toInt64 0 1 S3 (fun r5 S5 => if r5 = 0 then (K (-2) S5) else (wpX8_in x4.toInt64 0 99 S5 (fun r7 S7 => if r7 = 0 then (K (-2) S7) else (if x3 = 0 then ((vp_in ((4 * x1) + x2) 16 ∧ wbX8_likes_70 K x3 x4 ((4 * x1) + x2) (S7.1 44 0 ((4 * x1) + x2).toNatClampNeg) S7)) else ((vp_in ((4 * x1) + x2) 16 ∧ wbX8_likes_70 K x3 x4 ((4 * x1) + x2) (S7.1 45 0 ((4 * x1) + x2).toNatClampNeg) S7))))))))))
set_option maxRecDepth 4000 in
theorem bX8_likes {p : Program} {l : Launch} {e : Env} {R : Room} {s : State} {m : MethodId} {args : Array Value} {below : List Frame} {meth : Method} {c : Code} {D : va_G} {ad : Nat → Nat → Nat} {cs : Nat → ClassId} {P : Nat → Nat → Prop} {sz tU : Nat} {adK adV : Nat → Nat} {K : Int32 → St → Prop} {x1 : Int32} {x2 : Int32} {x3 : Int32} {x4 : Int32} {S : St} {H : Heap} {locs : List Loc} {ls : Array Slot} (E : Ex p s m args meth c R RX8 cX8_likes 7 (some .int) 3 106 D ad cs P (wA ad P) tU adK adV cnM) (hw : wpX8_likes x1 x2 x3 x4 S K) (hh : wH D ad cs P (wA ad P) s.heap sz S H locs) (hl : lv_has ls 7 [(0, .ref (ad 40 0)), (1, .int x1), (2, .int x2), (3, .int x3), (4, .int x4)]) : W p l e R s m args below meth c H locs 0 0 (MQ below (va_Qi K (QX D ad cs P sz) (wA ad P)) args s 0 0 (wA ad P)) (F0 m 0 ls []) := by
  have hx := E.hx
  have hb := E.hb
  refine lv_aload_n hx hb dX8_likes_0 rfl (lv_at hl 0 rfl) ?_
  refine lv_iload_n hx hb dX8_likes_1 rfl (lv_at hl 1 rfl) ?_
  refine x_ci E.hA hh (x_runV E hh (mX8_isMan E.hI E.hn hw) kX8_isMan tb926 (E.hn 40 0 (by decide)) rv_40 ⟨by decide, by decide⟩ rfl hl.1 rfl (Nat.le_of_ble_eq_true rfl) dX8_likes_2 ⟨Nat.zero_le _, Nat.zero_le _⟩) (fun r1 S1 H locs hw hh => ?_)
  have hq1 := hw.2
  have hw := hw.1
  refine lv_if_eq (tgt := 39) hx hb dX8_likes_5 (by decide) (fun c2 => ?_) (fun c2 => ?_)
  · have hw := ifT hw c2
    refine lv_bipush (v := (-2)) hx hb dX8_likes_39 (by decide) ?_
    exact x_iret E hh hw dX8_likes_41
  · have hw := ifF hw c2
    refine lv_aload_n hx hb dX8_likes_8 rfl (lv_at hl 0 rfl) ?_
    refine lv_iload_n hx hb dX8_likes_9 rfl (lv_at hl 2 rfl) ?_
    refine x_ci E.hA hh (x_runV E hh (mX8_isMaid E.hI E.hn hw) kX8_isMaid tb930 (E.hn 40 0 (by decide)) rv_40 ⟨by decide, by decide⟩ rfl hl.1 rfl (Nat.le_of_ble_eq_true rfl) dX8_likes_10 ⟨Nat.zero_le _, Nat.zero_le _⟩) (fun r3 S3 H locs hw hh => ?_)
    have hq3 := hw.2
    have hw := hw.1
    refine lv_if_eq (tgt := 39) hx hb dX8_likes_13 (by decide) (fun c4 => ?_) (fun c4 => ?_)
    · have hw := ifT hw c4
      refine lv_bipush (v := (-2)) hx hb dX8_likes_39 (by decide) ?_
      exact x_iret E hh hw dX8_likes_41
    · have hw := ifF hw c4
      refine lv_iload_n hx hb dX8_likes_16 rfl (lv_at hl 3 rfl) ?_
      refine lv_i2l hx hb dX8_likes_17 rfl ?_
      refine lv_lconst (v := 0) hx hb dX8_likes_18 (by decide) ?_
      refine lv_lconst (v := 1) hx hb dX8_likes_19 (by decide) ?_
      refine x_ci E.hA hh (x_runS E hh (mX8_in E.hI (fun _ _ h => absurd h (Nat.not_lt_zero _)) hw) kX8_in tb914 ⟨by decide, by decide⟩ rfl hl.1 rfl (Nat.le_of_ble_eq_true rfl) dX8_likes_20 ⟨Nat.zero_le _, Nat.zero_le _⟩) (fun r5 S5 H locs hw hh => ?_)
      have hq5 := hw.2
      have hw := hw.1
      refine lv_if_eq (tgt := 39) hx hb dX8_likes_23 (by decide) (fun c6 => ?_) (fun c6 => ?_)
      · have hw := ifT hw c6
        refine lv_bipush (v := (-2)) hx hb dX8_likes_39 (by decide) ?_
        exact x_iret E hh hw dX8_likes_41
      · have hw := ifF hw c6
        refine lv_iload hx hb dX8_likes_26 (lv_at hl 4 rfl) ?_
        refine lv_i2l hx hb dX8_likes_28 rfl ?_
        refine lv_lconst (v := 0) hx hb dX8_likes_29 (by decide) ?_
        refine lv_ldc2 (v := 99) hx hb E.hown (E.hts _ tb934) dX8_likes_30 ?_
        refine x_ci E.hA hh (x_runS E hh (mX8_in E.hI (fun _ _ h => absurd h (Nat.not_lt_zero _)) hw) kX8_in tb914 ⟨by decide, by decide⟩ rfl hl.1 rfl (Nat.le_of_ble_eq_true rfl) dX8_likes_33 ⟨Nat.zero_le _, Nat.zero_le _⟩) (fun r7 S7 H locs hw hh => ?_)
        have hq7 := hw.2
        have hw := hw.1
        refine lv_if_ne (tgt := 42) hx hb dX8_likes_36 (by decide) (fun c8 => ?_) (fun c8 => ?_)
        · have hw := ifF hw c8
          refine lv_iconst (v := 4) hx hb dX8_likes_42 (by decide) ?_
          refine lv_iload_n hx hb dX8_likes_43 rfl (lv_at hl 1 rfl) ?_
          refine lv_imul hx hb dX8_likes_44 ?_
          refine lv_iload_n hx hb dX8_likes_45 rfl (lv_at hl 2 rfl) ?_
          refine lv_iadd hx hb dX8_likes_46 ?_
          refine lv_istore (lv' := [(5, .int ((4 * x1) + x2)), (0, .ref (ad 40 0)), (1, .int x1), (2, .int x2), (3, .int x3), (4, .int x4)]) hx hb dX8_likes_47 hl (by decide) rfl (fun ls hl => ?_)
          refine lv_iload_n hx hb dX8_likes_49 rfl (lv_at hl 4 rfl) ?_
          refine lv_if_ne (tgt := 63) hx hb dX8_likes_50 (by decide) (fun c9 => ?_) (fun c9 => ?_)
          · have hw := ifF hw c9
            refine lv_aload_n hx hb dX8_likes_63 rfl (lv_at hl 1 rfl) ?_
            refine g_40_10 E hh tb744 (E.hn 40 0 (by decide)) dX8_likes_64 ?_
            refine lv_iload hx hb dX8_likes_67 (lv_at hl 0 rfl) ?_
            obtain ⟨hi10, hw⟩ := hw
            refine x_iald E hh (E.hn 45 0 (by decide)) ly_45 hi10 dX8_likes_69 ?_
            exact bX8_likes_70 E hw hh (lv_sub hl [1, 4, 5, 0] rfl)
          · have hw := ifT hw c9
            refine lv_aload_n hx hb dX8_likes_53 rfl (lv_at hl 1 rfl) ?_
            refine g_40_9 E hh tb743 (E.hn 40 0 (by decide)) dX8_likes_54 ?_
            refine lv_iload hx hb dX8_likes_57 (lv_at hl 0 rfl) ?_
            obtain ⟨hi11, hw⟩ := hw
            refine x_iald E hh (E.hn 44 0 (by decide)) ly_44 hi11 dX8_likes_59 ?_
            refine lv_goto (tgt := 70) hx hb dX8_likes_60 (by decide) ?_
            exact bX8_likes_70 E hw hh (lv_sub hl [1, 4, 5, 0] rfl)
        · have hw := ifT hw c8
          refine lv_bipush (v := (-2)) hx hb dX8_likes_39 (by decide) ?_
          exact x_iret E hh hw dX8_likes_41
theorem kX8_likes : kI yX8_likes cX8_likes 7 (some .int) 4 := ⟨tb923, tb924, tb15, tb925, by decide, by decide, by decide +kernel⟩
theorem mX8_likes {l : Launch} {D : va_G} {ad : Nat → Nat → Nat} {cs : Nat → ClassId} {P : Nat → Nat → Prop} {sz tU : Nat} {adK adV : Nat → Nat} {x1 : Int32} {x2 : Int32} {x3 : Int32} {x4 : Int32} {S : St} {K : Int32 → St → Prop} (hI : wI ad P) (hn : ∀ kd i, i < cnM kd → P kd i) (hw : wpX8_likes x1 x2 x3 x4 S K) : MI l yX8_likes cX8_likes 7 (some .int) 3 106 D ad cs P sz tU adK adV [.ref (ad 40 0), .int x1, .int x2, .int x3, .int x4] S K :=
  Met_of (by decide) (Nat.le_of_ble_eq_true rfl) hI hn (fun p e R s m args below meth c ls E hl hh => bX8_likes E  hw hh (lv_sub hl [0, 1, 2, 3, 4] rfl))
def wbX8_set_94 (K : Int32 → St → Prop) (x1 : Int32) (x2 : Int32) (x3 : Int32) (v0 : Int32) (S : St) : Prop := if x1 = 0 then ((vp_in x2 4 ∧ ∀ S20, S20 = su S 46 0 x2.toNatClampNeg x3 → K v0 S20)) else (if x1 = 1 then ((vp_in x2 4 ∧ ∀ S19, S19 = su S 50 0 x2.toNatClampNeg x3 → K v0 S19)) else ((∀ S18, S18 = su S 40 0 16 x3 → K v0 S18)))
set_option maxRecDepth 4000 in
theorem bX8_set_94 {p : Program} {l : Launch} {e : Env} {R : Room} {s : State} {m : MethodId} {args : Array Value} {below : List Frame} {meth : Method} {c : Code} {D : va_G} {ad : Nat → Nat → Nat} {cs : Nat → ClassId} {P : Nat → Nat → Prop} {sz tU : Nat} {adK adV : Nat → Nat} {K : Int32 → St → Prop} {x1 : Int32} {x2 : Int32} {x3 : Int32} {v0 : Int32} {S : St} {H : Heap} {locs : List Loc} {ls : Array Slot} (E : Ex p s m args meth c R RX8 cX8_set 5 (some .int) 3 106 D ad cs P (wA ad P) tU adK adV cnM) (hw : wbX8_set_94 K x1 x2 x3 v0 S) (hh : wH D ad cs P (wA ad P) s.heap sz S H locs) (hl : lv_has ls 5 [(0, .ref (ad 40 0)), (1, .int x1), (2, .int x2), (3, .int x3)]) : W p l e R s m args below meth c H locs 0 0 (MQ below (va_Qi K (QX D ad cs P sz) (wA ad P)) args s 0 0 (wA ad P)) (F0 m 94 ls [.int v0]) := by
  have hx := E.hx
  have hb := E.hb
  refine lv_istore (lv' := [(4, .int v0), (0, .ref (ad 40 0)), (1, .int x1), (2, .int x2), (3, .int x3)]) hx hb dX8_set_94 hl (by decide) rfl (fun ls hl => ?_)
  refine lv_iload_n hx hb dX8_set_96 rfl (lv_at hl 2 rfl) ?_
  refine lv_if_ne (tgt := 110) hx hb dX8_set_97 (by decide) (fun c16 => ?_) (fun c16 => ?_)
  · have hw := ifF hw c16
    refine lv_iload_n hx hb dX8_set_110 rfl (lv_at hl 2 rfl) ?_
    refine lv_iconst (v := 1) hx hb dX8_set_111 (by decide) ?_
    refine lv_icmp_ne (tgt := 125) hx hb dX8_set_112 (by decide) (fun c17 => ?_) (fun c17 => ?_)
    · have hw := ifF hw c17
      refine lv_aload_n hx hb dX8_set_125 rfl (lv_at hl 1 rfl) ?_
      refine lv_iload_n hx hb dX8_set_126 rfl (lv_at hl 4 rfl) ?_
      refine p_40_16 E hh tb750 (E.hn 40 0 (by decide)) dX8_set_127 (fun S18 H locs e18 hh => ?_)
      have hw := hw S18 e18
      refine lv_iload hx hb dX8_set_130 (lv_at hl 0 rfl) ?_
      exact x_iret E hh hw dX8_set_132
    · have hw := ifT hw c17
      refine lv_aload_n hx hb dX8_set_115 rfl (lv_at hl 1 rfl) ?_
      refine g_40_15 E hh tb749 (E.hn 40 0 (by decide)) dX8_set_116 ?_
      refine lv_iload_n hx hb dX8_set_119 rfl (lv_at hl 3 rfl) ?_
      refine lv_iload_n hx hb dX8_set_120 rfl (lv_at hl 4 rfl) ?_
      obtain ⟨hi19, hw⟩ := hw
      refine x_iast E hh (E.hn 50 0 (by decide)) ly_50 hi19 dX8_set_121 (fun S19 H locs e19 hh => ?_)
      have hw := hw S19 e19
      refine lv_goto (tgt := 130) hx hb dX8_set_122 (by decide) ?_
      refine lv_iload hx hb dX8_set_130 (lv_at hl 0 rfl) ?_
      exact x_iret E hh hw dX8_set_132
  · have hw := ifT hw c16
    refine lv_aload_n hx hb dX8_set_100 rfl (lv_at hl 1 rfl) ?_
    refine g_40_11 E hh tb745 (E.hn 40 0 (by decide)) dX8_set_101 ?_
    refine lv_iload_n hx hb dX8_set_104 rfl (lv_at hl 3 rfl) ?_
    refine lv_iload_n hx hb dX8_set_105 rfl (lv_at hl 4 rfl) ?_
    obtain ⟨hi20, hw⟩ := hw
    refine x_iast E hh (E.hn 46 0 (by decide)) ly_46 hi20 dX8_set_106 (fun S20 H locs e20 hh => ?_)
    have hw := hw S20 e20
    refine lv_goto (tgt := 130) hx hb dX8_set_107 (by decide) ?_
    refine lv_iload hx hb dX8_set_130 (lv_at hl 0 rfl) ?_
    exact x_iret E hh hw dX8_set_132
def wbX8_set_54 (K : Int32 → St → Prop) (x1 : Int32) (x2 : Int32) (x3 : Int32) (v0 : Int64) (v1 : Int64) (v2 : Int64) (S : St) : Prop := wpX8_in v2 v1 v0 S (fun r10 S10 => if r10 = 0 then (K (-2) S10) else (if x1 = 0 then ((vp_in x2 4 ∧ wbX8_set_94 K x1 x2 x3 (S10.1 46 0 x2.toNatClampNeg) S10)) else (if x1 = 1 then ((vp_in x2 4 ∧ wbX8_set_94 K x1 x2 x3 (S10.1 50 0 x2.toNatClampNeg) S10)) else (wbX8_set_94 K x1 x2 x3 (S10.1 40 0 16) S10))))
set_option maxRecDepth 4000 in
theorem bX8_set_54 {p : Program} {l : Launch} {e : Env} {R : Room} {s : State} {m : MethodId} {args : Array Value} {below : List Frame} {meth : Method} {c : Code} {D : va_G} {ad : Nat → Nat → Nat} {cs : Nat → ClassId} {P : Nat → Nat → Prop} {sz tU : Nat} {adK adV : Nat → Nat} {K : Int32 → St → Prop} {x1 : Int32} {x2 : Int32} {x3 : Int32} {v0 : Int64} {v1 : Int64} {v2 : Int64} {S : St} {H : Heap} {locs : List Loc} {ls : Array Slot} (E : Ex p s m args meth c R RX8 cX8_set 5 (some .int) 3 106 D ad cs P (wA ad P) tU adK adV cnM) (hw : wbX8_set_54 K x1 x2 x3 v0 v1 v2 S) (hh : wH D ad cs P (wA ad P) s.heap sz S H locs) (hl : lv_has ls 5 [(0, .ref (ad 40 0)), (1, .int x1), (2, .int x2), (3, .int x3)]) : W p l e R s m args below meth c H locs 0 0 (MQ below (va_Qi K (QX D ad cs P sz) (wA ad P)) args s 0 0 (wA ad P)) (F0 m 54 ls [.long v0, .long v1, .long v2]) := by
  have hx := E.hx
  have hb := E.hb
  refine x_ci E.hA hh (x_runS E hh (mX8_in E.hI (fun _ _ h => absurd h (Nat.not_lt_zero _)) hw) kX8_in tb914 ⟨by decide, by decide⟩ rfl hl.1 rfl (Nat.le_of_ble_eq_true rfl) dX8_set_54 ⟨Nat.zero_le _, Nat.zero_le _⟩) (fun r10 S10 H locs hw hh => ?_)
  have hq10 := hw.2
  have hw := hw.1
  refine lv_if_ne (tgt := 63) hx hb dX8_set_57 (by decide) (fun c11 => ?_) (fun c11 => ?_)
  · have hw := ifF hw c11
    refine lv_iload_n hx hb dX8_set_63 rfl (lv_at hl 1 rfl) ?_
    refine lv_if_ne (tgt := 76) hx hb dX8_set_64 (by decide) (fun c12 => ?_) (fun c12 => ?_)
    · have hw := ifF hw c12
      refine lv_iload_n hx hb dX8_set_76 rfl (lv_at hl 1 rfl) ?_
      refine lv_iconst (v := 1) hx hb dX8_set_77 (by decide) ?_
      refine lv_icmp_ne (tgt := 90) hx hb dX8_set_78 (by decide) (fun c13 => ?_) (fun c13 => ?_)
      · have hw := ifF hw c13
        refine lv_aload_n hx hb dX8_set_90 rfl (lv_at hl 0 rfl) ?_
        refine g_40_16 E hh tb750 (E.hn 40 0 (by decide)) dX8_set_91 ?_
        exact bX8_set_94 E hw hh (lv_sub hl [0, 1, 2, 3] rfl)
      · have hw := ifT hw c13
        refine lv_aload_n hx hb dX8_set_81 rfl (lv_at hl 0 rfl) ?_
        refine g_40_15 E hh tb749 (E.hn 40 0 (by decide)) dX8_set_82 ?_
        refine lv_iload_n hx hb dX8_set_85 rfl (lv_at hl 2 rfl) ?_
        obtain ⟨hi14, hw⟩ := hw
        refine x_iald E hh (E.hn 50 0 (by decide)) ly_50 hi14 dX8_set_86 ?_
        refine lv_goto (tgt := 94) hx hb dX8_set_87 (by decide) ?_
        exact bX8_set_94 E hw hh (lv_sub hl [0, 1, 2, 3] rfl)
    · have hw := ifT hw c12
      refine lv_aload_n hx hb dX8_set_67 rfl (lv_at hl 0 rfl) ?_
      refine g_40_11 E hh tb745 (E.hn 40 0 (by decide)) dX8_set_68 ?_
      refine lv_iload_n hx hb dX8_set_71 rfl (lv_at hl 2 rfl) ?_
      obtain ⟨hi15, hw⟩ := hw
      refine x_iald E hh (E.hn 46 0 (by decide)) ly_46 hi15 dX8_set_72 ?_
      refine lv_goto (tgt := 94) hx hb dX8_set_73 (by decide) ?_
      exact bX8_set_94 E hw hh (lv_sub hl [0, 1, 2, 3] rfl)
  · have hw := ifT hw c11
    refine lv_bipush (v := (-2)) hx hb dX8_set_60 (by decide) ?_
    exact x_iret E hh hw dX8_set_62
def wbX8_set_37 (K : Int32 → St → Prop) (x1 : Int32) (x2 : Int32) (x3 : Int32) (S : St) : Prop := if x1 = 2 then (wbX8_set_54 K x1 x2 x3 99 0 x3.toInt64 S) else (wbX8_set_54 K x1 x2 x3 9 0 x3.toInt64 S)
set_option maxRecDepth 4000 in
theorem bX8_set_37 {p : Program} {l : Launch} {e : Env} {R : Room} {s : State} {m : MethodId} {args : Array Value} {below : List Frame} {meth : Method} {c : Code} {D : va_G} {ad : Nat → Nat → Nat} {cs : Nat → ClassId} {P : Nat → Nat → Prop} {sz tU : Nat} {adK adV : Nat → Nat} {K : Int32 → St → Prop} {x1 : Int32} {x2 : Int32} {x3 : Int32} {S : St} {H : Heap} {locs : List Loc} {ls : Array Slot} (E : Ex p s m args meth c R RX8 cX8_set 5 (some .int) 3 106 D ad cs P (wA ad P) tU adK adV cnM) (hw : wbX8_set_37 K x1 x2 x3 S) (hh : wH D ad cs P (wA ad P) s.heap sz S H locs) (hl : lv_has ls 5 [(0, .ref (ad 40 0)), (1, .int x1), (2, .int x2), (3, .int x3)]) : W p l e R s m args below meth c H locs 0 0 (MQ below (va_Qi K (QX D ad cs P sz) (wA ad P)) args s 0 0 (wA ad P)) (F0 m 37 ls []) := by
  have hx := E.hx
  have hb := E.hb
  refine lv_iload_n hx hb dX8_set_37 rfl (lv_at hl 3 rfl) ?_
  refine lv_i2l hx hb dX8_set_38 rfl ?_
  refine lv_lconst (v := 0) hx hb dX8_set_39 (by decide) ?_
  refine lv_iload_n hx hb dX8_set_40 rfl (lv_at hl 1 rfl) ?_
  refine lv_iconst (v := 2) hx hb dX8_set_41 (by decide) ?_
  refine lv_icmp_ne (tgt := 51) hx hb dX8_set_42 (by decide) (fun c9 => ?_) (fun c9 => ?_)
  · have hw := ifF hw c9
    refine lv_ldc2 (v := 9) hx hb E.hown (E.hts _ tb913) dX8_set_51 ?_
    exact bX8_set_54 E hw hh (lv_sub hl [0, 1, 2, 3] rfl)
  · have hw := ifT hw c9
    refine lv_ldc2 (v := 99) hx hb E.hown (E.hts _ tb934) dX8_set_45 ?_
    refine lv_goto (tgt := 54) hx hb dX8_set_48 (by decide) ?_
    exact bX8_set_54 E hw hh (lv_sub hl [0, 1, 2, 3] rfl)
def wbX8_set_24 (K : Int32 → St → Prop) (x1 : Int32) (x2 : Int32) (x3 : Int32) (S : St) : Prop := if x1 = 1 then (wpX8_isMaid x2 S (fun r7 S7 => if r7 = 0 then (K (-2) S7) else (wbX8_set_37 K x1 x2 x3 S7))) else (wbX8_set_37 K x1 x2 x3 S)
set_option maxRecDepth 4000 in
theorem bX8_set_24 {p : Program} {l : Launch} {e : Env} {R : Room} {s : State} {m : MethodId} {args : Array Value} {below : List Frame} {meth : Method} {c : Code} {D : va_G} {ad : Nat → Nat → Nat} {cs : Nat → ClassId} {P : Nat → Nat → Prop} {sz tU : Nat} {adK adV : Nat → Nat} {K : Int32 → St → Prop} {x1 : Int32} {x2 : Int32} {x3 : Int32} {S : St} {H : Heap} {locs : List Loc} {ls : Array Slot} (E : Ex p s m args meth c R RX8 cX8_set 5 (some .int) 3 106 D ad cs P (wA ad P) tU adK adV cnM) (hw : wbX8_set_24 K x1 x2 x3 S) (hh : wH D ad cs P (wA ad P) s.heap sz S H locs) (hl : lv_has ls 5 [(0, .ref (ad 40 0)), (1, .int x1), (2, .int x2), (3, .int x3)]) : W p l e R s m args below meth c H locs 0 0 (MQ below (va_Qi K (QX D ad cs P sz) (wA ad P)) args s 0 0 (wA ad P)) (F0 m 24 ls []) := by
  have hx := E.hx
  have hb := E.hb
  refine lv_iload_n hx hb dX8_set_24 rfl (lv_at hl 1 rfl) ?_
  refine lv_iconst (v := 1) hx hb dX8_set_25 (by decide) ?_
  refine lv_icmp_ne (tgt := 37) hx hb dX8_set_26 (by decide) (fun c6 => ?_) (fun c6 => ?_)
  · have hw := ifF hw c6
    exact bX8_set_37 E hw hh (lv_sub hl [0, 1, 2, 3] rfl)
  · have hw := ifT hw c6
    refine lv_aload_n hx hb dX8_set_29 rfl (lv_at hl 0 rfl) ?_
    refine lv_iload_n hx hb dX8_set_30 rfl (lv_at hl 2 rfl) ?_
    refine x_ci E.hA hh (x_runV E hh (mX8_isMaid E.hI E.hn hw) kX8_isMaid tb930 (E.hn 40 0 (by decide)) rv_40 ⟨by decide, by decide⟩ rfl hl.1 rfl (Nat.le_of_ble_eq_true rfl) dX8_set_31 ⟨Nat.zero_le _, Nat.zero_le _⟩) (fun r7 S7 H locs hw hh => ?_)
    have hq7 := hw.2
    have hw := hw.1
    refine lv_if_eq (tgt := 60) hx hb dX8_set_34 (by decide) (fun c8 => ?_) (fun c8 => ?_)
    · have hw := ifT hw c8
      refine lv_bipush (v := (-2)) hx hb dX8_set_60 (by decide) ?_
      exact x_iret E hh hw dX8_set_62
    · have hw := ifF hw c8
      exact bX8_set_37 E hw hh (lv_sub hl [0, 1, 2, 3] rfl)
def wpX8_set (x1 : Int32) (x2 : Int32) (x3 : Int32) (S : St) (K : Int32 → St → Prop) : Prop := wpX8_in x1.toInt64 0 2 S (fun r1 S1 => if r1 = 0 then (K (-2) S1) else (if x1 = 0 then (wpX8_isMan x2 S1 (fun r4 S4 => if r4 = 0 then (K (-2) S4) else (wbX8_set_24 K x1 x2 x3 S4))) else (wbX8_set_24 K x1 x2 x3 S1)))
set_option maxRecDepth 4000 in
theorem bX8_set {p : Program} {l : Launch} {e : Env} {R : Room} {s : State} {m : MethodId} {args : Array Value} {below : List Frame} {meth : Method} {c : Code} {D : va_G} {ad : Nat → Nat → Nat} {cs : Nat → ClassId} {P : Nat → Nat → Prop} {sz tU : Nat} {adK adV : Nat → Nat} {K : Int32 → St → Prop} {x1 : Int32} {x2 : Int32} {x3 : Int32} {S : St} {H : Heap} {locs : List Loc} {ls : Array Slot} (E : Ex p s m args meth c R RX8 cX8_set 5 (some .int) 3 106 D ad cs P (wA ad P) tU adK adV cnM) (hw : wpX8_set x1 x2 x3 S K) (hh : wH D ad cs P (wA ad P) s.heap sz S H locs) (hl : lv_has ls 5 [(0, .ref (ad 40 0)), (1, .int x1), (2, .int x2), (3, .int x3)]) : W p l e R s m args below meth c H locs 0 0 (MQ below (va_Qi K (QX D ad cs P sz) (wA ad P)) args s 0 0 (wA ad P)) (F0 m 0 ls []) := by
  have hx := E.hx
  have hb := E.hb
  refine lv_iload_n hx hb dX8_set_0 rfl (lv_at hl 1 rfl) ?_
  refine lv_i2l hx hb dX8_set_1 rfl ?_
  refine lv_lconst (v := 0) hx hb dX8_set_2 (by decide) ?_
  refine lv_ldc2 (v := 2) hx hb E.hown (E.hts _ tb939) dX8_set_3 ?_
  refine x_ci E.hA hh (x_runS E hh (mX8_in E.hI (fun _ _ h => absurd h (Nat.not_lt_zero _)) hw) kX8_in tb914 ⟨by decide, by decide⟩ rfl hl.1 rfl (Nat.le_of_ble_eq_true rfl) dX8_set_6 ⟨Nat.zero_le _, Nat.zero_le _⟩) (fun r1 S1 H locs hw hh => ?_)
  have hq1 := hw.2
  have hw := hw.1
  refine lv_if_eq (tgt := 60) hx hb dX8_set_9 (by decide) (fun c2 => ?_) (fun c2 => ?_)
  · have hw := ifT hw c2
    refine lv_bipush (v := (-2)) hx hb dX8_set_60 (by decide) ?_
    exact x_iret E hh hw dX8_set_62
  · have hw := ifF hw c2
    refine lv_iload_n hx hb dX8_set_12 rfl (lv_at hl 1 rfl) ?_
    refine lv_if_ne (tgt := 24) hx hb dX8_set_13 (by decide) (fun c3 => ?_) (fun c3 => ?_)
    · have hw := ifF hw c3
      exact bX8_set_24 E hw hh (lv_sub hl [0, 1, 2, 3] rfl)
    · have hw := ifT hw c3
      refine lv_aload_n hx hb dX8_set_16 rfl (lv_at hl 0 rfl) ?_
      refine lv_iload_n hx hb dX8_set_17 rfl (lv_at hl 2 rfl) ?_
      refine x_ci E.hA hh (x_runV E hh (mX8_isMan E.hI E.hn hw) kX8_isMan tb926 (E.hn 40 0 (by decide)) rv_40 ⟨by decide, by decide⟩ rfl hl.1 rfl (Nat.le_of_ble_eq_true rfl) dX8_set_18 ⟨Nat.zero_le _, Nat.zero_le _⟩) (fun r4 S4 H locs hw hh => ?_)
      have hq4 := hw.2
      have hw := hw.1
      refine lv_if_eq (tgt := 60) hx hb dX8_set_21 (by decide) (fun c5 => ?_) (fun c5 => ?_)
      · have hw := ifT hw c5
        refine lv_bipush (v := (-2)) hx hb dX8_set_60 (by decide) ?_
        exact x_iret E hh hw dX8_set_62
      · have hw := ifF hw c5
        exact bX8_set_24 E hw hh (lv_sub hl [0, 1, 2, 3] rfl)
theorem kX8_set : kI yX8_set cX8_set 5 (some .int) 3 := ⟨tb936, tb937, tb15, tb938, by decide, by decide, by decide +kernel⟩
theorem mX8_set {l : Launch} {D : va_G} {ad : Nat → Nat → Nat} {cs : Nat → ClassId} {P : Nat → Nat → Prop} {sz tU : Nat} {adK adV : Nat → Nat} {x1 : Int32} {x2 : Int32} {x3 : Int32} {S : St} {K : Int32 → St → Prop} (hI : wI ad P) (hn : ∀ kd i, i < cnM kd → P kd i) (hw : wpX8_set x1 x2 x3 S K) : MI l yX8_set cX8_set 5 (some .int) 3 106 D ad cs P sz tU adK adV [.ref (ad 40 0), .int x1, .int x2, .int x3] S K :=
  Met_of (by decide) (Nat.le_of_ble_eq_true rfl) hI hn (fun p e R s m args below meth c ls E hl hh => bX8_set E  hw hh (lv_sub hl [0, 1, 2, 3] rfl))
def wbX8_needs_49 (K : Int32 → St → Prop) (v0 : Int32) (v1 : Int32) (S : St) : Prop := K (v1 + v0) S
set_option maxRecDepth 4000 in
theorem bX8_needs_49 {p : Program} {l : Launch} {e : Env} {R : Room} {s : State} {m : MethodId} {args : Array Value} {below : List Frame} {meth : Method} {c : Code} {D : va_G} {ad : Nat → Nat → Nat} {cs : Nat → ClassId} {P : Nat → Nat → Prop} {sz tU : Nat} {adK adV : Nat → Nat} {K : Int32 → St → Prop} {v0 : Int32} {v1 : Int32} {S : St} {H : Heap} {locs : List Loc} {ls : Array Slot} (E : Ex p s m args meth c R RX8 cX8_needs 3 (some .int) 1 60 D ad cs P (wA ad P) tU adK adV cnM) (hw : wbX8_needs_49 K v0 v1 S) (hh : wH D ad cs P (wA ad P) s.heap sz S H locs) (hl : lv_has ls 3 []) : W p l e R s m args below meth c H locs 0 0 (MQ below (va_Qi K (QX D ad cs P sz) (wA ad P)) args s 0 0 (wA ad P)) (F0 m 49 ls [.int v0, .int v1]) := by
  have hx := E.hx
  have hb := E.hb
  refine lv_iadd hx hb dX8_needs_49 ?_
  exact x_iret E hh hw dX8_needs_50
def wbX8_needs_29 (K : Int32 → St → Prop) (x1 : Int32) (x2 : Int32) (S : St) : Prop := (vp_in x1 4 ∧ if x2 = 3 then (wbX8_needs_49 K 1 (1 + ((S.1 50 0 x1.toNatClampNeg) - (S.1 50 0 x1.toNatClampNeg) / 3 * 3)) S) else (wbX8_needs_49 K 0 (1 + ((S.1 50 0 x1.toNatClampNeg) - (S.1 50 0 x1.toNatClampNeg) / 3 * 3)) S))
set_option maxRecDepth 4000 in
theorem bX8_needs_29 {p : Program} {l : Launch} {e : Env} {R : Room} {s : State} {m : MethodId} {args : Array Value} {below : List Frame} {meth : Method} {c : Code} {D : va_G} {ad : Nat → Nat → Nat} {cs : Nat → ClassId} {P : Nat → Nat → Prop} {sz tU : Nat} {adK adV : Nat → Nat} {K : Int32 → St → Prop} {x1 : Int32} {x2 : Int32} {S : St} {H : Heap} {locs : List Loc} {ls : Array Slot} (E : Ex p s m args meth c R RX8 cX8_needs 3 (some .int) 1 60 D ad cs P (wA ad P) tU adK adV cnM) (hw : wbX8_needs_29 K x1 x2 S) (hh : wH D ad cs P (wA ad P) s.heap sz S H locs) (hl : lv_has ls 3 [(0, .ref (ad 40 0)), (1, .int x1), (2, .int x2)]) : W p l e R s m args below meth c H locs 0 0 (MQ below (va_Qi K (QX D ad cs P sz) (wA ad P)) args s 0 0 (wA ad P)) (F0 m 29 ls []) := by
  have hx := E.hx
  have hb := E.hb
  refine lv_iconst (v := 1) hx hb dX8_needs_29 (by decide) ?_
  refine lv_aload_n hx hb dX8_needs_30 rfl (lv_at hl 0 rfl) ?_
  refine g_40_15 E hh tb749 (E.hn 40 0 (by decide)) dX8_needs_31 ?_
  refine lv_iload_n hx hb dX8_needs_34 rfl (lv_at hl 1 rfl) ?_
  obtain ⟨hi9, hw⟩ := hw
  refine x_iald E hh (E.hn 50 0 (by decide)) ly_50 hi9 dX8_needs_35 ?_
  refine lv_iconst (v := 3) hx hb dX8_needs_36 (by decide) ?_
  refine lv_irem hx hb dX8_needs_37 (by decide) ?_
  refine lv_iadd hx hb dX8_needs_38 ?_
  refine lv_iload_n hx hb dX8_needs_39 rfl (lv_at hl 2 rfl) ?_
  refine lv_iconst (v := 3) hx hb dX8_needs_40 (by decide) ?_
  refine lv_icmp_ne (tgt := 48) hx hb dX8_needs_41 (by decide) (fun c10 => ?_) (fun c10 => ?_)
  · have hw := ifF hw c10
    refine lv_iconst (v := 0) hx hb dX8_needs_48 (by decide) ?_
    exact bX8_needs_49 E hw hh (lv_sub hl [] rfl)
  · have hw := ifT hw c10
    refine lv_iconst (v := 1) hx hb dX8_needs_44 (by decide) ?_
    refine lv_goto (tgt := 49) hx hb dX8_needs_45 (by decide) ?_
    exact bX8_needs_49 E hw hh (lv_sub hl [] rfl)
def wpX8_needs (x1 : Int32) (S : St) (K : Int32 → St → Prop) : Prop := (vp_in x1 4 ∧ if (S.1 49 0 x1.toNatClampNeg) = 1 then (K 0 S) else (if (S.1 49 0 x1.toNatClampNeg) = 4 then (K 0 S) else (if (S.1 49 0 x1.toNatClampNeg) = 2 then (wbX8_needs_29 K x1 (S.1 49 0 x1.toNatClampNeg) S) else (if (S.1 49 0 x1.toNatClampNeg) = 3 then (wbX8_needs_29 K x1 (S.1 49 0 x1.toNatClampNeg) S) else (if (S.1 49 0 x1.toNatClampNeg) = 5 then ((vp_in x1 4 ∧ if ((S.1 50 0 x1.toNatClampNeg) - (S.1 50 0 x1.toNatClampNeg) / 2 * 2) = 0 then (K 0 S) else (K 1 S))) else (K 1 S))))))
set_option maxRecDepth 4000 in
theorem bX8_needs {p : Program} {l : Launch} {e : Env} {R : Room} {s : State} {m : MethodId} {args : Array Value} {below : List Frame} {meth : Method} {c : Code} {D : va_G} {ad : Nat → Nat → Nat} {cs : Nat → ClassId} {P : Nat → Nat → Prop} {sz tU : Nat} {adK adV : Nat → Nat} {K : Int32 → St → Prop} {x1 : Int32} {S : St} {H : Heap} {locs : List Loc} {ls : Array Slot} (E : Ex p s m args meth c R RX8 cX8_needs 3 (some .int) 1 60 D ad cs P (wA ad P) tU adK adV cnM) (hw : wpX8_needs x1 S K) (hh : wH D ad cs P (wA ad P) s.heap sz S H locs) (hl : lv_has ls 3 [(0, .ref (ad 40 0)), (1, .int x1)]) : W p l e R s m args below meth c H locs 0 0 (MQ below (va_Qi K (QX D ad cs P sz) (wA ad P)) args s 0 0 (wA ad P)) (F0 m 0 ls []) := by
  have hx := E.hx
  have hb := E.hb
  refine lv_aload_n hx hb dX8_needs_0 rfl (lv_at hl 0 rfl) ?_
  refine g_40_14 E hh tb748 (E.hn 40 0 (by decide)) dX8_needs_1 ?_
  refine lv_iload_n hx hb dX8_needs_4 rfl (lv_at hl 1 rfl) ?_
  obtain ⟨hi1, hw⟩ := hw
  refine x_iald E hh (E.hn 49 0 (by decide)) ly_49 hi1 dX8_needs_5 ?_
  refine lv_istore_n (lv' := [(2, .int (S.1 49 0 x1.toNatClampNeg)), (0, .ref (ad 40 0)), (1, .int x1)]) hx hb dX8_needs_6 rfl hl (by decide) rfl (fun ls hl => ?_)
  refine lv_iload_n hx hb dX8_needs_7 rfl (lv_at hl 0 rfl) ?_
  refine lv_iconst (v := 1) hx hb dX8_needs_8 (by decide) ?_
  refine lv_icmp_eq (tgt := 17) hx hb dX8_needs_9 (by decide) (fun c2 => ?_) (fun c2 => ?_)
  · have hw := ifT hw c2
    refine lv_iconst (v := 0) hx hb dX8_needs_17 (by decide) ?_
    exact x_iret E hh hw dX8_needs_18
  · have hw := ifF hw c2
    refine lv_iload_n hx hb dX8_needs_12 rfl (lv_at hl 0 rfl) ?_
    refine lv_iconst (v := 4) hx hb dX8_needs_13 (by decide) ?_
    refine lv_icmp_ne (tgt := 19) hx hb dX8_needs_14 (by decide) (fun c3 => ?_) (fun c3 => ?_)
    · have hw := ifF hw c3
      refine lv_iload_n hx hb dX8_needs_19 rfl (lv_at hl 0 rfl) ?_
      refine lv_iconst (v := 2) hx hb dX8_needs_20 (by decide) ?_
      refine lv_icmp_eq (tgt := 29) hx hb dX8_needs_21 (by decide) (fun c4 => ?_) (fun c4 => ?_)
      · have hw := ifT hw c4
        exact bX8_needs_29 E hw hh (lv_sub hl [1, 2, 0] rfl)
      · have hw := ifF hw c4
        refine lv_iload_n hx hb dX8_needs_24 rfl (lv_at hl 0 rfl) ?_
        refine lv_iconst (v := 3) hx hb dX8_needs_25 (by decide) ?_
        refine lv_icmp_ne (tgt := 51) hx hb dX8_needs_26 (by decide) (fun c5 => ?_) (fun c5 => ?_)
        · have hw := ifF hw c5
          refine lv_iload_n hx hb dX8_needs_51 rfl (lv_at hl 0 rfl) ?_
          refine lv_iconst (v := 5) hx hb dX8_needs_52 (by decide) ?_
          refine lv_icmp_ne (tgt := 71) hx hb dX8_needs_53 (by decide) (fun c6 => ?_) (fun c6 => ?_)
          · have hw := ifF hw c6
            refine lv_iconst (v := 1) hx hb dX8_needs_71 (by decide) ?_
            exact x_iret E hh hw dX8_needs_72
          · have hw := ifT hw c6
            refine lv_aload_n hx hb dX8_needs_56 rfl (lv_at hl 1 rfl) ?_
            refine g_40_15 E hh tb749 (E.hn 40 0 (by decide)) dX8_needs_57 ?_
            refine lv_iload_n hx hb dX8_needs_60 rfl (lv_at hl 2 rfl) ?_
            obtain ⟨hi7, hw⟩ := hw
            refine x_iald E hh (E.hn 50 0 (by decide)) ly_50 hi7 dX8_needs_61 ?_
            refine lv_iconst (v := 2) hx hb dX8_needs_62 (by decide) ?_
            refine lv_irem hx hb dX8_needs_63 (by decide) ?_
            refine lv_if_ne (tgt := 71) hx hb dX8_needs_64 (by decide) (fun c8 => ?_) (fun c8 => ?_)
            · have hw := ifF hw c8
              refine lv_iconst (v := 1) hx hb dX8_needs_71 (by decide) ?_
              exact x_iret E hh hw dX8_needs_72
            · have hw := ifT hw c8
              refine lv_iconst (v := 0) hx hb dX8_needs_67 (by decide) ?_
              refine lv_goto (tgt := 72) hx hb dX8_needs_68 (by decide) ?_
              exact x_iret E hh hw dX8_needs_72
        · have hw := ifT hw c5
          exact bX8_needs_29 E hw hh (lv_sub hl [1, 2, 0] rfl)
    · have hw := ifT hw c3
      refine lv_iconst (v := 0) hx hb dX8_needs_17 (by decide) ?_
      exact x_iret E hh hw dX8_needs_18
theorem kX8_needs : kI yX8_needs cX8_needs 3 (some .int) 1 := ⟨tb947, ts29, tb15, tb948, by decide, by decide, by decide +kernel⟩
theorem mX8_needs {l : Launch} {D : va_G} {ad : Nat → Nat → Nat} {cs : Nat → ClassId} {P : Nat → Nat → Prop} {sz tU : Nat} {adK adV : Nat → Nat} {x1 : Int32} {S : St} {K : Int32 → St → Prop} (hI : wI ad P) (hn : ∀ kd i, i < cnM kd → P kd i) (hw : wpX8_needs x1 S K) : MI l yX8_needs cX8_needs 3 (some .int) 1 60 D ad cs P sz tU adK adV [.ref (ad 40 0), .int x1] S K :=
  Met_of (by decide) (Nat.le_of_ble_eq_true rfl) hI hn (fun p e R s m args below meth c ls E hl hh => bX8_needs E  hw hh (lv_sub hl [0, 1] rfl))
def wbX8_refuses_108 (K : Int32 → St → Prop) (S : St) : Prop := K 1 S
set_option maxRecDepth 4000 in
theorem bX8_refuses_108 {p : Program} {l : Launch} {e : Env} {R : Room} {s : State} {m : MethodId} {args : Array Value} {below : List Frame} {meth : Method} {c : Code} {D : va_G} {ad : Nat → Nat → Nat} {cs : Nat → ClassId} {P : Nat → Nat → Prop} {sz tU : Nat} {adK adV : Nat → Nat} {K : Int32 → St → Prop} {S : St} {H : Heap} {locs : List Loc} {ls : Array Slot} (E : Ex p s m args meth c R RX8 cX8_refuses 5 (some .boolean) 1 60 D ad cs P (wA ad P) tU adK adV cnM) (hw : wbX8_refuses_108 K S) (hh : wH D ad cs P (wA ad P) s.heap sz S H locs) (hl : lv_has ls 5 []) : W p l e R s m args below meth c H locs 0 0 (MQ below (va_Qi (fun r S => K r S ∧ narrow .boolean (.int r) = .int r) (QX D ad cs P sz) (wA ad P)) args s 0 0 (wA ad P)) (F0 m 108 ls []) := by
  have hx := E.hx
  have hb := E.hb
  refine lv_iconst (v := 1) hx hb dX8_refuses_108 (by decide) ?_
  refine lv_goto (tgt := 113) hx hb dX8_refuses_109 (by decide) ?_
  exact x_zret E hh hw rfl dX8_refuses_113
def wbX8_refuses_96 (K : Int32 → St → Prop) (x2 : Int32) (x4 : Int32) (S : St) : Prop := if x4 = 3 then (if 70 ≤ x2 then (K 0 S) else (wbX8_refuses_108 K S)) else (K 0 S)
set_option maxRecDepth 4000 in
theorem bX8_refuses_96 {p : Program} {l : Launch} {e : Env} {R : Room} {s : State} {m : MethodId} {args : Array Value} {below : List Frame} {meth : Method} {c : Code} {D : va_G} {ad : Nat → Nat → Nat} {cs : Nat → ClassId} {P : Nat → Nat → Prop} {sz tU : Nat} {adK adV : Nat → Nat} {K : Int32 → St → Prop} {x2 : Int32} {x4 : Int32} {S : St} {H : Heap} {locs : List Loc} {ls : Array Slot} (E : Ex p s m args meth c R RX8 cX8_refuses 5 (some .boolean) 1 60 D ad cs P (wA ad P) tU adK adV cnM) (hw : wbX8_refuses_96 K x2 x4 S) (hh : wH D ad cs P (wA ad P) s.heap sz S H locs) (hl : lv_has ls 5 [(2, .int x2), (4, .int x4)]) : W p l e R s m args below meth c H locs 0 0 (MQ below (va_Qi (fun r S => K r S ∧ narrow .boolean (.int r) = .int r) (QX D ad cs P sz) (wA ad P)) args s 0 0 (wA ad P)) (F0 m 96 ls []) := by
  have hx := E.hx
  have hb := E.hb
  refine lv_iload hx hb dX8_refuses_96 (lv_at hl 1 rfl) ?_
  refine lv_iconst (v := 3) hx hb dX8_refuses_98 (by decide) ?_
  refine lv_icmp_ne (tgt := 112) hx hb dX8_refuses_99 (by decide) (fun c14 => ?_) (fun c14 => ?_)
  · have hw := ifF hw c14
    refine lv_iconst (v := 0) hx hb dX8_refuses_112 (by decide) ?_
    exact x_zret E hh hw rfl dX8_refuses_113
  · have hw := ifT hw c14
    refine lv_iload_n hx hb dX8_refuses_102 rfl (lv_at hl 0 rfl) ?_
    refine lv_bipush (v := 70) hx hb dX8_refuses_103 (by decide) ?_
    refine lv_icmp_ge (tgt := 112) hx hb dX8_refuses_105 (by decide) (fun c15 => ?_) (fun c15 => ?_)
    · have hw := ifT hw c15
      refine lv_iconst (v := 0) hx hb dX8_refuses_112 (by decide) ?_
      exact x_zret E hh hw rfl dX8_refuses_113
    · have hw := ifF hw c15
      exact bX8_refuses_108 E hw hh (lv_sub hl [] rfl)
def wbX8_refuses_91 (K : Int32 → St → Prop) (x2 : Int32) (x3 : Int32) (x4 : Int32) (S : St) : Prop := if 2 < x3 then (wbX8_refuses_108 K S) else (wbX8_refuses_96 K x2 x4 S)
set_option maxRecDepth 4000 in
theorem bX8_refuses_91 {p : Program} {l : Launch} {e : Env} {R : Room} {s : State} {m : MethodId} {args : Array Value} {below : List Frame} {meth : Method} {c : Code} {D : va_G} {ad : Nat → Nat → Nat} {cs : Nat → ClassId} {P : Nat → Nat → Prop} {sz tU : Nat} {adK adV : Nat → Nat} {K : Int32 → St → Prop} {x2 : Int32} {x3 : Int32} {x4 : Int32} {S : St} {H : Heap} {locs : List Loc} {ls : Array Slot} (E : Ex p s m args meth c R RX8 cX8_refuses 5 (some .boolean) 1 60 D ad cs P (wA ad P) tU adK adV cnM) (hw : wbX8_refuses_91 K x2 x3 x4 S) (hh : wH D ad cs P (wA ad P) s.heap sz S H locs) (hl : lv_has ls 5 [(2, .int x2), (3, .int x3), (4, .int x4)]) : W p l e R s m args below meth c H locs 0 0 (MQ below (va_Qi (fun r S => K r S ∧ narrow .boolean (.int r) = .int r) (QX D ad cs P sz) (wA ad P)) args s 0 0 (wA ad P)) (F0 m 91 ls []) := by
  have hx := E.hx
  have hb := E.hb
  refine lv_iload_n hx hb dX8_refuses_91 rfl (lv_at hl 1 rfl) ?_
  refine lv_iconst (v := 2) hx hb dX8_refuses_92 (by decide) ?_
  refine lv_icmp_gt (tgt := 108) hx hb dX8_refuses_93 (by decide) (fun c13 => ?_) (fun c13 => ?_)
  · have hw := ifT hw c13
    exact bX8_refuses_108 E hw hh (lv_sub hl [] rfl)
  · have hw := ifF hw c13
    exact bX8_refuses_96 E hw hh (lv_sub hl [0, 2] rfl)
def wpX8_refuses (x1 : Int32) (x2 : Int32) (x3 : Int32) (S : St) (K : Int32 → St → Prop) : Prop := (vp_in x1 4 ∧ if (S.1 49 0 x1.toNatClampNeg) = 4 then (K 1 S) else (if (S.1 49 0 x1.toNatClampNeg) = 5 then ((vp_in x1 4 ∧ if ((x3 + (S.1 50 0 x1.toNatClampNeg)) - (x3 + (S.1 50 0 x1.toNatClampNeg)) / 2 * 2) = 1 then (K 1 S) else (K 0 S))) else (if (S.1 49 0 x1.toNatClampNeg) = 1 then (if 50 ≤ x2 then (K 0 S) else ((vp_in x1 4 ∧ if (10 * (S.1 50 0 x1.toNatClampNeg)) ≤ x2 then (K 0 S) else (K 1 S)))) else (if x2 < 50 then (wbX8_refuses_108 K S) else (if (S.1 49 0 x1.toNatClampNeg) = 2 then (wbX8_refuses_91 K x2 x3 (S.1 49 0 x1.toNatClampNeg) S) else (if (S.1 49 0 x1.toNatClampNeg) = 3 then (wbX8_refuses_91 K x2 x3 (S.1 49 0 x1.toNatClampNeg) S) else (wbX8_refuses_96 K x2 (S.1 49 0 x1.toNatClampNeg) S)))))))
set_option maxRecDepth 4000 in
theorem bX8_refuses {p : Program} {l : Launch} {e : Env} {R : Room} {s : State} {m : MethodId} {args : Array Value} {below : List Frame} {meth : Method} {c : Code} {D : va_G} {ad : Nat → Nat → Nat} {cs : Nat → ClassId} {P : Nat → Nat → Prop} {sz tU : Nat} {adK adV : Nat → Nat} {K : Int32 → St → Prop} {x1 : Int32} {x2 : Int32} {x3 : Int32} {S : St} {H : Heap} {locs : List Loc} {ls : Array Slot} (E : Ex p s m args meth c R RX8 cX8_refuses 5 (some .boolean) 1 60 D ad cs P (wA ad P) tU adK adV cnM) (hw : wpX8_refuses x1 x2 x3 S K) (hh : wH D ad cs P (wA ad P) s.heap sz S H locs) (hl : lv_has ls 5 [(0, .ref (ad 40 0)), (1, .int x1), (2, .int x2), (3, .int x3)]) : W p l e R s m args below meth c H locs 0 0 (MQ below (va_Qi (fun r S => K r S ∧ narrow .boolean (.int r) = .int r) (QX D ad cs P sz) (wA ad P)) args s 0 0 (wA ad P)) (F0 m 0 ls []) := by
  have hx := E.hx
  have hb := E.hb
  refine lv_aload_n hx hb dX8_refuses_0 rfl (lv_at hl 0 rfl) ?_
  refine g_40_14 E hh tb748 (E.hn 40 0 (by decide)) dX8_refuses_1 ?_
  refine lv_iload_n hx hb dX8_refuses_4 rfl (lv_at hl 1 rfl) ?_
  obtain ⟨hi1, hw⟩ := hw
  refine x_iald E hh (E.hn 49 0 (by decide)) ly_49 hi1 dX8_refuses_5 ?_
  refine lv_istore (lv' := [(4, .int (S.1 49 0 x1.toNatClampNeg)), (0, .ref (ad 40 0)), (1, .int x1), (2, .int x2), (3, .int x3)]) hx hb dX8_refuses_6 hl (by decide) rfl (fun ls hl => ?_)
  refine lv_iload hx hb dX8_refuses_8 (lv_at hl 0 rfl) ?_
  refine lv_iconst (v := 4) hx hb dX8_refuses_10 (by decide) ?_
  refine lv_icmp_ne (tgt := 16) hx hb dX8_refuses_11 (by decide) (fun c2 => ?_) (fun c2 => ?_)
  · have hw := ifF hw c2
    refine lv_iload hx hb dX8_refuses_16 (lv_at hl 0 rfl) ?_
    refine lv_iconst (v := 5) hx hb dX8_refuses_18 (by decide) ?_
    refine lv_icmp_ne (tgt := 42) hx hb dX8_refuses_19 (by decide) (fun c3 => ?_) (fun c3 => ?_)
    · have hw := ifF hw c3
      refine lv_iload hx hb dX8_refuses_42 (lv_at hl 0 rfl) ?_
      refine lv_iconst (v := 1) hx hb dX8_refuses_44 (by decide) ?_
      refine lv_icmp_ne (tgt := 73) hx hb dX8_refuses_45 (by decide) (fun c4 => ?_) (fun c4 => ?_)
      · have hw := ifF hw c4
        refine lv_iload_n hx hb dX8_refuses_73 rfl (lv_at hl 3 rfl) ?_
        refine lv_bipush (v := 50) hx hb dX8_refuses_74 (by decide) ?_
        refine lv_icmp_lt (tgt := 108) hx hb dX8_refuses_76 (by decide) (fun c5 => ?_) (fun c5 => ?_)
        · have hw := ifT hw c5
          exact bX8_refuses_108 E hw hh (lv_sub hl [] rfl)
        · have hw := ifF hw c5
          refine lv_iload hx hb dX8_refuses_79 (lv_at hl 0 rfl) ?_
          refine lv_iconst (v := 2) hx hb dX8_refuses_81 (by decide) ?_
          refine lv_icmp_eq (tgt := 91) hx hb dX8_refuses_82 (by decide) (fun c6 => ?_) (fun c6 => ?_)
          · have hw := ifT hw c6
            exact bX8_refuses_91 E hw hh (lv_sub hl [3, 4, 0] rfl)
          · have hw := ifF hw c6
            refine lv_iload hx hb dX8_refuses_85 (lv_at hl 0 rfl) ?_
            refine lv_iconst (v := 3) hx hb dX8_refuses_87 (by decide) ?_
            refine lv_icmp_ne (tgt := 96) hx hb dX8_refuses_88 (by decide) (fun c7 => ?_) (fun c7 => ?_)
            · have hw := ifF hw c7
              exact bX8_refuses_96 E hw hh (lv_sub hl [3, 0] rfl)
            · have hw := ifT hw c7
              exact bX8_refuses_91 E hw hh (lv_sub hl [3, 4, 0] rfl)
      · have hw := ifT hw c4
        refine lv_iload_n hx hb dX8_refuses_48 rfl (lv_at hl 3 rfl) ?_
        refine lv_bipush (v := 50) hx hb dX8_refuses_49 (by decide) ?_
        refine lv_icmp_ge (tgt := 71) hx hb dX8_refuses_51 (by decide) (fun c8 => ?_) (fun c8 => ?_)
        · have hw := ifT hw c8
          refine lv_iconst (v := 0) hx hb dX8_refuses_71 (by decide) ?_
          exact x_zret E hh hw rfl dX8_refuses_72
        · have hw := ifF hw c8
          refine lv_iload_n hx hb dX8_refuses_54 rfl (lv_at hl 3 rfl) ?_
          refine lv_bipush (v := 10) hx hb dX8_refuses_55 (by decide) ?_
          refine lv_aload_n hx hb dX8_refuses_57 rfl (lv_at hl 1 rfl) ?_
          refine g_40_15 E hh tb749 (E.hn 40 0 (by decide)) dX8_refuses_58 ?_
          refine lv_iload_n hx hb dX8_refuses_61 rfl (lv_at hl 2 rfl) ?_
          obtain ⟨hi9, hw⟩ := hw
          refine x_iald E hh (E.hn 50 0 (by decide)) ly_50 hi9 dX8_refuses_62 ?_
          refine lv_imul hx hb dX8_refuses_63 ?_
          refine lv_icmp_ge (tgt := 71) hx hb dX8_refuses_64 (by decide) (fun c10 => ?_) (fun c10 => ?_)
          · have hw := ifT hw c10
            refine lv_iconst (v := 0) hx hb dX8_refuses_71 (by decide) ?_
            exact x_zret E hh hw rfl dX8_refuses_72
          · have hw := ifF hw c10
            refine lv_iconst (v := 1) hx hb dX8_refuses_67 (by decide) ?_
            refine lv_goto (tgt := 72) hx hb dX8_refuses_68 (by decide) ?_
            exact x_zret E hh hw rfl dX8_refuses_72
    · have hw := ifT hw c3
      refine lv_iload_n hx hb dX8_refuses_22 rfl (lv_at hl 4 rfl) ?_
      refine lv_aload_n hx hb dX8_refuses_23 rfl (lv_at hl 1 rfl) ?_
      refine g_40_15 E hh tb749 (E.hn 40 0 (by decide)) dX8_refuses_24 ?_
      refine lv_iload_n hx hb dX8_refuses_27 rfl (lv_at hl 2 rfl) ?_
      obtain ⟨hi11, hw⟩ := hw
      refine x_iald E hh (E.hn 50 0 (by decide)) ly_50 hi11 dX8_refuses_28 ?_
      refine lv_iadd hx hb dX8_refuses_29 ?_
      refine lv_iconst (v := 2) hx hb dX8_refuses_30 (by decide) ?_
      refine lv_irem hx hb dX8_refuses_31 (by decide) ?_
      refine lv_iconst (v := 1) hx hb dX8_refuses_32 (by decide) ?_
      refine lv_icmp_ne (tgt := 40) hx hb dX8_refuses_33 (by decide) (fun c12 => ?_) (fun c12 => ?_)
      · have hw := ifF hw c12
        refine lv_iconst (v := 0) hx hb dX8_refuses_40 (by decide) ?_
        exact x_zret E hh hw rfl dX8_refuses_41
      · have hw := ifT hw c12
        refine lv_iconst (v := 1) hx hb dX8_refuses_36 (by decide) ?_
        refine lv_goto (tgt := 41) hx hb dX8_refuses_37 (by decide) ?_
        exact x_zret E hh hw rfl dX8_refuses_41
  · have hw := ifT hw c2
    refine lv_iconst (v := 1) hx hb dX8_refuses_14 (by decide) ?_
    exact x_zret E hh hw rfl dX8_refuses_15
theorem kX8_refuses : kI yX8_refuses cX8_refuses 5 (some .boolean) 3 := ⟨tb1062, ts51, tb15, tb1063, by decide, by decide, by decide +kernel⟩
theorem mX8_refuses {l : Launch} {D : va_G} {ad : Nat → Nat → Nat} {cs : Nat → ClassId} {P : Nat → Nat → Prop} {sz tU : Nat} {adK adV : Nat → Nat} {x1 : Int32} {x2 : Int32} {x3 : Int32} {S : St} {K : Int32 → St → Prop} (hI : wI ad P) (hn : ∀ kd i, i < cnM kd → P kd i) (hw : wpX8_refuses x1 x2 x3 S K) : MI l yX8_refuses cX8_refuses 5 (some .boolean) 1 60 D ad cs P sz tU adK adV [.ref (ad 40 0), .int x1, .int x2, .int x3] S (fun r S => K r S ∧ narrow .boolean (.int r) = .int r) :=
  Met_of (by decide) (Nat.le_of_ble_eq_true rfl) hI hn (fun p e R s m args below meth c ls E hl hh => bX8_refuses E  hw hh (lv_sub hl [0, 1, 2, 3] rfl))
def wbX8_price_79 (K : Int32 → St → Prop) (v0 : Int32) (v1 : Int32) (S : St) : Prop := K (v1 + v0) S
set_option maxRecDepth 4000 in
theorem bX8_price_79 {p : Program} {l : Launch} {e : Env} {R : Room} {s : State} {m : MethodId} {args : Array Value} {below : List Frame} {meth : Method} {c : Code} {D : va_G} {ad : Nat → Nat → Nat} {cs : Nat → ClassId} {P : Nat → Nat → Prop} {sz tU : Nat} {adK adV : Nat → Nat} {K : Int32 → St → Prop} {v0 : Int32} {v1 : Int32} {S : St} {H : Heap} {locs : List Loc} {ls : Array Slot} (E : Ex p s m args meth c R RX8 cX8_price 4 (some .int) 1 60 D ad cs P (wA ad P) tU adK adV cnM) (hw : wbX8_price_79 K v0 v1 S) (hh : wH D ad cs P (wA ad P) s.heap sz S H locs) (hl : lv_has ls 4 []) : W p l e R s m args below meth c H locs 0 0 (MQ below (va_Qi K (QX D ad cs P sz) (wA ad P)) args s 0 0 (wA ad P)) (F0 m 79 ls [.int v0, .int v1]) := by
  have hx := E.hx
  have hb := E.hb
  refine lv_iadd hx hb dX8_price_79 ?_
  exact x_iret E hh hw dX8_price_80
def wbX8_price_42 (K : Int32 → St → Prop) (v0 : Int32) (v1 : Int32) (S : St) : Prop := if 0 ≤ (v1 - v0) then (K (v1 - v0) S) else (K 0 S)
set_option maxRecDepth 4000 in
theorem bX8_price_42 {p : Program} {l : Launch} {e : Env} {R : Room} {s : State} {m : MethodId} {args : Array Value} {below : List Frame} {meth : Method} {c : Code} {D : va_G} {ad : Nat → Nat → Nat} {cs : Nat → ClassId} {P : Nat → Nat → Prop} {sz tU : Nat} {adK adV : Nat → Nat} {K : Int32 → St → Prop} {v0 : Int32} {v1 : Int32} {S : St} {H : Heap} {locs : List Loc} {ls : Array Slot} (E : Ex p s m args meth c R RX8 cX8_price 4 (some .int) 1 60 D ad cs P (wA ad P) tU adK adV cnM) (hw : wbX8_price_42 K v0 v1 S) (hh : wH D ad cs P (wA ad P) s.heap sz S H locs) (hl : lv_has ls 4 []) : W p l e R s m args below meth c H locs 0 0 (MQ below (va_Qi K (QX D ad cs P sz) (wA ad P)) args s 0 0 (wA ad P)) (F0 m 42 ls [.int v0, .int v1]) := by
  have hx := E.hx
  have hb := E.hb
  refine lv_isub hx hb dX8_price_42 ?_
  refine lv_istore_n (lv' := [(3, .int (v1 - v0))]) hx hb dX8_price_43 rfl hl (by decide) rfl (fun ls hl => ?_)
  refine lv_iload_n hx hb dX8_price_44 rfl (lv_at hl 0 rfl) ?_
  refine lv_if_ge (tgt := 52) hx hb dX8_price_45 (by decide) (fun c10 => ?_) (fun c10 => ?_)
  · have hw := ifT hw c10
    refine lv_iload_n hx hb dX8_price_52 rfl (lv_at hl 0 rfl) ?_
    exact x_iret E hh hw dX8_price_53
  · have hw := ifF hw c10
    refine lv_iconst (v := 0) hx hb dX8_price_48 (by decide) ?_
    refine lv_goto (tgt := 53) hx hb dX8_price_49 (by decide) ?_
    exact x_iret E hh hw dX8_price_53
def wbX8_price_24 (K : Int32 → St → Prop) (x1 : Int32) (x2 : Int32) (S : St) : Prop := (vp_in x1 4 ∧ if x2 = 3 then (wbX8_price_42 K 3 (2 * (S.1 50 0 x1.toNatClampNeg)) S) else (wbX8_price_42 K 0 (2 * (S.1 50 0 x1.toNatClampNeg)) S))
set_option maxRecDepth 4000 in
theorem bX8_price_24 {p : Program} {l : Launch} {e : Env} {R : Room} {s : State} {m : MethodId} {args : Array Value} {below : List Frame} {meth : Method} {c : Code} {D : va_G} {ad : Nat → Nat → Nat} {cs : Nat → ClassId} {P : Nat → Nat → Prop} {sz tU : Nat} {adK adV : Nat → Nat} {K : Int32 → St → Prop} {x1 : Int32} {x2 : Int32} {S : St} {H : Heap} {locs : List Loc} {ls : Array Slot} (E : Ex p s m args meth c R RX8 cX8_price 4 (some .int) 1 60 D ad cs P (wA ad P) tU adK adV cnM) (hw : wbX8_price_24 K x1 x2 S) (hh : wH D ad cs P (wA ad P) s.heap sz S H locs) (hl : lv_has ls 4 [(0, .ref (ad 40 0)), (1, .int x1), (2, .int x2)]) : W p l e R s m args below meth c H locs 0 0 (MQ below (va_Qi K (QX D ad cs P sz) (wA ad P)) args s 0 0 (wA ad P)) (F0 m 24 ls []) := by
  have hx := E.hx
  have hb := E.hb
  refine lv_iconst (v := 2) hx hb dX8_price_24 (by decide) ?_
  refine lv_aload_n hx hb dX8_price_25 rfl (lv_at hl 0 rfl) ?_
  refine g_40_15 E hh tb749 (E.hn 40 0 (by decide)) dX8_price_26 ?_
  refine lv_iload_n hx hb dX8_price_29 rfl (lv_at hl 1 rfl) ?_
  obtain ⟨hi8, hw⟩ := hw
  refine x_iald E hh (E.hn 50 0 (by decide)) ly_50 hi8 dX8_price_30 ?_
  refine lv_imul hx hb dX8_price_31 ?_
  refine lv_iload_n hx hb dX8_price_32 rfl (lv_at hl 2 rfl) ?_
  refine lv_iconst (v := 3) hx hb dX8_price_33 (by decide) ?_
  refine lv_icmp_ne (tgt := 41) hx hb dX8_price_34 (by decide) (fun c9 => ?_) (fun c9 => ?_)
  · have hw := ifF hw c9
    refine lv_iconst (v := 0) hx hb dX8_price_41 (by decide) ?_
    exact bX8_price_42 E hw hh (lv_sub hl [] rfl)
  · have hw := ifT hw c9
    refine lv_iconst (v := 3) hx hb dX8_price_37 (by decide) ?_
    refine lv_goto (tgt := 42) hx hb dX8_price_38 (by decide) ?_
    exact bX8_price_42 E hw hh (lv_sub hl [] rfl)
def wpX8_price (x1 : Int32) (S : St) (K : Int32 → St → Prop) : Prop := (vp_in x1 4 ∧ if (S.1 49 0 x1.toNatClampNeg) = 4 then (K 0 S) else (if (S.1 49 0 x1.toNatClampNeg) = 2 then (wbX8_price_24 K x1 (S.1 49 0 x1.toNatClampNeg) S) else (if (S.1 49 0 x1.toNatClampNeg) = 3 then (wbX8_price_24 K x1 (S.1 49 0 x1.toNatClampNeg) S) else ((vp_in x1 4 ∧ if (S.1 49 0 x1.toNatClampNeg) = 1 then (wbX8_price_79 K 5 (S.1 50 0 x1.toNatClampNeg) S) else (if (S.1 49 0 x1.toNatClampNeg) = 5 then (wbX8_price_79 K 1 (S.1 50 0 x1.toNatClampNeg) S) else (wbX8_price_79 K 0 (S.1 50 0 x1.toNatClampNeg) S)))))))
set_option maxRecDepth 4000 in
theorem bX8_price {p : Program} {l : Launch} {e : Env} {R : Room} {s : State} {m : MethodId} {args : Array Value} {below : List Frame} {meth : Method} {c : Code} {D : va_G} {ad : Nat → Nat → Nat} {cs : Nat → ClassId} {P : Nat → Nat → Prop} {sz tU : Nat} {adK adV : Nat → Nat} {K : Int32 → St → Prop} {x1 : Int32} {S : St} {H : Heap} {locs : List Loc} {ls : Array Slot} (E : Ex p s m args meth c R RX8 cX8_price 4 (some .int) 1 60 D ad cs P (wA ad P) tU adK adV cnM) (hw : wpX8_price x1 S K) (hh : wH D ad cs P (wA ad P) s.heap sz S H locs) (hl : lv_has ls 4 [(0, .ref (ad 40 0)), (1, .int x1)]) : W p l e R s m args below meth c H locs 0 0 (MQ below (va_Qi K (QX D ad cs P sz) (wA ad P)) args s 0 0 (wA ad P)) (F0 m 0 ls []) := by
  have hx := E.hx
  have hb := E.hb
  refine lv_aload_n hx hb dX8_price_0 rfl (lv_at hl 0 rfl) ?_
  refine g_40_14 E hh tb748 (E.hn 40 0 (by decide)) dX8_price_1 ?_
  refine lv_iload_n hx hb dX8_price_4 rfl (lv_at hl 1 rfl) ?_
  obtain ⟨hi1, hw⟩ := hw
  refine x_iald E hh (E.hn 49 0 (by decide)) ly_49 hi1 dX8_price_5 ?_
  refine lv_istore_n (lv' := [(2, .int (S.1 49 0 x1.toNatClampNeg)), (0, .ref (ad 40 0)), (1, .int x1)]) hx hb dX8_price_6 rfl hl (by decide) rfl (fun ls hl => ?_)
  refine lv_iload_n hx hb dX8_price_7 rfl (lv_at hl 0 rfl) ?_
  refine lv_iconst (v := 4) hx hb dX8_price_8 (by decide) ?_
  refine lv_icmp_ne (tgt := 14) hx hb dX8_price_9 (by decide) (fun c2 => ?_) (fun c2 => ?_)
  · have hw := ifF hw c2
    refine lv_iload_n hx hb dX8_price_14 rfl (lv_at hl 0 rfl) ?_
    refine lv_iconst (v := 2) hx hb dX8_price_15 (by decide) ?_
    refine lv_icmp_eq (tgt := 24) hx hb dX8_price_16 (by decide) (fun c3 => ?_) (fun c3 => ?_)
    · have hw := ifT hw c3
      exact bX8_price_24 E hw hh (lv_sub hl [1, 2, 0] rfl)
    · have hw := ifF hw c3
      refine lv_iload_n hx hb dX8_price_19 rfl (lv_at hl 0 rfl) ?_
      refine lv_iconst (v := 3) hx hb dX8_price_20 (by decide) ?_
      refine lv_icmp_ne (tgt := 54) hx hb dX8_price_21 (by decide) (fun c4 => ?_) (fun c4 => ?_)
      · have hw := ifF hw c4
        refine lv_aload_n hx hb dX8_price_54 rfl (lv_at hl 1 rfl) ?_
        refine g_40_15 E hh tb749 (E.hn 40 0 (by decide)) dX8_price_55 ?_
        refine lv_iload_n hx hb dX8_price_58 rfl (lv_at hl 2 rfl) ?_
        obtain ⟨hi5, hw⟩ := hw
        refine x_iald E hh (E.hn 50 0 (by decide)) ly_50 hi5 dX8_price_59 ?_
        refine lv_iload_n hx hb dX8_price_60 rfl (lv_at hl 0 rfl) ?_
        refine lv_iconst (v := 1) hx hb dX8_price_61 (by decide) ?_
        refine lv_icmp_ne (tgt := 69) hx hb dX8_price_62 (by decide) (fun c6 => ?_) (fun c6 => ?_)
        · have hw := ifF hw c6
          refine lv_iload_n hx hb dX8_price_69 rfl (lv_at hl 0 rfl) ?_
          refine lv_iconst (v := 5) hx hb dX8_price_70 (by decide) ?_
          refine lv_icmp_ne (tgt := 78) hx hb dX8_price_71 (by decide) (fun c7 => ?_) (fun c7 => ?_)
          · have hw := ifF hw c7
            refine lv_iconst (v := 0) hx hb dX8_price_78 (by decide) ?_
            exact bX8_price_79 E hw hh (lv_sub hl [] rfl)
          · have hw := ifT hw c7
            refine lv_iconst (v := 1) hx hb dX8_price_74 (by decide) ?_
            refine lv_goto (tgt := 79) hx hb dX8_price_75 (by decide) ?_
            exact bX8_price_79 E hw hh (lv_sub hl [] rfl)
        · have hw := ifT hw c6
          refine lv_iconst (v := 5) hx hb dX8_price_65 (by decide) ?_
          refine lv_goto (tgt := 79) hx hb dX8_price_66 (by decide) ?_
          exact bX8_price_79 E hw hh (lv_sub hl [] rfl)
      · have hw := ifT hw c4
        exact bX8_price_24 E hw hh (lv_sub hl [1, 2, 0] rfl)
  · have hw := ifT hw c2
    refine lv_iconst (v := 0) hx hb dX8_price_12 (by decide) ?_
    exact x_iret E hh hw dX8_price_13
theorem kX8_price : kI yX8_price cX8_price 4 (some .int) 1 := ⟨tb951, ts30, tb15, tb952, by decide, by decide, by decide +kernel⟩
theorem mX8_price {l : Launch} {D : va_G} {ad : Nat → Nat → Nat} {cs : Nat → ClassId} {P : Nat → Nat → Prop} {sz tU : Nat} {adK adV : Nat → Nat} {x1 : Int32} {S : St} {K : Int32 → St → Prop} (hI : wI ad P) (hn : ∀ kd i, i < cnM kd → P kd i) (hw : wpX8_price x1 S K) : MI l yX8_price cX8_price 4 (some .int) 1 60 D ad cs P sz tU adK adV [.ref (ad 40 0), .int x1] S K :=
  Met_of (by decide) (Nat.le_of_ble_eq_true rfl) hI hn (fun p e R s m args below meth c ls E hl hh => bX8_price E  hw hh (lv_sub hl [0, 1] rfl))
def wbX8_of_41 (K : Int32 → St → Prop) (x1 : Int32) (x2 : Int32) (S : St) : Prop := if 4 ≤ x2 then (if x2 = 4 then ((vp_in x1 4 ∧ K (S.1 48 0 x1.toNatClampNeg) S)) else (if x2 = 5 then ((vp_in x1 4 ∧ K (S.1 46 0 x1.toNatClampNeg) S)) else ((vp_in x1 4 ∧ K (S.1 47 0 x1.toNatClampNeg) S)))) else (if x2 = 0 then ((vp_in x1 4 ∧ K (S.1 49 0 x1.toNatClampNeg) S)) else (if x2 = 1 then ((vp_in x1 4 ∧ K (S.1 50 0 x1.toNatClampNeg) S)) else (if x2 = 2 then (wpX8_needs x1 S (fun r19 S19 => K r19 S19)) else (wpX8_price x1 S (fun r18 S18 => K r18 S18)))))
set_option maxRecDepth 4000 in
theorem bX8_of_41 {p : Program} {l : Launch} {e : Env} {R : Room} {s : State} {m : MethodId} {args : Array Value} {below : List Frame} {meth : Method} {c : Code} {D : va_G} {ad : Nat → Nat → Nat} {cs : Nat → ClassId} {P : Nat → Nat → Prop} {sz tU : Nat} {adK adV : Nat → Nat} {K : Int32 → St → Prop} {x1 : Int32} {x2 : Int32} {S : St} {H : Heap} {locs : List Loc} {ls : Array Slot} (E : Ex p s m args meth c R RX8 cX8_of 3 (some .int) 3 106 D ad cs P (wA ad P) tU adK adV cnM) (hw : wbX8_of_41 K x1 x2 S) (hh : wH D ad cs P (wA ad P) s.heap sz S H locs) (hl : lv_has ls 3 [(0, .ref (ad 40 0)), (1, .int x1), (2, .int x2)]) : W p l e R s m args below meth c H locs 0 0 (MQ below (va_Qi K (QX D ad cs P sz) (wA ad P)) args s 0 0 (wA ad P)) (F0 m 41 ls []) := by
  have hx := E.hx
  have hb := E.hb
  refine lv_iload_n hx hb dX8_of_41 rfl (lv_at hl 2 rfl) ?_
  refine lv_iconst (v := 4) hx hb dX8_of_42 (by decide) ?_
  refine lv_icmp_ge (tgt := 92) hx hb dX8_of_43 (by decide) (fun c9 => ?_) (fun c9 => ?_)
  · have hw := ifT hw c9
    refine lv_iload_n hx hb dX8_of_92 rfl (lv_at hl 2 rfl) ?_
    refine lv_iconst (v := 4) hx hb dX8_of_93 (by decide) ?_
    refine lv_icmp_ne (tgt := 106) hx hb dX8_of_94 (by decide) (fun c10 => ?_) (fun c10 => ?_)
    · have hw := ifF hw c10
      refine lv_iload_n hx hb dX8_of_106 rfl (lv_at hl 2 rfl) ?_
      refine lv_iconst (v := 5) hx hb dX8_of_107 (by decide) ?_
      refine lv_icmp_ne (tgt := 120) hx hb dX8_of_108 (by decide) (fun c11 => ?_) (fun c11 => ?_)
      · have hw := ifF hw c11
        refine lv_aload_n hx hb dX8_of_120 rfl (lv_at hl 0 rfl) ?_
        refine g_40_12 E hh tb746 (E.hn 40 0 (by decide)) dX8_of_121 ?_
        refine lv_iload_n hx hb dX8_of_124 rfl (lv_at hl 1 rfl) ?_
        obtain ⟨hi12, hw⟩ := hw
        refine x_iald E hh (E.hn 47 0 (by decide)) ly_47 hi12 dX8_of_125 ?_
        exact x_iret E hh hw dX8_of_126
      · have hw := ifT hw c11
        refine lv_aload_n hx hb dX8_of_111 rfl (lv_at hl 0 rfl) ?_
        refine g_40_11 E hh tb745 (E.hn 40 0 (by decide)) dX8_of_112 ?_
        refine lv_iload_n hx hb dX8_of_115 rfl (lv_at hl 1 rfl) ?_
        obtain ⟨hi13, hw⟩ := hw
        refine x_iald E hh (E.hn 46 0 (by decide)) ly_46 hi13 dX8_of_116 ?_
        refine lv_goto (tgt := 126) hx hb dX8_of_117 (by decide) ?_
        exact x_iret E hh hw dX8_of_126
    · have hw := ifT hw c10
      refine lv_aload_n hx hb dX8_of_97 rfl (lv_at hl 0 rfl) ?_
      refine g_40_13 E hh tb747 (E.hn 40 0 (by decide)) dX8_of_98 ?_
      refine lv_iload_n hx hb dX8_of_101 rfl (lv_at hl 1 rfl) ?_
      obtain ⟨hi14, hw⟩ := hw
      refine x_iald E hh (E.hn 48 0 (by decide)) ly_48 hi14 dX8_of_102 ?_
      refine lv_goto (tgt := 126) hx hb dX8_of_103 (by decide) ?_
      exact x_iret E hh hw dX8_of_126
  · have hw := ifF hw c9
    refine lv_iload_n hx hb dX8_of_46 rfl (lv_at hl 2 rfl) ?_
    refine lv_if_ne (tgt := 59) hx hb dX8_of_47 (by decide) (fun c15 => ?_) (fun c15 => ?_)
    · have hw := ifF hw c15
      refine lv_iload_n hx hb dX8_of_59 rfl (lv_at hl 2 rfl) ?_
      refine lv_iconst (v := 1) hx hb dX8_of_60 (by decide) ?_
      refine lv_icmp_ne (tgt := 73) hx hb dX8_of_61 (by decide) (fun c16 => ?_) (fun c16 => ?_)
      · have hw := ifF hw c16
        refine lv_iload_n hx hb dX8_of_73 rfl (lv_at hl 2 rfl) ?_
        refine lv_iconst (v := 2) hx hb dX8_of_74 (by decide) ?_
        refine lv_icmp_ne (tgt := 86) hx hb dX8_of_75 (by decide) (fun c17 => ?_) (fun c17 => ?_)
        · have hw := ifF hw c17
          refine lv_aload_n hx hb dX8_of_86 rfl (lv_at hl 0 rfl) ?_
          refine lv_iload_n hx hb dX8_of_87 rfl (lv_at hl 1 rfl) ?_
          refine x_ci E.hA hh (x_runV E hh (mX8_price E.hI E.hn hw) kX8_price tb949 (E.hn 40 0 (by decide)) rv_40 ⟨by decide, by decide⟩ rfl hl.1 rfl (Nat.le_of_ble_eq_true rfl) dX8_of_88 ⟨Nat.zero_le _, Nat.zero_le _⟩) (fun r18 S18 H locs hw hh => ?_)
          exact x_iret E hh hw dX8_of_91
        · have hw := ifT hw c17
          refine lv_aload_n hx hb dX8_of_78 rfl (lv_at hl 0 rfl) ?_
          refine lv_iload_n hx hb dX8_of_79 rfl (lv_at hl 1 rfl) ?_
          refine x_ci E.hA hh (x_runV E hh (mX8_needs E.hI E.hn hw) kX8_needs tb945 (E.hn 40 0 (by decide)) rv_40 ⟨by decide, by decide⟩ rfl hl.1 rfl (Nat.le_of_ble_eq_true rfl) dX8_of_80 ⟨Nat.zero_le _, Nat.zero_le _⟩) (fun r19 S19 H locs hw hh => ?_)
          refine lv_goto (tgt := 91) hx hb dX8_of_83 (by decide) ?_
          exact x_iret E hh hw dX8_of_91
      · have hw := ifT hw c16
        refine lv_aload_n hx hb dX8_of_64 rfl (lv_at hl 0 rfl) ?_
        refine g_40_15 E hh tb749 (E.hn 40 0 (by decide)) dX8_of_65 ?_
        refine lv_iload_n hx hb dX8_of_68 rfl (lv_at hl 1 rfl) ?_
        obtain ⟨hi20, hw⟩ := hw
        refine x_iald E hh (E.hn 50 0 (by decide)) ly_50 hi20 dX8_of_69 ?_
        refine lv_goto (tgt := 91) hx hb dX8_of_70 (by decide) ?_
        exact x_iret E hh hw dX8_of_91
    · have hw := ifT hw c15
      refine lv_aload_n hx hb dX8_of_50 rfl (lv_at hl 0 rfl) ?_
      refine g_40_14 E hh tb748 (E.hn 40 0 (by decide)) dX8_of_51 ?_
      refine lv_iload_n hx hb dX8_of_54 rfl (lv_at hl 1 rfl) ?_
      obtain ⟨hi21, hw⟩ := hw
      refine x_iald E hh (E.hn 49 0 (by decide)) ly_49 hi21 dX8_of_55 ?_
      refine lv_goto (tgt := 91) hx hb dX8_of_56 (by decide) ?_
      exact x_iret E hh hw dX8_of_91
def wbX8_of_25 (K : Int32 → St → Prop) (x1 : Int32) (x2 : Int32) (S : St) : Prop := if x2 < 5 then (wbX8_of_41 K x1 x2 S) else (wpX8_isMan x1 S (fun r7 S7 => if r7 = 0 then (K (-2) S7) else (wbX8_of_41 K x1 x2 S7)))
set_option maxRecDepth 4000 in
theorem bX8_of_25 {p : Program} {l : Launch} {e : Env} {R : Room} {s : State} {m : MethodId} {args : Array Value} {below : List Frame} {meth : Method} {c : Code} {D : va_G} {ad : Nat → Nat → Nat} {cs : Nat → ClassId} {P : Nat → Nat → Prop} {sz tU : Nat} {adK adV : Nat → Nat} {K : Int32 → St → Prop} {x1 : Int32} {x2 : Int32} {S : St} {H : Heap} {locs : List Loc} {ls : Array Slot} (E : Ex p s m args meth c R RX8 cX8_of 3 (some .int) 3 106 D ad cs P (wA ad P) tU adK adV cnM) (hw : wbX8_of_25 K x1 x2 S) (hh : wH D ad cs P (wA ad P) s.heap sz S H locs) (hl : lv_has ls 3 [(0, .ref (ad 40 0)), (1, .int x1), (2, .int x2)]) : W p l e R s m args below meth c H locs 0 0 (MQ below (va_Qi K (QX D ad cs P sz) (wA ad P)) args s 0 0 (wA ad P)) (F0 m 25 ls []) := by
  have hx := E.hx
  have hb := E.hb
  refine lv_iload_n hx hb dX8_of_25 rfl (lv_at hl 2 rfl) ?_
  refine lv_iconst (v := 5) hx hb dX8_of_26 (by decide) ?_
  refine lv_icmp_lt (tgt := 41) hx hb dX8_of_27 (by decide) (fun c6 => ?_) (fun c6 => ?_)
  · have hw := ifT hw c6
    exact bX8_of_41 E hw hh (lv_sub hl [0, 1, 2] rfl)
  · have hw := ifF hw c6
    refine lv_aload_n hx hb dX8_of_30 rfl (lv_at hl 0 rfl) ?_
    refine lv_iload_n hx hb dX8_of_31 rfl (lv_at hl 1 rfl) ?_
    refine x_ci E.hA hh (x_runV E hh (mX8_isMan E.hI E.hn hw) kX8_isMan tb926 (E.hn 40 0 (by decide)) rv_40 ⟨by decide, by decide⟩ rfl hl.1 rfl (Nat.le_of_ble_eq_true rfl) dX8_of_32 ⟨Nat.zero_le _, Nat.zero_le _⟩) (fun r7 S7 H locs hw hh => ?_)
    have hq7 := hw.2
    have hw := hw.1
    refine lv_if_ne (tgt := 41) hx hb dX8_of_35 (by decide) (fun c8 => ?_) (fun c8 => ?_)
    · have hw := ifF hw c8
      exact bX8_of_41 E hw hh (lv_sub hl [0, 1, 2] rfl)
    · have hw := ifT hw c8
      refine lv_bipush (v := (-2)) hx hb dX8_of_38 (by decide) ?_
      exact x_iret E hh hw dX8_of_40
def wpX8_of (x1 : Int32) (x2 : Int32) (S : St) (K : Int32 → St → Prop) : Prop := wpX8_in x2.toInt64 0 6 S (fun r1 S1 => if r1 = 0 then (K (-2) S1) else (if 5 ≤ x2 then (wbX8_of_25 K x1 x2 S1) else (wpX8_isMaid x1 S1 (fun r4 S4 => if r4 = 0 then (K (-2) S4) else (wbX8_of_25 K x1 x2 S4)))))
set_option maxRecDepth 4000 in
theorem bX8_of {p : Program} {l : Launch} {e : Env} {R : Room} {s : State} {m : MethodId} {args : Array Value} {below : List Frame} {meth : Method} {c : Code} {D : va_G} {ad : Nat → Nat → Nat} {cs : Nat → ClassId} {P : Nat → Nat → Prop} {sz tU : Nat} {adK adV : Nat → Nat} {K : Int32 → St → Prop} {x1 : Int32} {x2 : Int32} {S : St} {H : Heap} {locs : List Loc} {ls : Array Slot} (E : Ex p s m args meth c R RX8 cX8_of 3 (some .int) 3 106 D ad cs P (wA ad P) tU adK adV cnM) (hw : wpX8_of x1 x2 S K) (hh : wH D ad cs P (wA ad P) s.heap sz S H locs) (hl : lv_has ls 3 [(0, .ref (ad 40 0)), (1, .int x1), (2, .int x2)]) : W p l e R s m args below meth c H locs 0 0 (MQ below (va_Qi K (QX D ad cs P sz) (wA ad P)) args s 0 0 (wA ad P)) (F0 m 0 ls []) := by
  have hx := E.hx
  have hb := E.hb
  refine lv_iload_n hx hb dX8_of_0 rfl (lv_at hl 2 rfl) ?_
  refine lv_i2l hx hb dX8_of_1 rfl ?_
  refine lv_lconst (v := 0) hx hb dX8_of_2 (by decide) ?_
  refine lv_ldc2 (v := 6) hx hb E.hown (E.hts _ tb944) dX8_of_3 ?_
  refine x_ci E.hA hh (x_runS E hh (mX8_in E.hI (fun _ _ h => absurd h (Nat.not_lt_zero _)) hw) kX8_in tb914 ⟨by decide, by decide⟩ rfl hl.1 rfl (Nat.le_of_ble_eq_true rfl) dX8_of_6 ⟨Nat.zero_le _, Nat.zero_le _⟩) (fun r1 S1 H locs hw hh => ?_)
  have hq1 := hw.2
  have hw := hw.1
  refine lv_if_eq (tgt := 38) hx hb dX8_of_9 (by decide) (fun c2 => ?_) (fun c2 => ?_)
  · have hw := ifT hw c2
    refine lv_bipush (v := (-2)) hx hb dX8_of_38 (by decide) ?_
    exact x_iret E hh hw dX8_of_40
  · have hw := ifF hw c2
    refine lv_iload_n hx hb dX8_of_12 rfl (lv_at hl 2 rfl) ?_
    refine lv_iconst (v := 5) hx hb dX8_of_13 (by decide) ?_
    refine lv_icmp_ge (tgt := 25) hx hb dX8_of_14 (by decide) (fun c3 => ?_) (fun c3 => ?_)
    · have hw := ifT hw c3
      exact bX8_of_25 E hw hh (lv_sub hl [0, 1, 2] rfl)
    · have hw := ifF hw c3
      refine lv_aload_n hx hb dX8_of_17 rfl (lv_at hl 0 rfl) ?_
      refine lv_iload_n hx hb dX8_of_18 rfl (lv_at hl 1 rfl) ?_
      refine x_ci E.hA hh (x_runV E hh (mX8_isMaid E.hI E.hn hw) kX8_isMaid tb930 (E.hn 40 0 (by decide)) rv_40 ⟨by decide, by decide⟩ rfl hl.1 rfl (Nat.le_of_ble_eq_true rfl) dX8_of_19 ⟨Nat.zero_le _, Nat.zero_le _⟩) (fun r4 S4 H locs hw hh => ?_)
      have hq4 := hw.2
      have hw := hw.1
      refine lv_if_eq (tgt := 38) hx hb dX8_of_22 (by decide) (fun c5 => ?_) (fun c5 => ?_)
      · have hw := ifT hw c5
        refine lv_bipush (v := (-2)) hx hb dX8_of_38 (by decide) ?_
        exact x_iret E hh hw dX8_of_40
      · have hw := ifF hw c5
        exact bX8_of_25 E hw hh (lv_sub hl [0, 1, 2] rfl)
theorem kX8_of : kI yX8_of cX8_of 3 (some .int) 2 := ⟨tb941, tb942, tb15, tb943, by decide, by decide, by decide +kernel⟩
theorem mX8_of {l : Launch} {D : va_G} {ad : Nat → Nat → Nat} {cs : Nat → ClassId} {P : Nat → Nat → Prop} {sz tU : Nat} {adK adV : Nat → Nat} {x1 : Int32} {x2 : Int32} {S : St} {K : Int32 → St → Prop} (hI : wI ad P) (hn : ∀ kd i, i < cnM kd → P kd i) (hw : wpX8_of x1 x2 S K) : MI l yX8_of cX8_of 3 (some .int) 3 106 D ad cs P sz tU adK adV [.ref (ad 40 0), .int x1, .int x2] S K :=
  Met_of (by decide) (Nat.le_of_ble_eq_true rfl) hI hn (fun p e R s m args below meth c ls E hl hh => bX8_of E  hw hh (lv_sub hl [0, 1, 2] rfl))
def wpX8_feed (x1 : Int32) (S : St) (K : Int32 → St → Prop) : Prop := wpX8_in x1.toInt64 0 255 S (fun r1 S1 => if r1 = 0 then (K (-2) S1) else (if (S1.1 40 0 6) = 160 then (K (-4) S1) else ((vp_in (S1.1 40 0 6) 160 ∧ ∀ S4, S4 = su S1 43 0 (S1.1 40 0 6).toNatClampNeg x1 → (∀ S5, S5 = su S4 40 0 6 ((S4.1 40 0 6) + 1) → K (S5.1 40 0 6) S5)))))
set_option maxRecDepth 4000 in
theorem bX8_feed {p : Program} {l : Launch} {e : Env} {R : Room} {s : State} {m : MethodId} {args : Array Value} {below : List Frame} {meth : Method} {c : Code} {D : va_G} {ad : Nat → Nat → Nat} {cs : Nat → ClassId} {P : Nat → Nat → Prop} {sz tU : Nat} {adK adV : Nat → Nat} {K : Int32 → St → Prop} {x1 : Int32} {S : St} {H : Heap} {locs : List Loc} {ls : Array Slot} (E : Ex p s m args meth c R RX8 cX8_feed 2 (some .int) 2 85 D ad cs P (wA ad P) tU adK adV cnM) (hw : wpX8_feed x1 S K) (hh : wH D ad cs P (wA ad P) s.heap sz S H locs) (hl : lv_has ls 2 [(0, .ref (ad 40 0)), (1, .int x1)]) : W p l e R s m args below meth c H locs 0 0 (MQ below (va_Qi K (QX D ad cs P sz) (wA ad P)) args s 0 0 (wA ad P)) (F0 m 0 ls []) := by
  have hx := E.hx
  have hb := E.hb
  refine lv_iload_n hx hb dX8_feed_0 rfl (lv_at hl 1 rfl) ?_
  refine lv_i2l hx hb dX8_feed_1 rfl ?_
  refine lv_lconst (v := 0) hx hb dX8_feed_2 (by decide) ?_
  refine lv_ldc2 (v := 255) hx hb E.hown (E.hts _ tb957) dX8_feed_3 ?_
  refine x_ci E.hA hh (x_runS E hh (mX8_in E.hI (fun _ _ h => absurd h (Nat.not_lt_zero _)) hw) kX8_in tb914 ⟨by decide, by decide⟩ rfl hl.1 rfl (Nat.le_of_ble_eq_true rfl) dX8_feed_6 ⟨Nat.zero_le _, Nat.zero_le _⟩) (fun r1 S1 H locs hw hh => ?_)
  have hq1 := hw.2
  have hw := hw.1
  refine lv_if_ne (tgt := 15) hx hb dX8_feed_9 (by decide) (fun c2 => ?_) (fun c2 => ?_)
  · have hw := ifF hw c2
    refine lv_aload_n hx hb dX8_feed_15 rfl (lv_at hl 0 rfl) ?_
    refine g_40_6 E hh tb740 (E.hn 40 0 (by decide)) dX8_feed_16 ?_
    refine lv_sipush (v := 160) hx hb dX8_feed_19 (by decide) ?_
    refine lv_icmp_ne (tgt := 28) hx hb dX8_feed_22 (by decide) (fun c3 => ?_) (fun c3 => ?_)
    · have hw := ifF hw c3
      refine lv_aload_n hx hb dX8_feed_28 rfl (lv_at hl 0 rfl) ?_
      refine g_40_5 E hh tb739 (E.hn 40 0 (by decide)) dX8_feed_29 ?_
      refine lv_aload_n hx hb dX8_feed_32 rfl (lv_at hl 0 rfl) ?_
      refine g_40_6 E hh tb740 (E.hn 40 0 (by decide)) dX8_feed_33 ?_
      refine lv_iload_n hx hb dX8_feed_36 rfl (lv_at hl 1 rfl) ?_
      obtain ⟨hi4, hw⟩ := hw
      refine x_iast E hh (E.hn 43 0 (by decide)) ly_43 hi4 dX8_feed_37 (fun S4 H locs e4 hh => ?_)
      have hw := hw S4 e4
      refine lv_aload_n hx hb dX8_feed_38 rfl (lv_at hl 0 rfl) ?_
      refine lv_dup hx hb dX8_feed_39 rfl ?_
      refine g_40_6 E hh tb740 (E.hn 40 0 (by decide)) dX8_feed_40 ?_
      refine lv_iconst (v := 1) hx hb dX8_feed_43 (by decide) ?_
      refine lv_iadd hx hb dX8_feed_44 ?_
      refine p_40_6 E hh tb740 (E.hn 40 0 (by decide)) dX8_feed_45 (fun S5 H locs e5 hh => ?_)
      have hw := hw S5 e5
      refine lv_aload_n hx hb dX8_feed_48 rfl (lv_at hl 0 rfl) ?_
      refine g_40_6 E hh tb740 (E.hn 40 0 (by decide)) dX8_feed_49 ?_
      exact x_iret E hh hw dX8_feed_52
    · have hw := ifT hw c3
      refine lv_bipush (v := (-4)) hx hb dX8_feed_25 (by decide) ?_
      exact x_iret E hh hw dX8_feed_27
  · have hw := ifT hw c2
    refine lv_bipush (v := (-2)) hx hb dX8_feed_12 (by decide) ?_
    exact x_iret E hh hw dX8_feed_14
theorem kX8_feed : kI yX8_feed cX8_feed 2 (some .int) 1 := ⟨tb954, tb955, tb15, tb956, by decide, by decide, by decide +kernel⟩
theorem mX8_feed {l : Launch} {D : va_G} {ad : Nat → Nat → Nat} {cs : Nat → ClassId} {P : Nat → Nat → Prop} {sz tU : Nat} {adK adV : Nat → Nat} {x1 : Int32} {S : St} {K : Int32 → St → Prop} (hI : wI ad P) (hn : ∀ kd i, i < cnM kd → P kd i) (hw : wpX8_feed x1 S K) : MI l yX8_feed cX8_feed 2 (some .int) 2 85 D ad cs P sz tU adK adV [.ref (ad 40 0), .int x1] S K :=
  Met_of (by decide) (Nat.le_of_ble_eq_true rfl) hI hn (fun p e R s m args below meth c ls E hl hh => bX8_feed E  hw hh (lv_sub hl [0, 1] rfl))
def wpX8_byteAt (x1 : Int32) (S : St) (K : Int32 → St → Prop) : Prop := if (S.1 40 0 24) ≤ x1 then (K (-1) S) else ((vp_in ((S.1 40 0 23) + x1) 960 ∧ K (S.1 41 0 ((S.1 40 0 23) + x1).toNatClampNeg) S))
set_option maxRecDepth 4000 in
theorem bX8_byteAt {p : Program} {l : Launch} {e : Env} {R : Room} {s : State} {m : MethodId} {args : Array Value} {below : List Frame} {meth : Method} {c : Code} {D : va_G} {ad : Nat → Nat → Nat} {cs : Nat → ClassId} {P : Nat → Nat → Prop} {sz tU : Nat} {adK adV : Nat → Nat} {K : Int32 → St → Prop} {x1 : Int32} {S : St} {H : Heap} {locs : List Loc} {ls : Array Slot} (E : Ex p s m args meth c R RX8 cX8_byteAt 2 (some .int) 1 60 D ad cs P (wA ad P) tU adK adV cnM) (hw : wpX8_byteAt x1 S K) (hh : wH D ad cs P (wA ad P) s.heap sz S H locs) (hl : lv_has ls 2 [(0, .ref (ad 40 0)), (1, .int x1)]) : W p l e R s m args below meth c H locs 0 0 (MQ below (va_Qi K (QX D ad cs P sz) (wA ad P)) args s 0 0 (wA ad P)) (F0 m 0 ls []) := by
  have hx := E.hx
  have hb := E.hb
  refine lv_iload_n hx hb dX8_byteAt_0 rfl (lv_at hl 1 rfl) ?_
  refine lv_aload_n hx hb dX8_byteAt_1 rfl (lv_at hl 0 rfl) ?_
  refine g_40_24 E hh tb758 (E.hn 40 0 (by decide)) dX8_byteAt_2 ?_
  refine lv_icmp_ge (tgt := 22) hx hb dX8_byteAt_5 (by decide) (fun c1 => ?_) (fun c1 => ?_)
  · have hw := ifT hw c1
    refine lv_iconst (v := (-1)) hx hb dX8_byteAt_22 (by decide) ?_
    exact x_iret E hh hw dX8_byteAt_23
  · have hw := ifF hw c1
    refine lv_aload_n hx hb dX8_byteAt_8 rfl (lv_at hl 0 rfl) ?_
    refine g_40_1 E hh tb735 (E.hn 40 0 (by decide)) dX8_byteAt_9 ?_
    refine lv_aload_n hx hb dX8_byteAt_12 rfl (lv_at hl 0 rfl) ?_
    refine g_40_23 E hh tb757 (E.hn 40 0 (by decide)) dX8_byteAt_13 ?_
    refine lv_iload_n hx hb dX8_byteAt_16 rfl (lv_at hl 1 rfl) ?_
    refine lv_iadd hx hb dX8_byteAt_17 ?_
    obtain ⟨hi2, hw⟩ := hw
    refine x_iald E hh (E.hn 41 0 (by decide)) ly_41 hi2 dX8_byteAt_18 ?_
    refine lv_goto (tgt := 23) hx hb dX8_byteAt_19 (by decide) ?_
    exact x_iret E hh hw dX8_byteAt_23
theorem kX8_byteAt : kI yX8_byteAt cX8_byteAt 2 (some .int) 1 := ⟨tb972, ts33, tb15, tb973, by decide, by decide, by decide +kernel⟩
theorem mX8_byteAt {l : Launch} {D : va_G} {ad : Nat → Nat → Nat} {cs : Nat → ClassId} {P : Nat → Nat → Prop} {sz tU : Nat} {adK adV : Nat → Nat} {x1 : Int32} {S : St} {K : Int32 → St → Prop} (hI : wI ad P) (hn : ∀ kd i, i < cnM kd → P kd i) (hw : wpX8_byteAt x1 S K) : MI l yX8_byteAt cX8_byteAt 2 (some .int) 1 60 D ad cs P sz tU adK adV [.ref (ad 40 0), .int x1] S K :=
  Met_of (by decide) (Nat.le_of_ble_eq_true rfl) hI hn (fun p e R s m args below meth c ls E hl hh => bX8_byteAt E  hw hh (lv_sub hl [0, 1] rfl))
def wbX8_next_300 (K : St → Prop) (x1 : Int32) (S : St) : Prop := (∀ S27, S27 = su S 40 0 26 3 → (∀ S28, S28 = sl S27 x1.toInt64 → (∀ S29, S29 = su S28 40 0 25 ((S28.1 40 0 25) + 1) → K S29)))
set_option maxRecDepth 4000 in
theorem bX8_next_300 {p : Program} {l : Launch} {e : Env} {R : Room} {s : State} {m : MethodId} {args : Array Value} {below : List Frame} {meth : Method} {c : Code} {D : va_G} {ad : Nat → Nat → Nat} {cs : Nat → ClassId} {P : Nat → Nat → Prop} {sz tU : Nat} {adK adV : Nat → Nat} {K : St → Prop} {x1 : Int32} {S : St} {H : Heap} {locs : List Loc} {ls : Array Slot} (E : Ex p s m args meth c R RX8 cX8_next 3 none 2 85 D ad cs P (wA ad P) tU adK adV cnM) (hw : wbX8_next_300 K x1 S) (hh : wH D ad cs P (wA ad P) s.heap sz S H locs) (hl : lv_has ls 3 [(0, .ref (ad 40 0)), (1, .int x1)]) : W p l e R s m args below meth c H locs 0 0 (MQ below (va_Qv K (QX D ad cs P sz) (wA ad P)) args s 0 0 (wA ad P)) (F0 m 300 ls []) := by
  have hx := E.hx
  have hb := E.hb
  refine lv_aload_n hx hb dX8_next_300 rfl (lv_at hl 0 rfl) ?_
  refine lv_iconst (v := 3) hx hb dX8_next_301 (by decide) ?_
  refine p_40_26 E hh tb760 (E.hn 40 0 (by decide)) dX8_next_302 (fun S27 H locs e27 hh => ?_)
  have hw := hw S27 e27
  refine lv_aload_n hx hb dX8_next_305 rfl (lv_at hl 0 rfl) ?_
  refine lv_iload_n hx hb dX8_next_306 rfl (lv_at hl 1 rfl) ?_
  refine lv_i2l hx hb dX8_next_307 rfl ?_
  refine p_40_28 E hh tb762 (E.hn 40 0 (by decide)) dX8_next_308 (fun S28 H locs e28 hh => ?_)
  have hw := hw S28 e28
  refine lv_aload_n hx hb dX8_next_311 rfl (lv_at hl 0 rfl) ?_
  refine lv_dup hx hb dX8_next_312 rfl ?_
  refine g_40_25 E hh tb759 (E.hn 40 0 (by decide)) dX8_next_313 ?_
  refine lv_iconst (v := 1) hx hb dX8_next_316 (by decide) ?_
  refine lv_iadd hx hb dX8_next_317 ?_
  refine p_40_25 E hh tb759 (E.hn 40 0 (by decide)) dX8_next_318 (fun S29 H locs e29 hh => ?_)
  have hw := hw S29 e29
  exact x_vret E hh hw dX8_next_321
def wbX8_next_246 (K : St → Prop) (v0 : Int32) (S : St) : Prop := (∀ S40, S40 = su S 40 0 26 v0 → K S40)
set_option maxRecDepth 4000 in
theorem bX8_next_246 {p : Program} {l : Launch} {e : Env} {R : Room} {s : State} {m : MethodId} {args : Array Value} {below : List Frame} {meth : Method} {c : Code} {D : va_G} {ad : Nat → Nat → Nat} {cs : Nat → ClassId} {P : Nat → Nat → Prop} {sz tU : Nat} {adK adV : Nat → Nat} {K : St → Prop} {v0 : Int32} {S : St} {H : Heap} {locs : List Loc} {ls : Array Slot} (E : Ex p s m args meth c R RX8 cX8_next 3 none 2 85 D ad cs P (wA ad P) tU adK adV cnM) (hw : wbX8_next_246 K v0 S) (hh : wH D ad cs P (wA ad P) s.heap sz S H locs) (hl : lv_has ls 3 []) : W p l e R s m args below meth c H locs 0 0 (MQ below (va_Qv K (QX D ad cs P sz) (wA ad P)) args s 0 0 (wA ad P)) (F0 m 246 ls [.int v0, .ref (ad 40 0)]) := by
  have hx := E.hx
  have hb := E.hb
  refine p_40_26 E hh tb760 (E.hn 40 0 (by decide)) dX8_next_246 (fun S40 H locs e40 hh => ?_)
  have hw := hw S40 e40
  refine lv_goto (tgt := 321) hx hb dX8_next_249 (by decide) ?_
  exact x_vret E hh hw dX8_next_321
def wbX8_next_216 (R160 : Int32 → St → Prop) (K : St → Prop) (x2 : Int32) (v0 : Int64) (S : St) : Prop := (∀ S41, S41 = sl S v0 → (∀ S42, S42 = su S41 40 0 25 ((S41.1 40 0 25) + 1) → R160 (x2 + 1) S42))
set_option maxRecDepth 4000 in
theorem bX8_next_216 {p : Program} {l : Launch} {e : Env} {R : Room} {s : State} {m : MethodId} {args : Array Value} {below : List Frame} {meth : Method} {c : Code} {D : va_G} {ad : Nat → Nat → Nat} {cs : Nat → ClassId} {P : Nat → Nat → Prop} {sz tU : Nat} {adK adV : Nat → Nat} {R160 : Int32 → St → Prop} {K : St → Prop} {x2 : Int32} {v0 : Int64} {S : St} {H : Heap} {locs : List Loc} {ls : Array Slot} (E : Ex p s m args meth c R RX8 cX8_next 3 none 2 85 D ad cs P (wA ad P) tU adK adV cnM) (hR160 : ∀ (z2 : Int32) (S : St) (H : Heap) (locs : List Loc) (ls : Array Slot), R160 z2 S → wH D ad cs P (wA ad P) s.heap sz S H locs → lv_has ls 3 [(0, .ref (ad 40 0)), (2, .int z2)] → W p l e R s m args below meth c H locs 0 0 (MQ below (va_Qv K (QX D ad cs P sz) (wA ad P)) args s 0 0 (wA ad P)) (F0 m 160 ls [])) (hw : wbX8_next_216 R160 K x2 v0 S) (hh : wH D ad cs P (wA ad P) s.heap sz S H locs) (hl : lv_has ls 3 [(0, .ref (ad 40 0)), (2, .int x2)]) : W p l e R s m args below meth c H locs 0 0 (MQ below (va_Qv K (QX D ad cs P sz) (wA ad P)) args s 0 0 (wA ad P)) (F0 m 216 ls [.long v0, .ref (ad 40 0)]) := by
  have hx := E.hx
  have hb := E.hb
  refine p_40_28 E hh tb762 (E.hn 40 0 (by decide)) dX8_next_216 (fun S41 H locs e41 hh => ?_)
  have hw := hw S41 e41
  refine lv_iinc (k := 1) (v := x2 + 1) (lv' := [(2, .int (x2 + 1)), (0, .ref (ad 40 0))]) hx hb dX8_next_219 hl rfl rfl (by decide) rfl (fun ls hl => ?_)
  refine lv_aload_n hx hb dX8_next_222 rfl (lv_at hl 1 rfl) ?_
  refine lv_dup hx hb dX8_next_223 rfl ?_
  refine g_40_25 E hh tb759 (E.hn 40 0 (by decide)) dX8_next_224 ?_
  refine lv_iconst (v := 1) hx hb dX8_next_227 (by decide) ?_
  refine lv_iadd hx hb dX8_next_228 ?_
  refine p_40_25 E hh tb759 (E.hn 40 0 (by decide)) dX8_next_229 (fun S42 H locs e42 hh => ?_)
  have hw := hw S42 e42
  refine lv_goto (tgt := 160) hx hb dX8_next_232 (by decide) ?_
  exact hR160 (x2 + 1) S42 _ _ _ hw hh (lv_sub hl [1, 0] rfl)
def wbX8_next_160 (K : St → Prop) : Nat → Int32 → St → Prop
  | 0, _, _ => False
  | n + 1, x2, S => wpX8_byteAt (S.1 40 0 25) S (fun r30 S30 => wpX8_in r30.toInt64 48 57 S30 (fun r31 S31 => if r31 = 0 then (if x2 ≤ 4 then (wbX8_next_246 K 2 S31) else (wbX8_next_246 K 4 S31)) else (if 4 ≤ x2 then (wbX8_next_216 (fun yx2 S9 => wbX8_next_160 K n yx2 S9) K x2 (sw S31 40 0) S31) else (wpX8_byteAt (S31.1 40 0 25) S31 (fun r35 S35 => wbX8_next_216 (fun yx2 S9 => wbX8_next_160 K n yx2 S9) K x2 (((10 * (sw S31 40 0)) + r35.toInt64) - 48) S35)))))
set_option maxRecDepth 4000 in
theorem bX8_next_160 {p : Program} {l : Launch} {e : Env} {R : Room} {s : State} {m : MethodId} {args : Array Value} {below : List Frame} {meth : Method} {c : Code} {D : va_G} {ad : Nat → Nat → Nat} {cs : Nat → ClassId} {P : Nat → Nat → Prop} {sz tU : Nat} {adK adV : Nat → Nat} {K : St → Prop} (E : Ex p s m args meth c R RX8 cX8_next 3 none 2 85 D ad cs P (wA ad P) tU adK adV cnM) : ∀ (n : Nat) (x2 : Int32) (S : St) (H : Heap) (locs : List Loc) (ls : Array Slot), wbX8_next_160 K n x2 S → wH D ad cs P (wA ad P) s.heap sz S H locs → lv_has ls 3 [(0, .ref (ad 40 0)), (2, .int x2)] → W p l e R s m args below meth c H locs 0 0 (MQ below (va_Qv K (QX D ad cs P sz) (wA ad P)) args s 0 0 (wA ad P)) (F0 m 160 ls []) := by
  have hx := E.hx
  have hb := E.hb
  intro n
  induction n with
  | zero => intro x2 S H locs ls hw hh hl; exact hw.elim
  | succ n ih =>
    intro x2 S H locs ls hw hh hl
    refine lv_aload_n hx hb dX8_next_160 rfl (lv_at hl 0 rfl) ?_
    refine lv_aload_n hx hb dX8_next_161 rfl (lv_at hl 0 rfl) ?_
    refine g_40_25 E hh tb759 (E.hn 40 0 (by decide)) dX8_next_162 ?_
    refine x_ci E.hA hh (x_runV E hh (mX8_byteAt E.hI E.hn hw) kX8_byteAt tb970 (E.hn 40 0 (by decide)) rv_40 ⟨by decide, by decide⟩ rfl hl.1 rfl (Nat.le_of_ble_eq_true rfl) dX8_next_165 ⟨Nat.zero_le _, Nat.zero_le _⟩) (fun r30 S30 H locs hw hh => ?_)
    refine lv_i2l hx hb dX8_next_168 rfl ?_
    refine lv_ldc2 (v := 48) hx hb E.hown (E.hts _ tb976) dX8_next_169 ?_
    refine lv_ldc2 (v := 57) hx hb E.hown (E.hts _ tb977) dX8_next_172 ?_
    refine x_ci E.hA hh (x_runS E hh (mX8_in E.hI (fun _ _ h => absurd h (Nat.not_lt_zero _)) hw) kX8_in tb914 ⟨by decide, by decide⟩ rfl hl.1 rfl (Nat.le_of_ble_eq_true rfl) dX8_next_175 ⟨Nat.zero_le _, Nat.zero_le _⟩) (fun r31 S31 H locs hw hh => ?_)
    have hq31 := hw.2
    have hw := hw.1
    refine lv_if_eq (tgt := 235) hx hb dX8_next_178 (by decide) (fun c32 => ?_) (fun c32 => ?_)
    · have hw := ifT hw c32
      refine lv_aload_n hx hb dX8_next_235 rfl (lv_at hl 0 rfl) ?_
      refine lv_iload_n hx hb dX8_next_236 rfl (lv_at hl 1 rfl) ?_
      refine lv_iconst (v := 4) hx hb dX8_next_237 (by decide) ?_
      refine lv_icmp_le (tgt := 245) hx hb dX8_next_238 (by decide) (fun c33 => ?_) (fun c33 => ?_)
      · have hw := ifT hw c33
        refine lv_iconst (v := 2) hx hb dX8_next_245 (by decide) ?_
        exact bX8_next_246 E hw hh (lv_sub hl [] rfl)
      · have hw := ifF hw c33
        refine lv_iconst (v := 4) hx hb dX8_next_241 (by decide) ?_
        refine lv_goto (tgt := 246) hx hb dX8_next_242 (by decide) ?_
        exact bX8_next_246 E hw hh (lv_sub hl [] rfl)
    · have hw := ifF hw c32
      refine lv_aload_n hx hb dX8_next_181 rfl (lv_at hl 0 rfl) ?_
      refine lv_iload_n hx hb dX8_next_182 rfl (lv_at hl 1 rfl) ?_
      refine lv_iconst (v := 4) hx hb dX8_next_183 (by decide) ?_
      refine lv_icmp_ge (tgt := 212) hx hb dX8_next_184 (by decide) (fun c34 => ?_) (fun c34 => ?_)
      · have hw := ifT hw c34
        refine lv_aload_n hx hb dX8_next_212 rfl (lv_at hl 0 rfl) ?_
        refine g_40_28 E hh tb762 (E.hn 40 0 (by decide)) dX8_next_213 ?_
        exact bX8_next_216 E ih hw hh (lv_sub hl [0, 1] rfl)
      · have hw := ifF hw c34
        refine lv_ldc2 (v := 10) hx hb E.hown (E.hts _ tb978) dX8_next_187 ?_
        refine lv_aload_n hx hb dX8_next_190 rfl (lv_at hl 0 rfl) ?_
        refine g_40_28 E hh tb762 (E.hn 40 0 (by decide)) dX8_next_191 ?_
        refine lv_lmul hx hb dX8_next_194 ?_
        refine lv_aload_n hx hb dX8_next_195 rfl (lv_at hl 0 rfl) ?_
        refine lv_aload_n hx hb dX8_next_196 rfl (lv_at hl 0 rfl) ?_
        refine g_40_25 E hh tb759 (E.hn 40 0 (by decide)) dX8_next_197 ?_
        refine x_ci E.hA hh (x_runV E hh (mX8_byteAt E.hI E.hn hw) kX8_byteAt tb970 (E.hn 40 0 (by decide)) rv_40 ⟨by decide, by decide⟩ rfl hl.1 rfl (Nat.le_of_ble_eq_true rfl) dX8_next_200 ⟨Nat.zero_le _, Nat.zero_le _⟩) (fun r35 S35 H locs hw hh => ?_)
        refine lv_i2l hx hb dX8_next_203 rfl ?_
        refine lv_ladd hx hb dX8_next_204 ?_
        refine lv_ldc2 (v := 48) hx hb E.hown (E.hts _ tb976) dX8_next_205 ?_
        refine lv_lsub hx hb dX8_next_208 ?_
        refine lv_goto (tgt := 216) hx hb dX8_next_209 (by decide) ?_
        exact bX8_next_216 E ih hw hh (lv_sub hl [0, 1] rfl)
def wbX8_next_100 (K : St → Prop) : Nat → St → Prop
  | 0, _ => False
  | n + 1, S => wpX8_byteAt (S.1 40 0 25) S (fun r36 S36 => wpX8_in r36.toInt64 97 122 S36 (fun r37 S37 => if r37 = 0 then (K S37) else ((∀ S39, S39 = su S37 40 0 25 ((S37.1 40 0 25) + 1) → wbX8_next_100 K n S39))))
set_option maxRecDepth 4000 in
theorem bX8_next_100 {p : Program} {l : Launch} {e : Env} {R : Room} {s : State} {m : MethodId} {args : Array Value} {below : List Frame} {meth : Method} {c : Code} {D : va_G} {ad : Nat → Nat → Nat} {cs : Nat → ClassId} {P : Nat → Nat → Prop} {sz tU : Nat} {adK adV : Nat → Nat} {K : St → Prop} (E : Ex p s m args meth c R RX8 cX8_next 3 none 2 85 D ad cs P (wA ad P) tU adK adV cnM) : ∀ (n : Nat) (S : St) (H : Heap) (locs : List Loc) (ls : Array Slot), wbX8_next_100 K n S → wH D ad cs P (wA ad P) s.heap sz S H locs → lv_has ls 3 [(0, .ref (ad 40 0))] → W p l e R s m args below meth c H locs 0 0 (MQ below (va_Qv K (QX D ad cs P sz) (wA ad P)) args s 0 0 (wA ad P)) (F0 m 100 ls []) := by
  have hx := E.hx
  have hb := E.hb
  intro n
  induction n with
  | zero => intro S H locs ls hw hh hl; exact hw.elim
  | succ n ih =>
    intro S H locs ls hw hh hl
    refine lv_aload_n hx hb dX8_next_100 rfl (lv_at hl 0 rfl) ?_
    refine lv_aload_n hx hb dX8_next_101 rfl (lv_at hl 0 rfl) ?_
    refine g_40_25 E hh tb759 (E.hn 40 0 (by decide)) dX8_next_102 ?_
    refine x_ci E.hA hh (x_runV E hh (mX8_byteAt E.hI E.hn hw) kX8_byteAt tb970 (E.hn 40 0 (by decide)) rv_40 ⟨by decide, by decide⟩ rfl hl.1 rfl (Nat.le_of_ble_eq_true rfl) dX8_next_105 ⟨Nat.zero_le _, Nat.zero_le _⟩) (fun r36 S36 H locs hw hh => ?_)
    refine lv_i2l hx hb dX8_next_108 rfl ?_
    refine lv_ldc2 (v := 97) hx hb E.hown (E.hts _ tb974) dX8_next_109 ?_
    refine lv_ldc2 (v := 122) hx hb E.hown (E.hts _ tb975) dX8_next_112 ?_
    refine x_ci E.hA hh (x_runS E hh (mX8_in E.hI (fun _ _ h => absurd h (Nat.not_lt_zero _)) hw) kX8_in tb914 ⟨by decide, by decide⟩ rfl hl.1 rfl (Nat.le_of_ble_eq_true rfl) dX8_next_115 ⟨Nat.zero_le _, Nat.zero_le _⟩) (fun r37 S37 H locs hw hh => ?_)
    have hq37 := hw.2
    have hw := hw.1
    refine lv_if_eq (tgt := 321) hx hb dX8_next_118 (by decide) (fun c38 => ?_) (fun c38 => ?_)
    · have hw := ifT hw c38
      exact x_vret E hh hw dX8_next_321
    · have hw := ifF hw c38
      refine lv_aload_n hx hb dX8_next_121 rfl (lv_at hl 0 rfl) ?_
      refine lv_dup hx hb dX8_next_122 rfl ?_
      refine g_40_25 E hh tb759 (E.hn 40 0 (by decide)) dX8_next_123 ?_
      refine lv_iconst (v := 1) hx hb dX8_next_126 (by decide) ?_
      refine lv_iadd hx hb dX8_next_127 ?_
      refine p_40_25 E hh tb759 (E.hn 40 0 (by decide)) dX8_next_128 (fun S39 H locs e39 hh => ?_)
      have hw := hw S39 e39
      refine lv_goto (tgt := 100) hx hb dX8_next_131 (by decide) ?_
      exact ih  S39 _ _ _ hw hh (lv_sub hl [0] rfl)
def wbX8_next_26 (R0 : St → Prop) (K : St → Prop) (S : St) : Prop := (∀ S26, S26 = su S 40 0 25 ((S.1 40 0 25) + 1) → R0 S26)
set_option maxRecDepth 4000 in
theorem bX8_next_26 {p : Program} {l : Launch} {e : Env} {R : Room} {s : State} {m : MethodId} {args : Array Value} {below : List Frame} {meth : Method} {c : Code} {D : va_G} {ad : Nat → Nat → Nat} {cs : Nat → ClassId} {P : Nat → Nat → Prop} {sz tU : Nat} {adK adV : Nat → Nat} {R0 : St → Prop} {K : St → Prop} {S : St} {H : Heap} {locs : List Loc} {ls : Array Slot} (E : Ex p s m args meth c R RX8 cX8_next 3 none 2 85 D ad cs P (wA ad P) tU adK adV cnM) (hR0 : ∀ (S : St) (H : Heap) (locs : List Loc) (ls : Array Slot), R0 S → wH D ad cs P (wA ad P) s.heap sz S H locs → lv_has ls 3 [(0, .ref (ad 40 0))] → W p l e R s m args below meth c H locs 0 0 (MQ below (va_Qv K (QX D ad cs P sz) (wA ad P)) args s 0 0 (wA ad P)) (F0 m 0 ls [])) (hw : wbX8_next_26 R0 K S) (hh : wH D ad cs P (wA ad P) s.heap sz S H locs) (hl : lv_has ls 3 [(0, .ref (ad 40 0))]) : W p l e R s m args below meth c H locs 0 0 (MQ below (va_Qv K (QX D ad cs P sz) (wA ad P)) args s 0 0 (wA ad P)) (F0 m 26 ls []) := by
  have hx := E.hx
  have hb := E.hb
  refine lv_aload_n hx hb dX8_next_26 rfl (lv_at hl 0 rfl) ?_
  refine lv_dup hx hb dX8_next_27 rfl ?_
  refine g_40_25 E hh tb759 (E.hn 40 0 (by decide)) dX8_next_28 ?_
  refine lv_iconst (v := 1) hx hb dX8_next_31 (by decide) ?_
  refine lv_iadd hx hb dX8_next_32 ?_
  refine p_40_25 E hh tb759 (E.hn 40 0 (by decide)) dX8_next_33 (fun S26 H locs e26 hh => ?_)
  have hw := hw S26 e26
  refine lv_goto (tgt := 0) hx hb dX8_next_36 (by decide) ?_
  exact hR0  S26 _ _ _ hw hh (lv_sub hl [0] rfl)
def wbX8_next_0 (K : St → Prop) : Nat → St → Prop
  | 0, _ => False
  | n + 1, S => wpX8_byteAt (S.1 40 0 25) S (fun r1 S1 => if r1 = 32 then (wbX8_next_26 (fun S9 => wbX8_next_0 K n S9) K S1) else (wpX8_byteAt (S1.1 40 0 25) S1 (fun r3 S3 => if r3 = 10 then (wbX8_next_26 (fun S9 => wbX8_next_0 K n S9) K S3) else ((∀ S5, S5 = su S3 40 0 27 (S3.1 40 0 25) → wpX8_byteAt (S5.1 40 0 25) S5 (fun r6 S6 => (∀ S7, S7 = su S6 40 0 26 4 → if 0 ≤ r6 then (wpX8_in r6.toInt64 97 122 S7 (fun r9 S9 => if r9 = 0 then (wpX8_in r6.toInt64 48 57 S9 (fun r11 S11 => if r11 = 0 then (if r6 = 40 then (wbX8_next_300 K r6 S11) else (if r6 = 41 then (wbX8_next_300 K r6 S11) else (if r6 = 59 then (wbX8_next_300 K r6 S11) else (if r6 = 43 then (wbX8_next_300 K r6 S11) else (if r6 = 45 then (wbX8_next_300 K r6 S11) else (if r6 = 42 then (wbX8_next_300 K r6 S11) else (if r6 = 60 then (wbX8_next_300 K r6 S11) else (if r6 = 61 then (wbX8_next_300 K r6 S11) else (K S11))))))))) else ((∀ S21, S21 = su S11 40 0 26 2 → (∀ S22, S22 = sl S21 0 → ∃ k, wbX8_next_160 K k 0 S22))))) else ((∀ S23, S23 = su S9 40 0 26 1 → ∃ k, wbX8_next_100 K k S23)))) else ((∀ S24, S24 = su S7 40 0 26 0 → (∀ S25, S25 = su S24 40 0 27 (S24.1 40 0 24) → K S25))))))))))
set_option maxRecDepth 4000 in
theorem bX8_next_0 {p : Program} {l : Launch} {e : Env} {R : Room} {s : State} {m : MethodId} {args : Array Value} {below : List Frame} {meth : Method} {c : Code} {D : va_G} {ad : Nat → Nat → Nat} {cs : Nat → ClassId} {P : Nat → Nat → Prop} {sz tU : Nat} {adK adV : Nat → Nat} {K : St → Prop} (E : Ex p s m args meth c R RX8 cX8_next 3 none 2 85 D ad cs P (wA ad P) tU adK adV cnM) : ∀ (n : Nat) (S : St) (H : Heap) (locs : List Loc) (ls : Array Slot), wbX8_next_0 K n S → wH D ad cs P (wA ad P) s.heap sz S H locs → lv_has ls 3 [(0, .ref (ad 40 0))] → W p l e R s m args below meth c H locs 0 0 (MQ below (va_Qv K (QX D ad cs P sz) (wA ad P)) args s 0 0 (wA ad P)) (F0 m 0 ls []) := by
  have hx := E.hx
  have hb := E.hb
  intro n
  induction n with
  | zero => intro S H locs ls hw hh hl; exact hw.elim
  | succ n ih =>
    intro S H locs ls hw hh hl
    refine lv_aload_n hx hb dX8_next_0 rfl (lv_at hl 0 rfl) ?_
    refine lv_aload_n hx hb dX8_next_1 rfl (lv_at hl 0 rfl) ?_
    refine g_40_25 E hh tb759 (E.hn 40 0 (by decide)) dX8_next_2 ?_
    refine x_ci E.hA hh (x_runV E hh (mX8_byteAt E.hI E.hn hw) kX8_byteAt tb970 (E.hn 40 0 (by decide)) rv_40 ⟨by decide, by decide⟩ rfl hl.1 rfl (Nat.le_of_ble_eq_true rfl) dX8_next_5 ⟨Nat.zero_le _, Nat.zero_le _⟩) (fun r1 S1 H locs hw hh => ?_)
    refine lv_bipush (v := 32) hx hb dX8_next_8 (by decide) ?_
    refine lv_icmp_eq (tgt := 26) hx hb dX8_next_10 (by decide) (fun c2 => ?_) (fun c2 => ?_)
    · have hw := ifT hw c2
      exact bX8_next_26 E ih hw hh (lv_sub hl [0] rfl)
    · have hw := ifF hw c2
      refine lv_aload_n hx hb dX8_next_13 rfl (lv_at hl 0 rfl) ?_
      refine lv_aload_n hx hb dX8_next_14 rfl (lv_at hl 0 rfl) ?_
      refine g_40_25 E hh tb759 (E.hn 40 0 (by decide)) dX8_next_15 ?_
      refine x_ci E.hA hh (x_runV E hh (mX8_byteAt E.hI E.hn hw) kX8_byteAt tb970 (E.hn 40 0 (by decide)) rv_40 ⟨by decide, by decide⟩ rfl hl.1 rfl (Nat.le_of_ble_eq_true rfl) dX8_next_18 ⟨Nat.zero_le _, Nat.zero_le _⟩) (fun r3 S3 H locs hw hh => ?_)
      refine lv_bipush (v := 10) hx hb dX8_next_21 (by decide) ?_
      refine lv_icmp_ne (tgt := 39) hx hb dX8_next_23 (by decide) (fun c4 => ?_) (fun c4 => ?_)
      · have hw := ifF hw c4
        refine lv_aload_n hx hb dX8_next_39 rfl (lv_at hl 0 rfl) ?_
        refine lv_aload_n hx hb dX8_next_40 rfl (lv_at hl 0 rfl) ?_
        refine g_40_25 E hh tb759 (E.hn 40 0 (by decide)) dX8_next_41 ?_
        refine p_40_27 E hh tb761 (E.hn 40 0 (by decide)) dX8_next_44 (fun S5 H locs e5 hh => ?_)
        have hw := hw S5 e5
        refine lv_aload_n hx hb dX8_next_47 rfl (lv_at hl 0 rfl) ?_
        refine lv_aload_n hx hb dX8_next_48 rfl (lv_at hl 0 rfl) ?_
        refine g_40_25 E hh tb759 (E.hn 40 0 (by decide)) dX8_next_49 ?_
        refine x_ci E.hA hh (x_runV E hh (mX8_byteAt E.hI E.hn hw) kX8_byteAt tb970 (E.hn 40 0 (by decide)) rv_40 ⟨by decide, by decide⟩ rfl hl.1 rfl (Nat.le_of_ble_eq_true rfl) dX8_next_52 ⟨Nat.zero_le _, Nat.zero_le _⟩) (fun r6 S6 H locs hw hh => ?_)
        refine lv_istore_n (lv' := [(1, .int r6), (0, .ref (ad 40 0))]) hx hb dX8_next_55 rfl hl (by decide) rfl (fun ls hl => ?_)
        refine lv_aload_n hx hb dX8_next_56 rfl (lv_at hl 1 rfl) ?_
        refine lv_iconst (v := 4) hx hb dX8_next_57 (by decide) ?_
        refine p_40_26 E hh tb760 (E.hn 40 0 (by decide)) dX8_next_58 (fun S7 H locs e7 hh => ?_)
        have hw := hw S7 e7
        refine lv_iload_n hx hb dX8_next_61 rfl (lv_at hl 0 rfl) ?_
        refine lv_if_ge (tgt := 81) hx hb dX8_next_62 (by decide) (fun c8 => ?_) (fun c8 => ?_)
        · have hw := ifT hw c8
          refine lv_iload_n hx hb dX8_next_81 rfl (lv_at hl 0 rfl) ?_
          refine lv_i2l hx hb dX8_next_82 rfl ?_
          refine lv_ldc2 (v := 97) hx hb E.hown (E.hts _ tb974) dX8_next_83 ?_
          refine lv_ldc2 (v := 122) hx hb E.hown (E.hts _ tb975) dX8_next_86 ?_
          refine x_ci E.hA hh (x_runS E hh (mX8_in E.hI (fun _ _ h => absurd h (Nat.not_lt_zero _)) hw) kX8_in tb914 ⟨by decide, by decide⟩ rfl hl.1 rfl (Nat.le_of_ble_eq_true rfl) dX8_next_89 ⟨Nat.zero_le _, Nat.zero_le _⟩) (fun r9 S9 H locs hw hh => ?_)
          have hq9 := hw.2
          have hw := hw.1
          refine lv_if_eq (tgt := 134) hx hb dX8_next_92 (by decide) (fun c10 => ?_) (fun c10 => ?_)
          · have hw := ifT hw c10
            refine lv_iload_n hx hb dX8_next_134 rfl (lv_at hl 0 rfl) ?_
            refine lv_i2l hx hb dX8_next_135 rfl ?_
            refine lv_ldc2 (v := 48) hx hb E.hown (E.hts _ tb976) dX8_next_136 ?_
            refine lv_ldc2 (v := 57) hx hb E.hown (E.hts _ tb977) dX8_next_139 ?_
            refine x_ci E.hA hh (x_runS E hh (mX8_in E.hI (fun _ _ h => absurd h (Nat.not_lt_zero _)) hw) kX8_in tb914 ⟨by decide, by decide⟩ rfl hl.1 rfl (Nat.le_of_ble_eq_true rfl) dX8_next_142 ⟨Nat.zero_le _, Nat.zero_le _⟩) (fun r11 S11 H locs hw hh => ?_)
            have hq11 := hw.2
            have hw := hw.1
            refine lv_if_eq (tgt := 252) hx hb dX8_next_145 (by decide) (fun c12 => ?_) (fun c12 => ?_)
            · have hw := ifT hw c12
              refine lv_iload_n hx hb dX8_next_252 rfl (lv_at hl 0 rfl) ?_
              refine lv_bipush (v := 40) hx hb dX8_next_253 (by decide) ?_
              refine lv_icmp_eq (tgt := 300) hx hb dX8_next_255 (by decide) (fun c13 => ?_) (fun c13 => ?_)
              · have hw := ifT hw c13
                exact bX8_next_300 E hw hh (lv_sub hl [1, 0] rfl)
              · have hw := ifF hw c13
                refine lv_iload_n hx hb dX8_next_258 rfl (lv_at hl 0 rfl) ?_
                refine lv_bipush (v := 41) hx hb dX8_next_259 (by decide) ?_
                refine lv_icmp_eq (tgt := 300) hx hb dX8_next_261 (by decide) (fun c14 => ?_) (fun c14 => ?_)
                · have hw := ifT hw c14
                  exact bX8_next_300 E hw hh (lv_sub hl [1, 0] rfl)
                · have hw := ifF hw c14
                  refine lv_iload_n hx hb dX8_next_264 rfl (lv_at hl 0 rfl) ?_
                  refine lv_bipush (v := 59) hx hb dX8_next_265 (by decide) ?_
                  refine lv_icmp_eq (tgt := 300) hx hb dX8_next_267 (by decide) (fun c15 => ?_) (fun c15 => ?_)
                  · have hw := ifT hw c15
                    exact bX8_next_300 E hw hh (lv_sub hl [1, 0] rfl)
                  · have hw := ifF hw c15
                    refine lv_iload_n hx hb dX8_next_270 rfl (lv_at hl 0 rfl) ?_
                    refine lv_bipush (v := 43) hx hb dX8_next_271 (by decide) ?_
                    refine lv_icmp_eq (tgt := 300) hx hb dX8_next_273 (by decide) (fun c16 => ?_) (fun c16 => ?_)
                    · have hw := ifT hw c16
                      exact bX8_next_300 E hw hh (lv_sub hl [1, 0] rfl)
                    · have hw := ifF hw c16
                      refine lv_iload_n hx hb dX8_next_276 rfl (lv_at hl 0 rfl) ?_
                      refine lv_bipush (v := 45) hx hb dX8_next_277 (by decide) ?_
                      refine lv_icmp_eq (tgt := 300) hx hb dX8_next_279 (by decide) (fun c17 => ?_) (fun c17 => ?_)
                      · have hw := ifT hw c17
                        exact bX8_next_300 E hw hh (lv_sub hl [1, 0] rfl)
                      · have hw := ifF hw c17
                        refine lv_iload_n hx hb dX8_next_282 rfl (lv_at hl 0 rfl) ?_
                        refine lv_bipush (v := 42) hx hb dX8_next_283 (by decide) ?_
                        refine lv_icmp_eq (tgt := 300) hx hb dX8_next_285 (by decide) (fun c18 => ?_) (fun c18 => ?_)
                        · have hw := ifT hw c18
                          exact bX8_next_300 E hw hh (lv_sub hl [1, 0] rfl)
                        · have hw := ifF hw c18
                          refine lv_iload_n hx hb dX8_next_288 rfl (lv_at hl 0 rfl) ?_
                          refine lv_bipush (v := 60) hx hb dX8_next_289 (by decide) ?_
                          refine lv_icmp_eq (tgt := 300) hx hb dX8_next_291 (by decide) (fun c19 => ?_) (fun c19 => ?_)
                          · have hw := ifT hw c19
                            exact bX8_next_300 E hw hh (lv_sub hl [1, 0] rfl)
                          · have hw := ifF hw c19
                            refine lv_iload_n hx hb dX8_next_294 rfl (lv_at hl 0 rfl) ?_
                            refine lv_bipush (v := 61) hx hb dX8_next_295 (by decide) ?_
                            refine lv_icmp_ne (tgt := 321) hx hb dX8_next_297 (by decide) (fun c20 => ?_) (fun c20 => ?_)
                            · have hw := ifF hw c20
                              exact x_vret E hh hw dX8_next_321
                            · have hw := ifT hw c20
                              exact bX8_next_300 E hw hh (lv_sub hl [1, 0] rfl)
            · have hw := ifF hw c12
              refine lv_aload_n hx hb dX8_next_148 rfl (lv_at hl 1 rfl) ?_
              refine lv_iconst (v := 2) hx hb dX8_next_149 (by decide) ?_
              refine p_40_26 E hh tb760 (E.hn 40 0 (by decide)) dX8_next_150 (fun S21 H locs e21 hh => ?_)
              have hw := hw S21 e21
              refine lv_aload_n hx hb dX8_next_153 rfl (lv_at hl 1 rfl) ?_
              refine lv_lconst (v := 0) hx hb dX8_next_154 (by decide) ?_
              refine p_40_28 E hh tb762 (E.hn 40 0 (by decide)) dX8_next_155 (fun S22 H locs e22 hh => ?_)
              have hw := hw S22 e22
              refine lv_iconst (v := 0) hx hb dX8_next_158 (by decide) ?_
              refine lv_istore_n (lv' := [(2, .int 0), (1, .int r6), (0, .ref (ad 40 0))]) hx hb dX8_next_159 rfl hl (by decide) rfl (fun ls hl => ?_)
              obtain ⟨k, hw⟩ := hw
              exact bX8_next_160 E k 0 S22 _ _ _ hw hh (lv_sub hl [2, 0] rfl)
          · have hw := ifF hw c10
            refine lv_aload_n hx hb dX8_next_95 rfl (lv_at hl 1 rfl) ?_
            refine lv_iconst (v := 1) hx hb dX8_next_96 (by decide) ?_
            refine p_40_26 E hh tb760 (E.hn 40 0 (by decide)) dX8_next_97 (fun S23 H locs e23 hh => ?_)
            have hw := hw S23 e23
            obtain ⟨k, hw⟩ := hw
            exact bX8_next_100 E k S23 _ _ _ hw hh (lv_sub hl [1] rfl)
        · have hw := ifF hw c8
          refine lv_aload_n hx hb dX8_next_65 rfl (lv_at hl 1 rfl) ?_
          refine lv_iconst (v := 0) hx hb dX8_next_66 (by decide) ?_
          refine p_40_26 E hh tb760 (E.hn 40 0 (by decide)) dX8_next_67 (fun S24 H locs e24 hh => ?_)
          have hw := hw S24 e24
          refine lv_aload_n hx hb dX8_next_70 rfl (lv_at hl 1 rfl) ?_
          refine lv_aload_n hx hb dX8_next_71 rfl (lv_at hl 1 rfl) ?_
          refine g_40_24 E hh tb758 (E.hn 40 0 (by decide)) dX8_next_72 ?_
          refine p_40_27 E hh tb761 (E.hn 40 0 (by decide)) dX8_next_75 (fun S25 H locs e25 hh => ?_)
          have hw := hw S25 e25
          refine lv_goto (tgt := 321) hx hb dX8_next_78 (by decide) ?_
          exact x_vret E hh hw dX8_next_321
      · have hw := ifT hw c4
        exact bX8_next_26 E ih hw hh (lv_sub hl [0] rfl)
def wpX8_next (S : St) (K : St → Prop) : Prop := ∃ k, wbX8_next_0 K k S
set_option maxRecDepth 4000 in
theorem bX8_next {p : Program} {l : Launch} {e : Env} {R : Room} {s : State} {m : MethodId} {args : Array Value} {below : List Frame} {meth : Method} {c : Code} {D : va_G} {ad : Nat → Nat → Nat} {cs : Nat → ClassId} {P : Nat → Nat → Prop} {sz tU : Nat} {adK adV : Nat → Nat} {K : St → Prop} {S : St} {H : Heap} {locs : List Loc} {ls : Array Slot} (E : Ex p s m args meth c R RX8 cX8_next 3 none 2 85 D ad cs P (wA ad P) tU adK adV cnM) (hw : wpX8_next S K) (hh : wH D ad cs P (wA ad P) s.heap sz S H locs) (hl : lv_has ls 3 [(0, .ref (ad 40 0))]) : W p l e R s m args below meth c H locs 0 0 (MQ below (va_Qv K (QX D ad cs P sz) (wA ad P)) args s 0 0 (wA ad P)) (F0 m 0 ls []) := by
  have hx := E.hx
  have hb := E.hb
  obtain ⟨k, hw⟩ := hw
  exact bX8_next_0 E k S _ _ _ hw hh (lv_sub hl [0] rfl)
theorem kX8_next : kI yX8_next cX8_next 3 none 0 := ⟨tb968, ts32, tb15, tb969, by decide, by decide, by decide +kernel⟩
theorem mX8_next {l : Launch} {D : va_G} {ad : Nat → Nat → Nat} {cs : Nat → ClassId} {P : Nat → Nat → Prop} {sz tU : Nat} {adK adV : Nat → Nat} {S : St} {K : St → Prop} (hI : wI ad P) (hn : ∀ kd i, i < cnM kd → P kd i) (hw : wpX8_next S K) : MV l yX8_next cX8_next 3 none 2 85 D ad cs P sz tU adK adV [.ref (ad 40 0)] S K :=
  Met_of (by decide) (Nat.le_of_ble_eq_true rfl) hI hn (fun p e R s m args below meth c ls E hl hh => bX8_next E  hw hh (lv_sub hl [0] rfl))
def wpX8_fail (S : St) (K : St → Prop) : Prop := if (S.1 40 0 30) = 0 then ((∀ S2, S2 = su S 40 0 30 1 → (∀ S3, S3 = su S2 40 0 31 (S2.1 40 0 27) → K S3))) else (K S)
set_option maxRecDepth 4000 in
theorem bX8_fail {p : Program} {l : Launch} {e : Env} {R : Room} {s : State} {m : MethodId} {args : Array Value} {below : List Frame} {meth : Method} {c : Code} {D : va_G} {ad : Nat → Nat → Nat} {cs : Nat → ClassId} {P : Nat → Nat → Prop} {sz tU : Nat} {adK adV : Nat → Nat} {K : St → Prop} {S : St} {H : Heap} {locs : List Loc} {ls : Array Slot} (E : Ex p s m args meth c R RX8 cX8_fail 1 none 1 60 D ad cs P (wA ad P) tU adK adV cnM) (hw : wpX8_fail S K) (hh : wH D ad cs P (wA ad P) s.heap sz S H locs) (hl : lv_has ls 1 [(0, .ref (ad 40 0))]) : W p l e R s m args below meth c H locs 0 0 (MQ below (va_Qv K (QX D ad cs P sz) (wA ad P)) args s 0 0 (wA ad P)) (F0 m 0 ls []) := by
  have hx := E.hx
  have hb := E.hb
  refine lv_aload_n hx hb dX8_fail_0 rfl (lv_at hl 0 rfl) ?_
  refine g_40_30 E hh tb764 (E.hn 40 0 (by decide)) dX8_fail_1 ?_
  refine lv_if_ne (tgt := 20) hx hb dX8_fail_4 (by decide) (fun c1 => ?_) (fun c1 => ?_)
  · have hw := ifF hw c1
    exact x_vret E hh hw dX8_fail_20
  · have hw := ifT hw c1
    refine lv_aload_n hx hb dX8_fail_7 rfl (lv_at hl 0 rfl) ?_
    refine lv_iconst (v := 1) hx hb dX8_fail_8 (by decide) ?_
    refine p_40_30 E hh tb764 (E.hn 40 0 (by decide)) rfl rfl dX8_fail_9 (fun S2 H locs e2 hh => ?_)
    have hw := hw S2 e2
    refine lv_aload_n hx hb dX8_fail_12 rfl (lv_at hl 0 rfl) ?_
    refine lv_aload_n hx hb dX8_fail_13 rfl (lv_at hl 0 rfl) ?_
    refine g_40_27 E hh tb761 (E.hn 40 0 (by decide)) dX8_fail_14 ?_
    refine p_40_31 E hh tb765 (E.hn 40 0 (by decide)) dX8_fail_17 (fun S3 H locs e3 hh => ?_)
    have hw := hw S3 e3
    exact x_vret E hh hw dX8_fail_20
theorem kX8_fail : kI yX8_fail cX8_fail 1 none 0 := ⟨tb993, ts37, tb15, tb994, by decide, by decide, by decide +kernel⟩
theorem mX8_fail {l : Launch} {D : va_G} {ad : Nat → Nat → Nat} {cs : Nat → ClassId} {P : Nat → Nat → Prop} {sz tU : Nat} {adK adV : Nat → Nat} {S : St} {K : St → Prop} (hI : wI ad P) (hn : ∀ kd i, i < cnM kd → P kd i) (hw : wpX8_fail S K) : MV l yX8_fail cX8_fail 1 none 1 60 D ad cs P sz tU adK adV [.ref (ad 40 0)] S K :=
  Met_of (by decide) (Nat.le_of_ble_eq_true rfl) hI hn (fun p e R s m args below meth c ls E hl hh => bX8_fail E  hw hh (lv_sub hl [0] rfl))
def wpX8_isLetter (x1 : Int32) (x2 : Int32) (S : St) (K : Int32 → St → Prop) : Prop := if (S.1 40 0 25) ≤ ((S.1 40 0 27) + x1) then (if x2 = 0 then (K 1 S) else (K 0 S)) else (wpX8_byteAt ((S.1 40 0 27) + x1) S (fun r3 S3 => if r3 = x2 then (K 1 S3) else (K 0 S3)))
set_option maxRecDepth 4000 in
theorem bX8_isLetter {p : Program} {l : Launch} {e : Env} {R : Room} {s : State} {m : MethodId} {args : Array Value} {below : List Frame} {meth : Method} {c : Code} {D : va_G} {ad : Nat → Nat → Nat} {cs : Nat → ClassId} {P : Nat → Nat → Prop} {sz tU : Nat} {adK adV : Nat → Nat} {K : Int32 → St → Prop} {x1 : Int32} {x2 : Int32} {S : St} {H : Heap} {locs : List Loc} {ls : Array Slot} (E : Ex p s m args meth c R RX8 cX8_isLetter 3 (some .boolean) 2 81 D ad cs P (wA ad P) tU adK adV cnM) (hw : wpX8_isLetter x1 x2 S K) (hh : wH D ad cs P (wA ad P) s.heap sz S H locs) (hl : lv_has ls 3 [(0, .ref (ad 40 0)), (1, .int x1), (2, .int x2)]) : W p l e R s m args below meth c H locs 0 0 (MQ below (va_Qi (fun r S => K r S ∧ narrow .boolean (.int r) = .int r) (QX D ad cs P sz) (wA ad P)) args s 0 0 (wA ad P)) (F0 m 0 ls []) := by
  have hx := E.hx
  have hb := E.hb
  refine lv_aload_n hx hb dX8_isLetter_0 rfl (lv_at hl 0 rfl) ?_
  refine g_40_27 E hh tb761 (E.hn 40 0 (by decide)) dX8_isLetter_1 ?_
  refine lv_iload_n hx hb dX8_isLetter_4 rfl (lv_at hl 1 rfl) ?_
  refine lv_iadd hx hb dX8_isLetter_5 ?_
  refine lv_aload_n hx hb dX8_isLetter_6 rfl (lv_at hl 0 rfl) ?_
  refine g_40_25 E hh tb759 (E.hn 40 0 (by decide)) dX8_isLetter_7 ?_
  refine lv_icmp_ge (tgt := 35) hx hb dX8_isLetter_10 (by decide) (fun c1 => ?_) (fun c1 => ?_)
  · have hw := ifT hw c1
    refine lv_iload_n hx hb dX8_isLetter_35 rfl (lv_at hl 2 rfl) ?_
    refine lv_if_ne (tgt := 43) hx hb dX8_isLetter_36 (by decide) (fun c2 => ?_) (fun c2 => ?_)
    · have hw := ifF hw c2
      refine lv_iconst (v := 0) hx hb dX8_isLetter_43 (by decide) ?_
      exact x_zret E hh hw rfl dX8_isLetter_44
    · have hw := ifT hw c2
      refine lv_iconst (v := 1) hx hb dX8_isLetter_39 (by decide) ?_
      refine lv_goto (tgt := 44) hx hb dX8_isLetter_40 (by decide) ?_
      exact x_zret E hh hw rfl dX8_isLetter_44
  · have hw := ifF hw c1
    refine lv_aload_n hx hb dX8_isLetter_13 rfl (lv_at hl 0 rfl) ?_
    refine lv_aload_n hx hb dX8_isLetter_14 rfl (lv_at hl 0 rfl) ?_
    refine g_40_27 E hh tb761 (E.hn 40 0 (by decide)) dX8_isLetter_15 ?_
    refine lv_iload_n hx hb dX8_isLetter_18 rfl (lv_at hl 1 rfl) ?_
    refine lv_iadd hx hb dX8_isLetter_19 ?_
    refine x_ci E.hA hh (x_runV E hh (mX8_byteAt E.hI E.hn hw) kX8_byteAt tb970 (E.hn 40 0 (by decide)) rv_40 ⟨by decide, by decide⟩ rfl hl.1 rfl (Nat.le_of_ble_eq_true rfl) dX8_isLetter_20 ⟨Nat.zero_le _, Nat.zero_le _⟩) (fun r3 S3 H locs hw hh => ?_)
    refine lv_iload_n hx hb dX8_isLetter_23 rfl (lv_at hl 2 rfl) ?_
    refine lv_icmp_ne (tgt := 31) hx hb dX8_isLetter_24 (by decide) (fun c4 => ?_) (fun c4 => ?_)
    · have hw := ifF hw c4
      refine lv_iconst (v := 0) hx hb dX8_isLetter_31 (by decide) ?_
      refine lv_goto (tgt := 44) hx hb dX8_isLetter_32 (by decide) ?_
      exact x_zret E hh hw rfl dX8_isLetter_44
    · have hw := ifT hw c4
      refine lv_iconst (v := 1) hx hb dX8_isLetter_27 (by decide) ?_
      refine lv_goto (tgt := 44) hx hb dX8_isLetter_28 (by decide) ?_
      exact x_zret E hh hw rfl dX8_isLetter_44
theorem kX8_isLetter : kI yX8_isLetter cX8_isLetter 3 (some .boolean) 2 := ⟨tb985, ts35, tb15, tb986, by decide, by decide, by decide +kernel⟩
theorem mX8_isLetter {l : Launch} {D : va_G} {ad : Nat → Nat → Nat} {cs : Nat → ClassId} {P : Nat → Nat → Prop} {sz tU : Nat} {adK adV : Nat → Nat} {x1 : Int32} {x2 : Int32} {S : St} {K : Int32 → St → Prop} (hI : wI ad P) (hn : ∀ kd i, i < cnM kd → P kd i) (hw : wpX8_isLetter x1 x2 S K) : MI l yX8_isLetter cX8_isLetter 3 (some .boolean) 2 81 D ad cs P sz tU adK adV [.ref (ad 40 0), .int x1, .int x2] S (fun r S => K r S ∧ narrow .boolean (.int r) = .int r) :=
  Met_of (by decide) (Nat.le_of_ble_eq_true rfl) hI hn (fun p e R s m args below meth c ls E hl hh => bX8_isLetter E  hw hh (lv_sub hl [0, 1, 2] rfl))
def wpX8_isWord (x1 : Int32) (x2 : Int32) (x3 : Int32) (x4 : Int32) (x5 : Int32) (x6 : Int32) (x7 : Int32) (x8 : Int32) (S : St) (K : Int32 → St → Prop) : Prop := if (S.1 40 0 30) = 0 then (if (S.1 40 0 26) = 1 then (if ((S.1 40 0 27) + 8) < (S.1 40 0 25) then (K 0 S) else (wpX8_isLetter 0 x1 S (fun r4 S4 => if r4 = 0 then (K 0 S4) else (wpX8_isLetter 1 x2 S4 (fun r6 S6 => if r6 = 0 then (K 0 S6) else (wpX8_isLetter 2 x3 S6 (fun r8 S8 => if r8 = 0 then (K 0 S8) else (wpX8_isLetter 3 x4 S8 (fun r10 S10 => if r10 = 0 then (K 0 S10) else (wpX8_isLetter 4 x5 S10 (fun r12 S12 => if r12 = 0 then (K 0 S12) else (wpX8_isLetter 5 x6 S12 (fun r14 S14 => if r14 = 0 then (K 0 S14) else (wpX8_isLetter 6 x7 S14 (fun r16 S16 => if r16 = 0 then (K 0 S16) else (wpX8_isLetter 7 x8 S16 (fun r18 S18 => if r18 = 0 then (K 0 S18) else (K 1 S18)))))))))))))))))) else (K 0 S)) else (K 0 S)
set_option maxRecDepth 4000 in
theorem bX8_isWord {p : Program} {l : Launch} {e : Env} {R : Room} {s : State} {m : MethodId} {args : Array Value} {below : List Frame} {meth : Method} {c : Code} {D : va_G} {ad : Nat → Nat → Nat} {cs : Nat → ClassId} {P : Nat → Nat → Prop} {sz tU : Nat} {adK adV : Nat → Nat} {K : Int32 → St → Prop} {x1 : Int32} {x2 : Int32} {x3 : Int32} {x4 : Int32} {x5 : Int32} {x6 : Int32} {x7 : Int32} {x8 : Int32} {S : St} {H : Heap} {locs : List Loc} {ls : Array Slot} (E : Ex p s m args meth c R RX8 cX8_isWord 9 (some .boolean) 3 103 D ad cs P (wA ad P) tU adK adV cnM) (hw : wpX8_isWord x1 x2 x3 x4 x5 x6 x7 x8 S K) (hh : wH D ad cs P (wA ad P) s.heap sz S H locs) (hl : lv_has ls 9 [(0, .ref (ad 40 0)), (1, .int x1), (2, .int x2), (3, .int x3), (4, .int x4), (5, .int x5), (6, .int x6), (7, .int x7), (8, .int x8)]) : W p l e R s m args below meth c H locs 0 0 (MQ below (va_Qi (fun r S => K r S ∧ narrow .boolean (.int r) = .int r) (QX D ad cs P sz) (wA ad P)) args s 0 0 (wA ad P)) (F0 m 0 ls []) := by
  have hx := E.hx
  have hb := E.hb
  refine lv_aload_n hx hb dX8_isWord_0 rfl (lv_at hl 0 rfl) ?_
  refine g_40_30 E hh tb764 (E.hn 40 0 (by decide)) dX8_isWord_1 ?_
  refine lv_if_ne (tgt := 112) hx hb dX8_isWord_4 (by decide) (fun c1 => ?_) (fun c1 => ?_)
  · have hw := ifF hw c1
    refine lv_iconst (v := 0) hx hb dX8_isWord_112 (by decide) ?_
    exact x_zret E hh hw rfl dX8_isWord_113
  · have hw := ifT hw c1
    refine lv_aload_n hx hb dX8_isWord_7 rfl (lv_at hl 0 rfl) ?_
    refine g_40_26 E hh tb760 (E.hn 40 0 (by decide)) dX8_isWord_8 ?_
    refine lv_iconst (v := 1) hx hb dX8_isWord_11 (by decide) ?_
    refine lv_icmp_ne (tgt := 112) hx hb dX8_isWord_12 (by decide) (fun c2 => ?_) (fun c2 => ?_)
    · have hw := ifF hw c2
      refine lv_iconst (v := 0) hx hb dX8_isWord_112 (by decide) ?_
      exact x_zret E hh hw rfl dX8_isWord_113
    · have hw := ifT hw c2
      refine lv_aload_n hx hb dX8_isWord_15 rfl (lv_at hl 0 rfl) ?_
      refine g_40_25 E hh tb759 (E.hn 40 0 (by decide)) dX8_isWord_16 ?_
      refine lv_aload_n hx hb dX8_isWord_19 rfl (lv_at hl 0 rfl) ?_
      refine g_40_27 E hh tb761 (E.hn 40 0 (by decide)) dX8_isWord_20 ?_
      refine lv_bipush (v := 8) hx hb dX8_isWord_23 (by decide) ?_
      refine lv_iadd hx hb dX8_isWord_25 ?_
      refine lv_icmp_gt (tgt := 112) hx hb dX8_isWord_26 (by decide) (fun c3 => ?_) (fun c3 => ?_)
      · have hw := ifT hw c3
        refine lv_iconst (v := 0) hx hb dX8_isWord_112 (by decide) ?_
        exact x_zret E hh hw rfl dX8_isWord_113
      · have hw := ifF hw c3
        refine lv_aload_n hx hb dX8_isWord_29 rfl (lv_at hl 0 rfl) ?_
        refine lv_iconst (v := 0) hx hb dX8_isWord_30 (by decide) ?_
        refine lv_iload_n hx hb dX8_isWord_31 rfl (lv_at hl 1 rfl) ?_
        refine x_ci E.hA hh (x_runV E hh (mX8_isLetter E.hI E.hn hw) kX8_isLetter tb983 (E.hn 40 0 (by decide)) rv_40 ⟨by decide, by decide⟩ rfl hl.1 rfl (Nat.le_of_ble_eq_true rfl) dX8_isWord_32 ⟨Nat.zero_le _, Nat.zero_le _⟩) (fun r4 S4 H locs hw hh => ?_)
        have hq4 := hw.2
        have hw := hw.1
        refine lv_if_eq (tgt := 112) hx hb dX8_isWord_35 (by decide) (fun c5 => ?_) (fun c5 => ?_)
        · have hw := ifT hw c5
          refine lv_iconst (v := 0) hx hb dX8_isWord_112 (by decide) ?_
          exact x_zret E hh hw rfl dX8_isWord_113
        · have hw := ifF hw c5
          refine lv_aload_n hx hb dX8_isWord_38 rfl (lv_at hl 0 rfl) ?_
          refine lv_iconst (v := 1) hx hb dX8_isWord_39 (by decide) ?_
          refine lv_iload_n hx hb dX8_isWord_40 rfl (lv_at hl 2 rfl) ?_
          refine x_ci E.hA hh (x_runV E hh (mX8_isLetter E.hI E.hn hw) kX8_isLetter tb983 (E.hn 40 0 (by decide)) rv_40 ⟨by decide, by decide⟩ rfl hl.1 rfl (Nat.le_of_ble_eq_true rfl) dX8_isWord_41 ⟨Nat.zero_le _, Nat.zero_le _⟩) (fun r6 S6 H locs hw hh => ?_)
          have hq6 := hw.2
          have hw := hw.1
          refine lv_if_eq (tgt := 112) hx hb dX8_isWord_44 (by decide) (fun c7 => ?_) (fun c7 => ?_)
          · have hw := ifT hw c7
            refine lv_iconst (v := 0) hx hb dX8_isWord_112 (by decide) ?_
            exact x_zret E hh hw rfl dX8_isWord_113
          · have hw := ifF hw c7
            refine lv_aload_n hx hb dX8_isWord_47 rfl (lv_at hl 0 rfl) ?_
            refine lv_iconst (v := 2) hx hb dX8_isWord_48 (by decide) ?_
            refine lv_iload_n hx hb dX8_isWord_49 rfl (lv_at hl 3 rfl) ?_
            refine x_ci E.hA hh (x_runV E hh (mX8_isLetter E.hI E.hn hw) kX8_isLetter tb983 (E.hn 40 0 (by decide)) rv_40 ⟨by decide, by decide⟩ rfl hl.1 rfl (Nat.le_of_ble_eq_true rfl) dX8_isWord_50 ⟨Nat.zero_le _, Nat.zero_le _⟩) (fun r8 S8 H locs hw hh => ?_)
            have hq8 := hw.2
            have hw := hw.1
            refine lv_if_eq (tgt := 112) hx hb dX8_isWord_53 (by decide) (fun c9 => ?_) (fun c9 => ?_)
            · have hw := ifT hw c9
              refine lv_iconst (v := 0) hx hb dX8_isWord_112 (by decide) ?_
              exact x_zret E hh hw rfl dX8_isWord_113
            · have hw := ifF hw c9
              refine lv_aload_n hx hb dX8_isWord_56 rfl (lv_at hl 0 rfl) ?_
              refine lv_iconst (v := 3) hx hb dX8_isWord_57 (by decide) ?_
              refine lv_iload hx hb dX8_isWord_58 (lv_at hl 4 rfl) ?_
              refine x_ci E.hA hh (x_runV E hh (mX8_isLetter E.hI E.hn hw) kX8_isLetter tb983 (E.hn 40 0 (by decide)) rv_40 ⟨by decide, by decide⟩ rfl hl.1 rfl (Nat.le_of_ble_eq_true rfl) dX8_isWord_60 ⟨Nat.zero_le _, Nat.zero_le _⟩) (fun r10 S10 H locs hw hh => ?_)
              have hq10 := hw.2
              have hw := hw.1
              refine lv_if_eq (tgt := 112) hx hb dX8_isWord_63 (by decide) (fun c11 => ?_) (fun c11 => ?_)
              · have hw := ifT hw c11
                refine lv_iconst (v := 0) hx hb dX8_isWord_112 (by decide) ?_
                exact x_zret E hh hw rfl dX8_isWord_113
              · have hw := ifF hw c11
                refine lv_aload_n hx hb dX8_isWord_66 rfl (lv_at hl 0 rfl) ?_
                refine lv_iconst (v := 4) hx hb dX8_isWord_67 (by decide) ?_
                refine lv_iload hx hb dX8_isWord_68 (lv_at hl 5 rfl) ?_
                refine x_ci E.hA hh (x_runV E hh (mX8_isLetter E.hI E.hn hw) kX8_isLetter tb983 (E.hn 40 0 (by decide)) rv_40 ⟨by decide, by decide⟩ rfl hl.1 rfl (Nat.le_of_ble_eq_true rfl) dX8_isWord_70 ⟨Nat.zero_le _, Nat.zero_le _⟩) (fun r12 S12 H locs hw hh => ?_)
                have hq12 := hw.2
                have hw := hw.1
                refine lv_if_eq (tgt := 112) hx hb dX8_isWord_73 (by decide) (fun c13 => ?_) (fun c13 => ?_)
                · have hw := ifT hw c13
                  refine lv_iconst (v := 0) hx hb dX8_isWord_112 (by decide) ?_
                  exact x_zret E hh hw rfl dX8_isWord_113
                · have hw := ifF hw c13
                  refine lv_aload_n hx hb dX8_isWord_76 rfl (lv_at hl 0 rfl) ?_
                  refine lv_iconst (v := 5) hx hb dX8_isWord_77 (by decide) ?_
                  refine lv_iload hx hb dX8_isWord_78 (lv_at hl 6 rfl) ?_
                  refine x_ci E.hA hh (x_runV E hh (mX8_isLetter E.hI E.hn hw) kX8_isLetter tb983 (E.hn 40 0 (by decide)) rv_40 ⟨by decide, by decide⟩ rfl hl.1 rfl (Nat.le_of_ble_eq_true rfl) dX8_isWord_80 ⟨Nat.zero_le _, Nat.zero_le _⟩) (fun r14 S14 H locs hw hh => ?_)
                  have hq14 := hw.2
                  have hw := hw.1
                  refine lv_if_eq (tgt := 112) hx hb dX8_isWord_83 (by decide) (fun c15 => ?_) (fun c15 => ?_)
                  · have hw := ifT hw c15
                    refine lv_iconst (v := 0) hx hb dX8_isWord_112 (by decide) ?_
                    exact x_zret E hh hw rfl dX8_isWord_113
                  · have hw := ifF hw c15
                    refine lv_aload_n hx hb dX8_isWord_86 rfl (lv_at hl 0 rfl) ?_
                    refine lv_bipush (v := 6) hx hb dX8_isWord_87 (by decide) ?_
                    refine lv_iload hx hb dX8_isWord_89 (lv_at hl 7 rfl) ?_
                    refine x_ci E.hA hh (x_runV E hh (mX8_isLetter E.hI E.hn hw) kX8_isLetter tb983 (E.hn 40 0 (by decide)) rv_40 ⟨by decide, by decide⟩ rfl hl.1 rfl (Nat.le_of_ble_eq_true rfl) dX8_isWord_91 ⟨Nat.zero_le _, Nat.zero_le _⟩) (fun r16 S16 H locs hw hh => ?_)
                    have hq16 := hw.2
                    have hw := hw.1
                    refine lv_if_eq (tgt := 112) hx hb dX8_isWord_94 (by decide) (fun c17 => ?_) (fun c17 => ?_)
                    · have hw := ifT hw c17
                      refine lv_iconst (v := 0) hx hb dX8_isWord_112 (by decide) ?_
                      exact x_zret E hh hw rfl dX8_isWord_113
                    · have hw := ifF hw c17
                      refine lv_aload_n hx hb dX8_isWord_97 rfl (lv_at hl 0 rfl) ?_
                      refine lv_bipush (v := 7) hx hb dX8_isWord_98 (by decide) ?_
                      refine lv_iload hx hb dX8_isWord_100 (lv_at hl 8 rfl) ?_
                      refine x_ci E.hA hh (x_runV E hh (mX8_isLetter E.hI E.hn hw) kX8_isLetter tb983 (E.hn 40 0 (by decide)) rv_40 ⟨by decide, by decide⟩ rfl hl.1 rfl (Nat.le_of_ble_eq_true rfl) dX8_isWord_102 ⟨Nat.zero_le _, Nat.zero_le _⟩) (fun r18 S18 H locs hw hh => ?_)
                      have hq18 := hw.2
                      have hw := hw.1
                      refine lv_if_eq (tgt := 112) hx hb dX8_isWord_105 (by decide) (fun c19 => ?_) (fun c19 => ?_)
                      · have hw := ifT hw c19
                        refine lv_iconst (v := 0) hx hb dX8_isWord_112 (by decide) ?_
                        exact x_zret E hh hw rfl dX8_isWord_113
                      · have hw := ifF hw c19
                        refine lv_iconst (v := 1) hx hb dX8_isWord_108 (by decide) ?_
                        refine lv_goto (tgt := 113) hx hb dX8_isWord_109 (by decide) ?_
                        exact x_zret E hh hw rfl dX8_isWord_113
theorem kX8_isWord : kI yX8_isWord cX8_isWord 9 (some .boolean) 8 := ⟨tb981, ts34, tb15, tb982, by decide, by decide, by decide +kernel⟩
theorem mX8_isWord {l : Launch} {D : va_G} {ad : Nat → Nat → Nat} {cs : Nat → ClassId} {P : Nat → Nat → Prop} {sz tU : Nat} {adK adV : Nat → Nat} {x1 : Int32} {x2 : Int32} {x3 : Int32} {x4 : Int32} {x5 : Int32} {x6 : Int32} {x7 : Int32} {x8 : Int32} {S : St} {K : Int32 → St → Prop} (hI : wI ad P) (hn : ∀ kd i, i < cnM kd → P kd i) (hw : wpX8_isWord x1 x2 x3 x4 x5 x6 x7 x8 S K) : MI l yX8_isWord cX8_isWord 9 (some .boolean) 3 103 D ad cs P sz tU adK adV [.ref (ad 40 0), .int x1, .int x2, .int x3, .int x4, .int x5, .int x6, .int x7, .int x8] S (fun r S => K r S ∧ narrow .boolean (.int r) = .int r) :=
  Met_of (by decide) (Nat.le_of_ble_eq_true rfl) hI hn (fun p e R s m args below meth c ls E hl hh => bX8_isWord E  hw hh (lv_sub hl [0, 1, 2, 3, 4, 5, 6, 7, 8] rfl))
def wpX8_isSign (x1 : Int32) (S : St) (K : Int32 → St → Prop) : Prop := if (S.1 40 0 30) = 0 then (if (S.1 40 0 26) = 3 then (if (lg_cmp (sw S 40 0) x1.toInt64) = 0 then (K 1 S) else (K 0 S)) else (K 0 S)) else (K 0 S)
set_option maxRecDepth 4000 in
theorem bX8_isSign {p : Program} {l : Launch} {e : Env} {R : Room} {s : State} {m : MethodId} {args : Array Value} {below : List Frame} {meth : Method} {c : Code} {D : va_G} {ad : Nat → Nat → Nat} {cs : Nat → ClassId} {P : Nat → Nat → Prop} {sz tU : Nat} {adK adV : Nat → Nat} {K : Int32 → St → Prop} {x1 : Int32} {S : St} {H : Heap} {locs : List Loc} {ls : Array Slot} (E : Ex p s m args meth c R RX8 cX8_isSign 2 (some .boolean) 1 60 D ad cs P (wA ad P) tU adK adV cnM) (hw : wpX8_isSign x1 S K) (hh : wH D ad cs P (wA ad P) s.heap sz S H locs) (hl : lv_has ls 2 [(0, .ref (ad 40 0)), (1, .int x1)]) : W p l e R s m args below meth c H locs 0 0 (MQ below (va_Qi (fun r S => K r S ∧ narrow .boolean (.int r) = .int r) (QX D ad cs P sz) (wA ad P)) args s 0 0 (wA ad P)) (F0 m 0 ls []) := by
  have hx := E.hx
  have hb := E.hb
  refine lv_aload_n hx hb dX8_isSign_0 rfl (lv_at hl 0 rfl) ?_
  refine g_40_30 E hh tb764 (E.hn 40 0 (by decide)) dX8_isSign_1 ?_
  refine lv_if_ne (tgt := 29) hx hb dX8_isSign_4 (by decide) (fun c1 => ?_) (fun c1 => ?_)
  · have hw := ifF hw c1
    refine lv_iconst (v := 0) hx hb dX8_isSign_29 (by decide) ?_
    exact x_zret E hh hw rfl dX8_isSign_30
  · have hw := ifT hw c1
    refine lv_aload_n hx hb dX8_isSign_7 rfl (lv_at hl 0 rfl) ?_
    refine g_40_26 E hh tb760 (E.hn 40 0 (by decide)) dX8_isSign_8 ?_
    refine lv_iconst (v := 3) hx hb dX8_isSign_11 (by decide) ?_
    refine lv_icmp_ne (tgt := 29) hx hb dX8_isSign_12 (by decide) (fun c2 => ?_) (fun c2 => ?_)
    · have hw := ifF hw c2
      refine lv_iconst (v := 0) hx hb dX8_isSign_29 (by decide) ?_
      exact x_zret E hh hw rfl dX8_isSign_30
    · have hw := ifT hw c2
      refine lv_aload_n hx hb dX8_isSign_15 rfl (lv_at hl 0 rfl) ?_
      refine g_40_28 E hh tb762 (E.hn 40 0 (by decide)) dX8_isSign_16 ?_
      refine lv_iload_n hx hb dX8_isSign_19 rfl (lv_at hl 1 rfl) ?_
      refine lv_i2l hx hb dX8_isSign_20 rfl ?_
      refine W.lcmp hx hb dX8_isSign_21 ?_
      refine lv_if_ne (tgt := 29) hx hb dX8_isSign_22 (by decide) (fun c3 => ?_) (fun c3 => ?_)
      · have hw := ifF hw c3
        refine lv_iconst (v := 0) hx hb dX8_isSign_29 (by decide) ?_
        exact x_zret E hh hw rfl dX8_isSign_30
      · have hw := ifT hw c3
        refine lv_iconst (v := 1) hx hb dX8_isSign_25 (by decide) ?_
        refine lv_goto (tgt := 30) hx hb dX8_isSign_26 (by decide) ?_
        exact x_zret E hh hw rfl dX8_isSign_30
theorem kX8_isSign : kI yX8_isSign cX8_isSign 2 (some .boolean) 1 := ⟨tb1025, ts45, tb15, tb1026, by decide, by decide, by decide +kernel⟩
theorem mX8_isSign {l : Launch} {D : va_G} {ad : Nat → Nat → Nat} {cs : Nat → ClassId} {P : Nat → Nat → Prop} {sz tU : Nat} {adK adV : Nat → Nat} {x1 : Int32} {S : St} {K : Int32 → St → Prop} (hI : wI ad P) (hn : ∀ kd i, i < cnM kd → P kd i) (hw : wpX8_isSign x1 S K) : MI l yX8_isSign cX8_isSign 2 (some .boolean) 1 60 D ad cs P sz tU adK adV [.ref (ad 40 0), .int x1] S (fun r S => K r S ∧ narrow .boolean (.int r) = .int r) :=
  Met_of (by decide) (Nat.le_of_ble_eq_true rfl) hI hn (fun p e R s m args below meth c ls E hl hh => bX8_isSign E  hw hh (lv_sub hl [0, 1] rfl))
def wpX8_opens (S : St) (K : Int32 → St → Prop) : Prop := if (S.1 40 0 29) = 5 then (wpX8_fail S (fun S4 => K 0 S4)) else ((∀ S2, S2 = su S 40 0 29 ((S.1 40 0 29) + 1) → wpX8_next S2 (fun S3 => K 1 S3)))
set_option maxRecDepth 4000 in
theorem bX8_opens {p : Program} {l : Launch} {e : Env} {R : Room} {s : State} {m : MethodId} {args : Array Value} {below : List Frame} {meth : Method} {c : Code} {D : va_G} {ad : Nat → Nat → Nat} {cs : Nat → ClassId} {P : Nat → Nat → Prop} {sz tU : Nat} {adK adV : Nat → Nat} {K : Int32 → St → Prop} {S : St} {H : Heap} {locs : List Loc} {ls : Array Slot} (E : Ex p s m args meth c R RX8 cX8_opens 1 (some .boolean) 3 107 D ad cs P (wA ad P) tU adK adV cnM) (hw : wpX8_opens S K) (hh : wH D ad cs P (wA ad P) s.heap sz S H locs) (hl : lv_has ls 1 [(0, .ref (ad 40 0))]) : W p l e R s m args below meth c H locs 0 0 (MQ below (va_Qi (fun r S => K r S ∧ narrow .boolean (.int r) = .int r) (QX D ad cs P sz) (wA ad P)) args s 0 0 (wA ad P)) (F0 m 0 ls []) := by
  have hx := E.hx
  have hb := E.hb
  refine lv_aload_n hx hb dX8_opens_0 rfl (lv_at hl 0 rfl) ?_
  refine g_40_29 E hh tb763 (E.hn 40 0 (by decide)) dX8_opens_1 ?_
  refine lv_iconst (v := 5) hx hb dX8_opens_4 (by decide) ?_
  refine lv_icmp_ne (tgt := 14) hx hb dX8_opens_5 (by decide) (fun c1 => ?_) (fun c1 => ?_)
  · have hw := ifF hw c1
    refine lv_aload_n hx hb dX8_opens_14 rfl (lv_at hl 0 rfl) ?_
    refine lv_dup hx hb dX8_opens_15 rfl ?_
    refine g_40_29 E hh tb763 (E.hn 40 0 (by decide)) dX8_opens_16 ?_
    refine lv_iconst (v := 1) hx hb dX8_opens_19 (by decide) ?_
    refine lv_iadd hx hb dX8_opens_20 ?_
    refine p_40_29 E hh tb763 (E.hn 40 0 (by decide)) dX8_opens_21 (fun S2 H locs e2 hh => ?_)
    have hw := hw S2 e2
    refine lv_aload_n hx hb dX8_opens_24 rfl (lv_at hl 0 rfl) ?_
    refine x_cv E.hA hh (x_runV E hh (mX8_next E.hI E.hn hw) kX8_next tb966 (E.hn 40 0 (by decide)) rv_40 ⟨by decide, by decide⟩ rfl hl.1 rfl (Nat.le_of_ble_eq_true rfl) dX8_opens_25 ⟨Nat.zero_le _, Nat.zero_le _⟩) (fun S3 H locs hw hh => ?_)
    refine lv_iconst (v := 1) hx hb dX8_opens_28 (by decide) ?_
    exact x_zret E hh hw rfl dX8_opens_29
  · have hw := ifT hw c1
    refine lv_aload_n hx hb dX8_opens_8 rfl (lv_at hl 0 rfl) ?_
    refine x_cv E.hA hh (x_runV E hh (mX8_fail E.hI E.hn hw) kX8_fail tb991 (E.hn 40 0 (by decide)) rv_40 ⟨by decide, by decide⟩ rfl hl.1 rfl (Nat.le_of_ble_eq_true rfl) dX8_opens_9 ⟨Nat.zero_le _, Nat.zero_le _⟩) (fun S4 H locs hw hh => ?_)
    refine lv_iconst (v := 0) hx hb dX8_opens_12 (by decide) ?_
    exact x_zret E hh hw rfl dX8_opens_13
theorem kX8_opens : kI yX8_opens cX8_opens 1 (some .boolean) 0 := ⟨tb1009, ts41, tb15, tb1010, by decide, by decide, by decide +kernel⟩
theorem mX8_opens {l : Launch} {D : va_G} {ad : Nat → Nat → Nat} {cs : Nat → ClassId} {P : Nat → Nat → Prop} {sz tU : Nat} {adK adV : Nat → Nat} {S : St} {K : Int32 → St → Prop} (hI : wI ad P) (hn : ∀ kd i, i < cnM kd → P kd i) (hw : wpX8_opens S K) : MI l yX8_opens cX8_opens 1 (some .boolean) 3 107 D ad cs P sz tU adK adV [.ref (ad 40 0)] S (fun r S => K r S ∧ narrow .boolean (.int r) = .int r) :=
  Met_of (by decide) (Nat.le_of_ble_eq_true rfl) hI hn (fun p e R s m args below meth c ls E hl hh => bX8_opens E  hw hh (lv_sub hl [0] rfl))
def wpX8_name (S : St) (K : Int32 → St → Prop) : Prop := wpX8_isWord 108 105 107 101 0 0 0 0 S (fun r1 S1 => if r1 = 0 then (wpX8_isWord 104 101 114 115 0 0 0 0 S1 (fun r3 S3 => if r3 = 0 then (wpX8_isWord 110 111 101 115 0 0 0 0 S3 (fun r5 S5 => if r5 = 0 then (wpX8_isWord 109 111 110 116 104 0 0 0 S5 (fun r7 S7 => if r7 = 0 then (wpX8_isWord 109 97 110 0 0 0 0 0 S7 (fun r9 S9 => if r9 = 0 then (wpX8_isWord 109 97 105 100 0 0 0 0 S9 (fun r11 S11 => if r11 = 0 then (wpX8_fail S11 (fun S13 => K 0 S13)) else (K (S11.1 40 0 22) S11))) else (K (S9.1 40 0 21) S9))) else (K (S7.1 40 0 20) S7))) else (K (S5.1 40 0 19) S5))) else (K (S3.1 40 0 18) S3))) else (K (S1.1 40 0 17) S1))
set_option maxRecDepth 4000 in
theorem bX8_name {p : Program} {l : Launch} {e : Env} {R : Room} {s : State} {m : MethodId} {args : Array Value} {below : List Frame} {meth : Method} {c : Code} {D : va_G} {ad : Nat → Nat → Nat} {cs : Nat → ClassId} {P : Nat → Nat → Prop} {sz tU : Nat} {adK adV : Nat → Nat} {K : Int32 → St → Prop} {S : St} {H : Heap} {locs : List Loc} {ls : Array Slot} (E : Ex p s m args meth c R RX8 cX8_name 1 (some .int) 4 131 D ad cs P (wA ad P) tU adK adV cnM) (hw : wpX8_name S K) (hh : wH D ad cs P (wA ad P) s.heap sz S H locs) (hl : lv_has ls 1 [(0, .ref (ad 40 0))]) : W p l e R s m args below meth c H locs 0 0 (MQ below (va_Qi K (QX D ad cs P sz) (wA ad P)) args s 0 0 (wA ad P)) (F0 m 0 ls []) := by
  have hx := E.hx
  have hb := E.hb
  refine lv_aload_n hx hb dX8_name_0 rfl (lv_at hl 0 rfl) ?_
  refine lv_bipush (v := 108) hx hb dX8_name_1 (by decide) ?_
  refine lv_bipush (v := 105) hx hb dX8_name_3 (by decide) ?_
  refine lv_bipush (v := 107) hx hb dX8_name_5 (by decide) ?_
  refine lv_bipush (v := 101) hx hb dX8_name_7 (by decide) ?_
  refine lv_iconst (v := 0) hx hb dX8_name_9 (by decide) ?_
  refine lv_iconst (v := 0) hx hb dX8_name_10 (by decide) ?_
  refine lv_iconst (v := 0) hx hb dX8_name_11 (by decide) ?_
  refine lv_iconst (v := 0) hx hb dX8_name_12 (by decide) ?_
  refine x_ci E.hA hh (x_runV E hh (mX8_isWord E.hI E.hn hw) kX8_isWord tb979 (E.hn 40 0 (by decide)) rv_40 ⟨by decide, by decide⟩ rfl hl.1 rfl (Nat.le_of_ble_eq_true rfl) dX8_name_13 ⟨Nat.zero_le _, Nat.zero_le _⟩) (fun r1 S1 H locs hw hh => ?_)
  have hq1 := hw.2
  have hw := hw.1
  refine lv_if_eq (tgt := 24) hx hb dX8_name_16 (by decide) (fun c2 => ?_) (fun c2 => ?_)
  · have hw := ifT hw c2
    refine lv_aload_n hx hb dX8_name_24 rfl (lv_at hl 0 rfl) ?_
    refine lv_bipush (v := 104) hx hb dX8_name_25 (by decide) ?_
    refine lv_bipush (v := 101) hx hb dX8_name_27 (by decide) ?_
    refine lv_bipush (v := 114) hx hb dX8_name_29 (by decide) ?_
    refine lv_bipush (v := 115) hx hb dX8_name_31 (by decide) ?_
    refine lv_iconst (v := 0) hx hb dX8_name_33 (by decide) ?_
    refine lv_iconst (v := 0) hx hb dX8_name_34 (by decide) ?_
    refine lv_iconst (v := 0) hx hb dX8_name_35 (by decide) ?_
    refine lv_iconst (v := 0) hx hb dX8_name_36 (by decide) ?_
    refine x_ci E.hA hh (x_runV E hh (mX8_isWord E.hI E.hn hw) kX8_isWord tb979 (E.hn 40 0 (by decide)) rv_40 ⟨by decide, by decide⟩ rfl hl.1 rfl (Nat.le_of_ble_eq_true rfl) dX8_name_37 ⟨Nat.zero_le _, Nat.zero_le _⟩) (fun r3 S3 H locs hw hh => ?_)
    have hq3 := hw.2
    have hw := hw.1
    refine lv_if_eq (tgt := 48) hx hb dX8_name_40 (by decide) (fun c4 => ?_) (fun c4 => ?_)
    · have hw := ifT hw c4
      refine lv_aload_n hx hb dX8_name_48 rfl (lv_at hl 0 rfl) ?_
      refine lv_bipush (v := 110) hx hb dX8_name_49 (by decide) ?_
      refine lv_bipush (v := 111) hx hb dX8_name_51 (by decide) ?_
      refine lv_bipush (v := 101) hx hb dX8_name_53 (by decide) ?_
      refine lv_bipush (v := 115) hx hb dX8_name_55 (by decide) ?_
      refine lv_iconst (v := 0) hx hb dX8_name_57 (by decide) ?_
      refine lv_iconst (v := 0) hx hb dX8_name_58 (by decide) ?_
      refine lv_iconst (v := 0) hx hb dX8_name_59 (by decide) ?_
      refine lv_iconst (v := 0) hx hb dX8_name_60 (by decide) ?_
      refine x_ci E.hA hh (x_runV E hh (mX8_isWord E.hI E.hn hw) kX8_isWord tb979 (E.hn 40 0 (by decide)) rv_40 ⟨by decide, by decide⟩ rfl hl.1 rfl (Nat.le_of_ble_eq_true rfl) dX8_name_61 ⟨Nat.zero_le _, Nat.zero_le _⟩) (fun r5 S5 H locs hw hh => ?_)
      have hq5 := hw.2
      have hw := hw.1
      refine lv_if_eq (tgt := 72) hx hb dX8_name_64 (by decide) (fun c6 => ?_) (fun c6 => ?_)
      · have hw := ifT hw c6
        refine lv_aload_n hx hb dX8_name_72 rfl (lv_at hl 0 rfl) ?_
        refine lv_bipush (v := 109) hx hb dX8_name_73 (by decide) ?_
        refine lv_bipush (v := 111) hx hb dX8_name_75 (by decide) ?_
        refine lv_bipush (v := 110) hx hb dX8_name_77 (by decide) ?_
        refine lv_bipush (v := 116) hx hb dX8_name_79 (by decide) ?_
        refine lv_bipush (v := 104) hx hb dX8_name_81 (by decide) ?_
        refine lv_iconst (v := 0) hx hb dX8_name_83 (by decide) ?_
        refine lv_iconst (v := 0) hx hb dX8_name_84 (by decide) ?_
        refine lv_iconst (v := 0) hx hb dX8_name_85 (by decide) ?_
        refine x_ci E.hA hh (x_runV E hh (mX8_isWord E.hI E.hn hw) kX8_isWord tb979 (E.hn 40 0 (by decide)) rv_40 ⟨by decide, by decide⟩ rfl hl.1 rfl (Nat.le_of_ble_eq_true rfl) dX8_name_86 ⟨Nat.zero_le _, Nat.zero_le _⟩) (fun r7 S7 H locs hw hh => ?_)
        have hq7 := hw.2
        have hw := hw.1
        refine lv_if_eq (tgt := 97) hx hb dX8_name_89 (by decide) (fun c8 => ?_) (fun c8 => ?_)
        · have hw := ifT hw c8
          refine lv_aload_n hx hb dX8_name_97 rfl (lv_at hl 0 rfl) ?_
          refine lv_bipush (v := 109) hx hb dX8_name_98 (by decide) ?_
          refine lv_bipush (v := 97) hx hb dX8_name_100 (by decide) ?_
          refine lv_bipush (v := 110) hx hb dX8_name_102 (by decide) ?_
          refine lv_iconst (v := 0) hx hb dX8_name_104 (by decide) ?_
          refine lv_iconst (v := 0) hx hb dX8_name_105 (by decide) ?_
          refine lv_iconst (v := 0) hx hb dX8_name_106 (by decide) ?_
          refine lv_iconst (v := 0) hx hb dX8_name_107 (by decide) ?_
          refine lv_iconst (v := 0) hx hb dX8_name_108 (by decide) ?_
          refine x_ci E.hA hh (x_runV E hh (mX8_isWord E.hI E.hn hw) kX8_isWord tb979 (E.hn 40 0 (by decide)) rv_40 ⟨by decide, by decide⟩ rfl hl.1 rfl (Nat.le_of_ble_eq_true rfl) dX8_name_109 ⟨Nat.zero_le _, Nat.zero_le _⟩) (fun r9 S9 H locs hw hh => ?_)
          have hq9 := hw.2
          have hw := hw.1
          refine lv_if_eq (tgt := 120) hx hb dX8_name_112 (by decide) (fun c10 => ?_) (fun c10 => ?_)
          · have hw := ifT hw c10
            refine lv_aload_n hx hb dX8_name_120 rfl (lv_at hl 0 rfl) ?_
            refine lv_bipush (v := 109) hx hb dX8_name_121 (by decide) ?_
            refine lv_bipush (v := 97) hx hb dX8_name_123 (by decide) ?_
            refine lv_bipush (v := 105) hx hb dX8_name_125 (by decide) ?_
            refine lv_bipush (v := 100) hx hb dX8_name_127 (by decide) ?_
            refine lv_iconst (v := 0) hx hb dX8_name_129 (by decide) ?_
            refine lv_iconst (v := 0) hx hb dX8_name_130 (by decide) ?_
            refine lv_iconst (v := 0) hx hb dX8_name_131 (by decide) ?_
            refine lv_iconst (v := 0) hx hb dX8_name_132 (by decide) ?_
            refine x_ci E.hA hh (x_runV E hh (mX8_isWord E.hI E.hn hw) kX8_isWord tb979 (E.hn 40 0 (by decide)) rv_40 ⟨by decide, by decide⟩ rfl hl.1 rfl (Nat.le_of_ble_eq_true rfl) dX8_name_133 ⟨Nat.zero_le _, Nat.zero_le _⟩) (fun r11 S11 H locs hw hh => ?_)
            have hq11 := hw.2
            have hw := hw.1
            refine lv_if_eq (tgt := 144) hx hb dX8_name_136 (by decide) (fun c12 => ?_) (fun c12 => ?_)
            · have hw := ifT hw c12
              refine lv_aload_n hx hb dX8_name_144 rfl (lv_at hl 0 rfl) ?_
              refine x_cv E.hA hh (x_runV E hh (mX8_fail E.hI E.hn hw) kX8_fail tb991 (E.hn 40 0 (by decide)) rv_40 ⟨by decide, by decide⟩ rfl hl.1 rfl (Nat.le_of_ble_eq_true rfl) dX8_name_145 ⟨Nat.zero_le _, Nat.zero_le _⟩) (fun S13 H locs hw hh => ?_)
              refine lv_iconst (v := 0) hx hb dX8_name_148 (by decide) ?_
              exact x_iret E hh hw dX8_name_149
            · have hw := ifF hw c12
              refine lv_aload_n hx hb dX8_name_139 rfl (lv_at hl 0 rfl) ?_
              refine g_40_22 E hh tb756 (E.hn 40 0 (by decide)) dX8_name_140 ?_
              exact x_iret E hh hw dX8_name_143
          · have hw := ifF hw c10
            refine lv_aload_n hx hb dX8_name_115 rfl (lv_at hl 0 rfl) ?_
            refine g_40_21 E hh tb755 (E.hn 40 0 (by decide)) dX8_name_116 ?_
            exact x_iret E hh hw dX8_name_119
        · have hw := ifF hw c8
          refine lv_aload_n hx hb dX8_name_92 rfl (lv_at hl 0 rfl) ?_
          refine g_40_20 E hh tb754 (E.hn 40 0 (by decide)) dX8_name_93 ?_
          exact x_iret E hh hw dX8_name_96
      · have hw := ifF hw c6
        refine lv_aload_n hx hb dX8_name_67 rfl (lv_at hl 0 rfl) ?_
        refine g_40_19 E hh tb753 (E.hn 40 0 (by decide)) dX8_name_68 ?_
        exact x_iret E hh hw dX8_name_71
    · have hw := ifF hw c4
      refine lv_aload_n hx hb dX8_name_43 rfl (lv_at hl 0 rfl) ?_
      refine g_40_18 E hh tb752 (E.hn 40 0 (by decide)) dX8_name_44 ?_
      exact x_iret E hh hw dX8_name_47
  · have hw := ifF hw c2
    refine lv_aload_n hx hb dX8_name_19 rfl (lv_at hl 0 rfl) ?_
    refine g_40_17 E hh tb751 (E.hn 40 0 (by decide)) dX8_name_20 ?_
    exact x_iret E hh hw dX8_name_23
theorem kX8_name : kI yX8_name cX8_name 1 (some .int) 0 := ⟨tb1029, ts46, tb15, tb1030, by decide, by decide, by decide +kernel⟩
theorem mX8_name {l : Launch} {D : va_G} {ad : Nat → Nat → Nat} {cs : Nat → ClassId} {P : Nat → Nat → Prop} {sz tU : Nat} {adK adV : Nat → Nat} {S : St} {K : Int32 → St → Prop} (hI : wI ad P) (hn : ∀ kd i, i < cnM kd → P kd i) (hw : wpX8_name S K) : MI l yX8_name cX8_name 1 (some .int) 4 131 D ad cs P sz tU adK adV [.ref (ad 40 0)] S K :=
  Met_of (by decide) (Nat.le_of_ble_eq_true rfl) hI hn (fun p e R s m args below meth c ls E hl hh => bX8_name E  hw hh (lv_sub hl [0] rfl))
theorem kX8_either : kI yX8_either cX8_either 3 (some .int) 0 := ⟨tb997, ts38, tb15, tb998, by decide, by decide, by decide +kernel⟩
theorem kX8_both : kI yX8_both cX8_both 3 (some .int) 0 := ⟨tb1001, ts39, tb15, tb1002, by decide, by decide, by decide +kernel⟩
theorem kX8_not : kI yX8_not cX8_not 4 (some .int) 0 := ⟨tb1005, ts40, tb15, tb1006, by decide, by decide, by decide +kernel⟩
theorem kX8_added : kI yX8_added cX8_added 4 (some .int) 0 := ⟨tb1013, ts42, tb15, tb1014, by decide, by decide, by decide +kernel⟩
theorem kX8_term : kI yX8_term cX8_term 2 (some .int) 0 := ⟨tb1017, ts43, tb15, tb1018, by decide, by decide, by decide +kernel⟩
theorem kX8_atom : kI yX8_atom cX8_atom 2 (some .int) 0 := ⟨tb1021, ts44, tb15, tb1022, by decide, by decide, by decide +kernel⟩
def wbX8_either_44 (F : Nat → St → (Int32 → St → Prop) → Prop) (R5 : Int32 → St → Prop) (K : Int32 → St → Prop) (v0 : Int32) (S : St) : Prop := R5 v0 S
set_option maxRecDepth 4000 in
theorem bX8_either_44 {p : Program} {l : Launch} {e : Env} {R : Room} {s : State} {m : MethodId} {args : Array Value} {below : List Frame} {meth : Method} {c : Code} {D : va_G} {ad : Nat → Nat → Nat} {cs : Nat → ClassId} {P : Nat → Nat → Prop} {sz tU : Nat} {adK adV : Nat → Nat} {F : Nat → St → (Int32 → St → Prop) → Prop} {d : Nat} {R5 : Int32 → St → Prop} {K : Int32 → St → Prop} {v0 : Int32} {S : St} {H : Heap} {locs : List Loc} {ls : Array Slot} (E : Ex p s m args meth c R RX8 cX8_either 3 (some .int) (5 + (d + 1)) (151 + 23 * (d + 1)) D ad cs P (wA ad P) tU adK adV cnM) (hF0 : ∀ {S : St} {K : Int32 → St → Prop}, F 0  S K → MI l yX8_either cX8_either 3 (some .int) (5 + d) (151 + 23 * d) D ad cs P sz tU adK adV [.ref (ad 40 0)] S K) (hF1 : ∀ {S : St} {K : Int32 → St → Prop}, F 1  S K → MI l yX8_both cX8_both 3 (some .int) (5 + d) (151 + 23 * d) D ad cs P sz tU adK adV [.ref (ad 40 0)] S K) (hF2 : ∀ {S : St} {K : Int32 → St → Prop}, F 2  S K → MI l yX8_not cX8_not 4 (some .int) (5 + d) (151 + 23 * d) D ad cs P sz tU adK adV [.ref (ad 40 0)] S K) (hF3 : ∀ {S : St} {K : Int32 → St → Prop}, F 3  S K → MI l yX8_added cX8_added 4 (some .int) (5 + d) (151 + 23 * d) D ad cs P sz tU adK adV [.ref (ad 40 0)] S K) (hF4 : ∀ {S : St} {K : Int32 → St → Prop}, F 4  S K → MI l yX8_term cX8_term 2 (some .int) (5 + d) (151 + 23 * d) D ad cs P sz tU adK adV [.ref (ad 40 0)] S K) (hF5 : ∀ {S : St} {K : Int32 → St → Prop}, F 5  S K → MI l yX8_atom cX8_atom 2 (some .int) (5 + d) (151 + 23 * d) D ad cs P sz tU adK adV [.ref (ad 40 0)] S K) (hR5 : ∀ (z1 : Int32) (S : St) (H : Heap) (locs : List Loc) (ls : Array Slot), R5 z1 S → wH D ad cs P (wA ad P) s.heap sz S H locs → lv_has ls 3 [(0, .ref (ad 40 0)), (1, .int z1)] → W p l e R s m args below meth c H locs 0 0 (MQ below (va_Qi K (QX D ad cs P sz) (wA ad P)) args s 0 0 (wA ad P)) (F0 m 5 ls [])) (hw : wbX8_either_44 F R5 K v0 S) (hh : wH D ad cs P (wA ad P) s.heap sz S H locs) (hl : lv_has ls 3 [(0, .ref (ad 40 0))]) : W p l e R s m args below meth c H locs 0 0 (MQ below (va_Qi K (QX D ad cs P sz) (wA ad P)) args s 0 0 (wA ad P)) (F0 m 44 ls [.int v0]) := by
  have hx := E.hx
  have hb := E.hb
  refine lv_istore_n (lv' := [(1, .int v0), (0, .ref (ad 40 0))]) hx hb dX8_either_44 rfl hl (by decide) rfl (fun ls hl => ?_)
  refine lv_goto (tgt := 5) hx hb dX8_either_45 (by decide) ?_
  exact hR5 v0 S _ _ _ hw hh (lv_sub hl [1, 0] rfl)
def wbX8_either_39 (F : Nat → St → (Int32 → St → Prop) → Prop) (R5 : Int32 → St → Prop) (K : Int32 → St → Prop) (S : St) : Prop := wbX8_either_44 F R5 K 1 S
set_option maxRecDepth 4000 in
theorem bX8_either_39 {p : Program} {l : Launch} {e : Env} {R : Room} {s : State} {m : MethodId} {args : Array Value} {below : List Frame} {meth : Method} {c : Code} {D : va_G} {ad : Nat → Nat → Nat} {cs : Nat → ClassId} {P : Nat → Nat → Prop} {sz tU : Nat} {adK adV : Nat → Nat} {F : Nat → St → (Int32 → St → Prop) → Prop} {d : Nat} {R5 : Int32 → St → Prop} {K : Int32 → St → Prop} {S : St} {H : Heap} {locs : List Loc} {ls : Array Slot} (E : Ex p s m args meth c R RX8 cX8_either 3 (some .int) (5 + (d + 1)) (151 + 23 * (d + 1)) D ad cs P (wA ad P) tU adK adV cnM) (hF0 : ∀ {S : St} {K : Int32 → St → Prop}, F 0  S K → MI l yX8_either cX8_either 3 (some .int) (5 + d) (151 + 23 * d) D ad cs P sz tU adK adV [.ref (ad 40 0)] S K) (hF1 : ∀ {S : St} {K : Int32 → St → Prop}, F 1  S K → MI l yX8_both cX8_both 3 (some .int) (5 + d) (151 + 23 * d) D ad cs P sz tU adK adV [.ref (ad 40 0)] S K) (hF2 : ∀ {S : St} {K : Int32 → St → Prop}, F 2  S K → MI l yX8_not cX8_not 4 (some .int) (5 + d) (151 + 23 * d) D ad cs P sz tU adK adV [.ref (ad 40 0)] S K) (hF3 : ∀ {S : St} {K : Int32 → St → Prop}, F 3  S K → MI l yX8_added cX8_added 4 (some .int) (5 + d) (151 + 23 * d) D ad cs P sz tU adK adV [.ref (ad 40 0)] S K) (hF4 : ∀ {S : St} {K : Int32 → St → Prop}, F 4  S K → MI l yX8_term cX8_term 2 (some .int) (5 + d) (151 + 23 * d) D ad cs P sz tU adK adV [.ref (ad 40 0)] S K) (hF5 : ∀ {S : St} {K : Int32 → St → Prop}, F 5  S K → MI l yX8_atom cX8_atom 2 (some .int) (5 + d) (151 + 23 * d) D ad cs P sz tU adK adV [.ref (ad 40 0)] S K) (hR5 : ∀ (z1 : Int32) (S : St) (H : Heap) (locs : List Loc) (ls : Array Slot), R5 z1 S → wH D ad cs P (wA ad P) s.heap sz S H locs → lv_has ls 3 [(0, .ref (ad 40 0)), (1, .int z1)] → W p l e R s m args below meth c H locs 0 0 (MQ below (va_Qi K (QX D ad cs P sz) (wA ad P)) args s 0 0 (wA ad P)) (F0 m 5 ls [])) (hw : wbX8_either_39 F R5 K S) (hh : wH D ad cs P (wA ad P) s.heap sz S H locs) (hl : lv_has ls 3 [(0, .ref (ad 40 0))]) : W p l e R s m args below meth c H locs 0 0 (MQ below (va_Qi K (QX D ad cs P sz) (wA ad P)) args s 0 0 (wA ad P)) (F0 m 39 ls []) := by
  have hx := E.hx
  have hb := E.hb
  refine lv_iconst (v := 1) hx hb dX8_either_39 (by decide) ?_
  refine lv_goto (tgt := 44) hx hb dX8_either_40 (by decide) ?_
  exact bX8_either_44 E hF0 hF1 hF2 hF3 hF4 hF5 hR5 hw hh (lv_sub hl [0] rfl)
def wbX8_either_5 (F : Nat → St → (Int32 → St → Prop) → Prop) (K : Int32 → St → Prop) : Nat → Int32 → St → Prop
  | 0, _, _ => False
  | n + 1, x1, S => wpX8_isWord 111 114 0 0 0 0 0 0 S (fun r2 S2 => if r2 = 0 then (K x1 S2) else (wpX8_next S2 (fun S4 => F 1 S4 (fun r5 S5 => if x1 = 0 then (if r5 = 0 then (wbX8_either_44 F (fun yx1 S9 => wbX8_either_5 F K n yx1 S9) K 0 S5) else (wbX8_either_39 F (fun yx1 S9 => wbX8_either_5 F K n yx1 S9) K S5)) else (wbX8_either_39 F (fun yx1 S9 => wbX8_either_5 F K n yx1 S9) K S5)))))
set_option maxRecDepth 4000 in
theorem bX8_either_5 {p : Program} {l : Launch} {e : Env} {R : Room} {s : State} {m : MethodId} {args : Array Value} {below : List Frame} {meth : Method} {c : Code} {D : va_G} {ad : Nat → Nat → Nat} {cs : Nat → ClassId} {P : Nat → Nat → Prop} {sz tU : Nat} {adK adV : Nat → Nat} {F : Nat → St → (Int32 → St → Prop) → Prop} {d : Nat} {K : Int32 → St → Prop} (E : Ex p s m args meth c R RX8 cX8_either 3 (some .int) (5 + (d + 1)) (151 + 23 * (d + 1)) D ad cs P (wA ad P) tU adK adV cnM) (hF0 : ∀ {S : St} {K : Int32 → St → Prop}, F 0  S K → MI l yX8_either cX8_either 3 (some .int) (5 + d) (151 + 23 * d) D ad cs P sz tU adK adV [.ref (ad 40 0)] S K) (hF1 : ∀ {S : St} {K : Int32 → St → Prop}, F 1  S K → MI l yX8_both cX8_both 3 (some .int) (5 + d) (151 + 23 * d) D ad cs P sz tU adK adV [.ref (ad 40 0)] S K) (hF2 : ∀ {S : St} {K : Int32 → St → Prop}, F 2  S K → MI l yX8_not cX8_not 4 (some .int) (5 + d) (151 + 23 * d) D ad cs P sz tU adK adV [.ref (ad 40 0)] S K) (hF3 : ∀ {S : St} {K : Int32 → St → Prop}, F 3  S K → MI l yX8_added cX8_added 4 (some .int) (5 + d) (151 + 23 * d) D ad cs P sz tU adK adV [.ref (ad 40 0)] S K) (hF4 : ∀ {S : St} {K : Int32 → St → Prop}, F 4  S K → MI l yX8_term cX8_term 2 (some .int) (5 + d) (151 + 23 * d) D ad cs P sz tU adK adV [.ref (ad 40 0)] S K) (hF5 : ∀ {S : St} {K : Int32 → St → Prop}, F 5  S K → MI l yX8_atom cX8_atom 2 (some .int) (5 + d) (151 + 23 * d) D ad cs P sz tU adK adV [.ref (ad 40 0)] S K) : ∀ (n : Nat) (x1 : Int32) (S : St) (H : Heap) (locs : List Loc) (ls : Array Slot), wbX8_either_5 F K n x1 S → wH D ad cs P (wA ad P) s.heap sz S H locs → lv_has ls 3 [(0, .ref (ad 40 0)), (1, .int x1)] → W p l e R s m args below meth c H locs 0 0 (MQ below (va_Qi K (QX D ad cs P sz) (wA ad P)) args s 0 0 (wA ad P)) (F0 m 5 ls []) := by
  have hx := E.hx
  have hb := E.hb
  intro n
  induction n with
  | zero => intro x1 S H locs ls hw hh hl; exact hw.elim
  | succ n ih =>
    intro x1 S H locs ls hw hh hl
    refine lv_aload_n hx hb dX8_either_5 rfl (lv_at hl 0 rfl) ?_
    refine lv_bipush (v := 111) hx hb dX8_either_6 (by decide) ?_
    refine lv_bipush (v := 114) hx hb dX8_either_8 (by decide) ?_
    refine lv_iconst (v := 0) hx hb dX8_either_10 (by decide) ?_
    refine lv_iconst (v := 0) hx hb dX8_either_11 (by decide) ?_
    refine lv_iconst (v := 0) hx hb dX8_either_12 (by decide) ?_
    refine lv_iconst (v := 0) hx hb dX8_either_13 (by decide) ?_
    refine lv_iconst (v := 0) hx hb dX8_either_14 (by decide) ?_
    refine lv_iconst (v := 0) hx hb dX8_either_15 (by decide) ?_
    refine x_ci E.hA hh (x_runV E hh (mX8_isWord E.hI E.hn hw) kX8_isWord tb979 (E.hn 40 0 (by decide)) rv_40 ⟨by omega, by omega⟩ rfl hl.1 rfl (Nat.le_of_ble_eq_true rfl) dX8_either_16 ⟨Nat.zero_le _, Nat.zero_le _⟩) (fun r2 S2 H locs hw hh => ?_)
    have hq2 := hw.2
    have hw := hw.1
    refine lv_if_eq (tgt := 48) hx hb dX8_either_19 (by decide) (fun c3 => ?_) (fun c3 => ?_)
    · have hw := ifT hw c3
      refine lv_iload_n hx hb dX8_either_48 rfl (lv_at hl 1 rfl) ?_
      exact x_iret E hh hw dX8_either_49
    · have hw := ifF hw c3
      refine lv_aload_n hx hb dX8_either_22 rfl (lv_at hl 0 rfl) ?_
      refine x_cv E.hA hh (x_runV E hh (mX8_next E.hI E.hn hw) kX8_next tb966 (E.hn 40 0 (by decide)) rv_40 ⟨by omega, by omega⟩ rfl hl.1 rfl (Nat.le_of_ble_eq_true rfl) dX8_either_23 ⟨Nat.zero_le _, Nat.zero_le _⟩) (fun S4 H locs hw hh => ?_)
      refine lv_aload_n hx hb dX8_either_26 rfl (lv_at hl 0 rfl) ?_
      refine x_ci E.hA hh (x_runV E hh (hF1 hw) kX8_both tb999 (E.hn 40 0 (by decide)) rv_40 ⟨by omega, by omega⟩ rfl hl.1 rfl (Nat.le_of_ble_eq_true rfl) dX8_either_27 ⟨Nat.zero_le _, Nat.zero_le _⟩) (fun r5 S5 H locs hw hh => ?_)
      refine lv_istore_n (lv' := [(2, .int r5), (0, .ref (ad 40 0)), (1, .int x1)]) hx hb dX8_either_30 rfl hl (by decide) rfl (fun ls hl => ?_)
      refine lv_iload_n hx hb dX8_either_31 rfl (lv_at hl 2 rfl) ?_
      refine lv_if_ne (tgt := 39) hx hb dX8_either_32 (by decide) (fun c6 => ?_) (fun c6 => ?_)
      · have hw := ifF hw c6
        exact bX8_either_39 E hF0 hF1 hF2 hF3 hF4 hF5 ih hw hh (lv_sub hl [1] rfl)
      · have hw := ifT hw c6
        refine lv_iload_n hx hb dX8_either_35 rfl (lv_at hl 0 rfl) ?_
        refine lv_if_eq (tgt := 43) hx hb dX8_either_36 (by decide) (fun c7 => ?_) (fun c7 => ?_)
        · have hw := ifT hw c7
          refine lv_iconst (v := 0) hx hb dX8_either_43 (by decide) ?_
          exact bX8_either_44 E hF0 hF1 hF2 hF3 hF4 hF5 ih hw hh (lv_sub hl [1] rfl)
        · have hw := ifF hw c7
          exact bX8_either_39 E hF0 hF1 hF2 hF3 hF4 hF5 ih hw hh (lv_sub hl [1] rfl)
def wpX8_either (F : Nat → St → (Int32 → St → Prop) → Prop) (S : St) (K : Int32 → St → Prop) : Prop := F 1 S (fun r1 S1 => ∃ k, wbX8_either_5 F K k r1 S1)
set_option maxRecDepth 4000 in
theorem bX8_either {p : Program} {l : Launch} {e : Env} {R : Room} {s : State} {m : MethodId} {args : Array Value} {below : List Frame} {meth : Method} {c : Code} {D : va_G} {ad : Nat → Nat → Nat} {cs : Nat → ClassId} {P : Nat → Nat → Prop} {sz tU : Nat} {adK adV : Nat → Nat} {F : Nat → St → (Int32 → St → Prop) → Prop} {d : Nat} {K : Int32 → St → Prop} {S : St} {H : Heap} {locs : List Loc} {ls : Array Slot} (E : Ex p s m args meth c R RX8 cX8_either 3 (some .int) (5 + (d + 1)) (151 + 23 * (d + 1)) D ad cs P (wA ad P) tU adK adV cnM) (hF0 : ∀ {S : St} {K : Int32 → St → Prop}, F 0  S K → MI l yX8_either cX8_either 3 (some .int) (5 + d) (151 + 23 * d) D ad cs P sz tU adK adV [.ref (ad 40 0)] S K) (hF1 : ∀ {S : St} {K : Int32 → St → Prop}, F 1  S K → MI l yX8_both cX8_both 3 (some .int) (5 + d) (151 + 23 * d) D ad cs P sz tU adK adV [.ref (ad 40 0)] S K) (hF2 : ∀ {S : St} {K : Int32 → St → Prop}, F 2  S K → MI l yX8_not cX8_not 4 (some .int) (5 + d) (151 + 23 * d) D ad cs P sz tU adK adV [.ref (ad 40 0)] S K) (hF3 : ∀ {S : St} {K : Int32 → St → Prop}, F 3  S K → MI l yX8_added cX8_added 4 (some .int) (5 + d) (151 + 23 * d) D ad cs P sz tU adK adV [.ref (ad 40 0)] S K) (hF4 : ∀ {S : St} {K : Int32 → St → Prop}, F 4  S K → MI l yX8_term cX8_term 2 (some .int) (5 + d) (151 + 23 * d) D ad cs P sz tU adK adV [.ref (ad 40 0)] S K) (hF5 : ∀ {S : St} {K : Int32 → St → Prop}, F 5  S K → MI l yX8_atom cX8_atom 2 (some .int) (5 + d) (151 + 23 * d) D ad cs P sz tU adK adV [.ref (ad 40 0)] S K) (hw : wpX8_either F S K) (hh : wH D ad cs P (wA ad P) s.heap sz S H locs) (hl : lv_has ls 3 [(0, .ref (ad 40 0))]) : W p l e R s m args below meth c H locs 0 0 (MQ below (va_Qi K (QX D ad cs P sz) (wA ad P)) args s 0 0 (wA ad P)) (F0 m 0 ls []) := by
  have hx := E.hx
  have hb := E.hb
  refine lv_aload_n hx hb dX8_either_0 rfl (lv_at hl 0 rfl) ?_
  refine x_ci E.hA hh (x_runV E hh (hF1 hw) kX8_both tb999 (E.hn 40 0 (by decide)) rv_40 ⟨by omega, by omega⟩ rfl hl.1 rfl (Nat.le_of_ble_eq_true rfl) dX8_either_1 ⟨Nat.zero_le _, Nat.zero_le _⟩) (fun r1 S1 H locs hw hh => ?_)
  refine lv_istore_n (lv' := [(1, .int r1), (0, .ref (ad 40 0))]) hx hb dX8_either_4 rfl hl (by decide) rfl (fun ls hl => ?_)
  obtain ⟨k, hw⟩ := hw
  exact bX8_either_5 E hF0 hF1 hF2 hF3 hF4 hF5 k r1 S1 _ _ _ hw hh (lv_sub hl [1, 0] rfl)
def wbX8_both_45 (F : Nat → St → (Int32 → St → Prop) → Prop) (R5 : Int32 → St → Prop) (K : Int32 → St → Prop) (v0 : Int32) (S : St) : Prop := R5 v0 S
set_option maxRecDepth 4000 in
theorem bX8_both_45 {p : Program} {l : Launch} {e : Env} {R : Room} {s : State} {m : MethodId} {args : Array Value} {below : List Frame} {meth : Method} {c : Code} {D : va_G} {ad : Nat → Nat → Nat} {cs : Nat → ClassId} {P : Nat → Nat → Prop} {sz tU : Nat} {adK adV : Nat → Nat} {F : Nat → St → (Int32 → St → Prop) → Prop} {d : Nat} {R5 : Int32 → St → Prop} {K : Int32 → St → Prop} {v0 : Int32} {S : St} {H : Heap} {locs : List Loc} {ls : Array Slot} (E : Ex p s m args meth c R RX8 cX8_both 3 (some .int) (5 + (d + 1)) (151 + 23 * (d + 1)) D ad cs P (wA ad P) tU adK adV cnM) (hF0 : ∀ {S : St} {K : Int32 → St → Prop}, F 0  S K → MI l yX8_either cX8_either 3 (some .int) (5 + d) (151 + 23 * d) D ad cs P sz tU adK adV [.ref (ad 40 0)] S K) (hF1 : ∀ {S : St} {K : Int32 → St → Prop}, F 1  S K → MI l yX8_both cX8_both 3 (some .int) (5 + d) (151 + 23 * d) D ad cs P sz tU adK adV [.ref (ad 40 0)] S K) (hF2 : ∀ {S : St} {K : Int32 → St → Prop}, F 2  S K → MI l yX8_not cX8_not 4 (some .int) (5 + d) (151 + 23 * d) D ad cs P sz tU adK adV [.ref (ad 40 0)] S K) (hF3 : ∀ {S : St} {K : Int32 → St → Prop}, F 3  S K → MI l yX8_added cX8_added 4 (some .int) (5 + d) (151 + 23 * d) D ad cs P sz tU adK adV [.ref (ad 40 0)] S K) (hF4 : ∀ {S : St} {K : Int32 → St → Prop}, F 4  S K → MI l yX8_term cX8_term 2 (some .int) (5 + d) (151 + 23 * d) D ad cs P sz tU adK adV [.ref (ad 40 0)] S K) (hF5 : ∀ {S : St} {K : Int32 → St → Prop}, F 5  S K → MI l yX8_atom cX8_atom 2 (some .int) (5 + d) (151 + 23 * d) D ad cs P sz tU adK adV [.ref (ad 40 0)] S K) (hR5 : ∀ (z1 : Int32) (S : St) (H : Heap) (locs : List Loc) (ls : Array Slot), R5 z1 S → wH D ad cs P (wA ad P) s.heap sz S H locs → lv_has ls 3 [(0, .ref (ad 40 0)), (1, .int z1)] → W p l e R s m args below meth c H locs 0 0 (MQ below (va_Qi K (QX D ad cs P sz) (wA ad P)) args s 0 0 (wA ad P)) (F0 m 5 ls [])) (hw : wbX8_both_45 F R5 K v0 S) (hh : wH D ad cs P (wA ad P) s.heap sz S H locs) (hl : lv_has ls 3 [(0, .ref (ad 40 0))]) : W p l e R s m args below meth c H locs 0 0 (MQ below (va_Qi K (QX D ad cs P sz) (wA ad P)) args s 0 0 (wA ad P)) (F0 m 45 ls [.int v0]) := by
  have hx := E.hx
  have hb := E.hb
  refine lv_istore_n (lv' := [(1, .int v0), (0, .ref (ad 40 0))]) hx hb dX8_both_45 rfl hl (by decide) rfl (fun ls hl => ?_)
  refine lv_goto (tgt := 5) hx hb dX8_both_46 (by decide) ?_
  exact hR5 v0 S _ _ _ hw hh (lv_sub hl [1, 0] rfl)
def wbX8_both_44 (F : Nat → St → (Int32 → St → Prop) → Prop) (R5 : Int32 → St → Prop) (K : Int32 → St → Prop) (S : St) : Prop := wbX8_both_45 F R5 K 0 S
set_option maxRecDepth 4000 in
theorem bX8_both_44 {p : Program} {l : Launch} {e : Env} {R : Room} {s : State} {m : MethodId} {args : Array Value} {below : List Frame} {meth : Method} {c : Code} {D : va_G} {ad : Nat → Nat → Nat} {cs : Nat → ClassId} {P : Nat → Nat → Prop} {sz tU : Nat} {adK adV : Nat → Nat} {F : Nat → St → (Int32 → St → Prop) → Prop} {d : Nat} {R5 : Int32 → St → Prop} {K : Int32 → St → Prop} {S : St} {H : Heap} {locs : List Loc} {ls : Array Slot} (E : Ex p s m args meth c R RX8 cX8_both 3 (some .int) (5 + (d + 1)) (151 + 23 * (d + 1)) D ad cs P (wA ad P) tU adK adV cnM) (hF0 : ∀ {S : St} {K : Int32 → St → Prop}, F 0  S K → MI l yX8_either cX8_either 3 (some .int) (5 + d) (151 + 23 * d) D ad cs P sz tU adK adV [.ref (ad 40 0)] S K) (hF1 : ∀ {S : St} {K : Int32 → St → Prop}, F 1  S K → MI l yX8_both cX8_both 3 (some .int) (5 + d) (151 + 23 * d) D ad cs P sz tU adK adV [.ref (ad 40 0)] S K) (hF2 : ∀ {S : St} {K : Int32 → St → Prop}, F 2  S K → MI l yX8_not cX8_not 4 (some .int) (5 + d) (151 + 23 * d) D ad cs P sz tU adK adV [.ref (ad 40 0)] S K) (hF3 : ∀ {S : St} {K : Int32 → St → Prop}, F 3  S K → MI l yX8_added cX8_added 4 (some .int) (5 + d) (151 + 23 * d) D ad cs P sz tU adK adV [.ref (ad 40 0)] S K) (hF4 : ∀ {S : St} {K : Int32 → St → Prop}, F 4  S K → MI l yX8_term cX8_term 2 (some .int) (5 + d) (151 + 23 * d) D ad cs P sz tU adK adV [.ref (ad 40 0)] S K) (hF5 : ∀ {S : St} {K : Int32 → St → Prop}, F 5  S K → MI l yX8_atom cX8_atom 2 (some .int) (5 + d) (151 + 23 * d) D ad cs P sz tU adK adV [.ref (ad 40 0)] S K) (hR5 : ∀ (z1 : Int32) (S : St) (H : Heap) (locs : List Loc) (ls : Array Slot), R5 z1 S → wH D ad cs P (wA ad P) s.heap sz S H locs → lv_has ls 3 [(0, .ref (ad 40 0)), (1, .int z1)] → W p l e R s m args below meth c H locs 0 0 (MQ below (va_Qi K (QX D ad cs P sz) (wA ad P)) args s 0 0 (wA ad P)) (F0 m 5 ls [])) (hw : wbX8_both_44 F R5 K S) (hh : wH D ad cs P (wA ad P) s.heap sz S H locs) (hl : lv_has ls 3 [(0, .ref (ad 40 0))]) : W p l e R s m args below meth c H locs 0 0 (MQ below (va_Qi K (QX D ad cs P sz) (wA ad P)) args s 0 0 (wA ad P)) (F0 m 44 ls []) := by
  have hx := E.hx
  have hb := E.hb
  refine lv_iconst (v := 0) hx hb dX8_both_44 (by decide) ?_
  exact bX8_both_45 E hF0 hF1 hF2 hF3 hF4 hF5 hR5 hw hh (lv_sub hl [0] rfl)
def wbX8_both_5 (F : Nat → St → (Int32 → St → Prop) → Prop) (K : Int32 → St → Prop) : Nat → Int32 → St → Prop
  | 0, _, _ => False
  | n + 1, x1, S => wpX8_isWord 97 110 100 0 0 0 0 0 S (fun r2 S2 => if r2 = 0 then (K x1 S2) else (wpX8_next S2 (fun S4 => F 2 S4 (fun r5 S5 => if x1 = 0 then (wbX8_both_44 F (fun yx1 S9 => wbX8_both_5 F K n yx1 S9) K S5) else (if r5 = 0 then (wbX8_both_44 F (fun yx1 S9 => wbX8_both_5 F K n yx1 S9) K S5) else (wbX8_both_45 F (fun yx1 S9 => wbX8_both_5 F K n yx1 S9) K 1 S5))))))
set_option maxRecDepth 4000 in
theorem bX8_both_5 {p : Program} {l : Launch} {e : Env} {R : Room} {s : State} {m : MethodId} {args : Array Value} {below : List Frame} {meth : Method} {c : Code} {D : va_G} {ad : Nat → Nat → Nat} {cs : Nat → ClassId} {P : Nat → Nat → Prop} {sz tU : Nat} {adK adV : Nat → Nat} {F : Nat → St → (Int32 → St → Prop) → Prop} {d : Nat} {K : Int32 → St → Prop} (E : Ex p s m args meth c R RX8 cX8_both 3 (some .int) (5 + (d + 1)) (151 + 23 * (d + 1)) D ad cs P (wA ad P) tU adK adV cnM) (hF0 : ∀ {S : St} {K : Int32 → St → Prop}, F 0  S K → MI l yX8_either cX8_either 3 (some .int) (5 + d) (151 + 23 * d) D ad cs P sz tU adK adV [.ref (ad 40 0)] S K) (hF1 : ∀ {S : St} {K : Int32 → St → Prop}, F 1  S K → MI l yX8_both cX8_both 3 (some .int) (5 + d) (151 + 23 * d) D ad cs P sz tU adK adV [.ref (ad 40 0)] S K) (hF2 : ∀ {S : St} {K : Int32 → St → Prop}, F 2  S K → MI l yX8_not cX8_not 4 (some .int) (5 + d) (151 + 23 * d) D ad cs P sz tU adK adV [.ref (ad 40 0)] S K) (hF3 : ∀ {S : St} {K : Int32 → St → Prop}, F 3  S K → MI l yX8_added cX8_added 4 (some .int) (5 + d) (151 + 23 * d) D ad cs P sz tU adK adV [.ref (ad 40 0)] S K) (hF4 : ∀ {S : St} {K : Int32 → St → Prop}, F 4  S K → MI l yX8_term cX8_term 2 (some .int) (5 + d) (151 + 23 * d) D ad cs P sz tU adK adV [.ref (ad 40 0)] S K) (hF5 : ∀ {S : St} {K : Int32 → St → Prop}, F 5  S K → MI l yX8_atom cX8_atom 2 (some .int) (5 + d) (151 + 23 * d) D ad cs P sz tU adK adV [.ref (ad 40 0)] S K) : ∀ (n : Nat) (x1 : Int32) (S : St) (H : Heap) (locs : List Loc) (ls : Array Slot), wbX8_both_5 F K n x1 S → wH D ad cs P (wA ad P) s.heap sz S H locs → lv_has ls 3 [(0, .ref (ad 40 0)), (1, .int x1)] → W p l e R s m args below meth c H locs 0 0 (MQ below (va_Qi K (QX D ad cs P sz) (wA ad P)) args s 0 0 (wA ad P)) (F0 m 5 ls []) := by
  have hx := E.hx
  have hb := E.hb
  intro n
  induction n with
  | zero => intro x1 S H locs ls hw hh hl; exact hw.elim
  | succ n ih =>
    intro x1 S H locs ls hw hh hl
    refine lv_aload_n hx hb dX8_both_5 rfl (lv_at hl 0 rfl) ?_
    refine lv_bipush (v := 97) hx hb dX8_both_6 (by decide) ?_
    refine lv_bipush (v := 110) hx hb dX8_both_8 (by decide) ?_
    refine lv_bipush (v := 100) hx hb dX8_both_10 (by decide) ?_
    refine lv_iconst (v := 0) hx hb dX8_both_12 (by decide) ?_
    refine lv_iconst (v := 0) hx hb dX8_both_13 (by decide) ?_
    refine lv_iconst (v := 0) hx hb dX8_both_14 (by decide) ?_
    refine lv_iconst (v := 0) hx hb dX8_both_15 (by decide) ?_
    refine lv_iconst (v := 0) hx hb dX8_both_16 (by decide) ?_
    refine x_ci E.hA hh (x_runV E hh (mX8_isWord E.hI E.hn hw) kX8_isWord tb979 (E.hn 40 0 (by decide)) rv_40 ⟨by omega, by omega⟩ rfl hl.1 rfl (Nat.le_of_ble_eq_true rfl) dX8_both_17 ⟨Nat.zero_le _, Nat.zero_le _⟩) (fun r2 S2 H locs hw hh => ?_)
    have hq2 := hw.2
    have hw := hw.1
    refine lv_if_eq (tgt := 49) hx hb dX8_both_20 (by decide) (fun c3 => ?_) (fun c3 => ?_)
    · have hw := ifT hw c3
      refine lv_iload_n hx hb dX8_both_49 rfl (lv_at hl 1 rfl) ?_
      exact x_iret E hh hw dX8_both_50
    · have hw := ifF hw c3
      refine lv_aload_n hx hb dX8_both_23 rfl (lv_at hl 0 rfl) ?_
      refine x_cv E.hA hh (x_runV E hh (mX8_next E.hI E.hn hw) kX8_next tb966 (E.hn 40 0 (by decide)) rv_40 ⟨by omega, by omega⟩ rfl hl.1 rfl (Nat.le_of_ble_eq_true rfl) dX8_both_24 ⟨Nat.zero_le _, Nat.zero_le _⟩) (fun S4 H locs hw hh => ?_)
      refine lv_aload_n hx hb dX8_both_27 rfl (lv_at hl 0 rfl) ?_
      refine x_ci E.hA hh (x_runV E hh (hF2 hw) kX8_not tb1003 (E.hn 40 0 (by decide)) rv_40 ⟨by omega, by omega⟩ rfl hl.1 rfl (Nat.le_of_ble_eq_true rfl) dX8_both_28 ⟨Nat.zero_le _, Nat.zero_le _⟩) (fun r5 S5 H locs hw hh => ?_)
      refine lv_istore_n (lv' := [(2, .int r5), (0, .ref (ad 40 0)), (1, .int x1)]) hx hb dX8_both_31 rfl hl (by decide) rfl (fun ls hl => ?_)
      refine lv_iload_n hx hb dX8_both_32 rfl (lv_at hl 2 rfl) ?_
      refine lv_if_eq (tgt := 44) hx hb dX8_both_33 (by decide) (fun c6 => ?_) (fun c6 => ?_)
      · have hw := ifT hw c6
        exact bX8_both_44 E hF0 hF1 hF2 hF3 hF4 hF5 ih hw hh (lv_sub hl [1] rfl)
      · have hw := ifF hw c6
        refine lv_iload_n hx hb dX8_both_36 rfl (lv_at hl 0 rfl) ?_
        refine lv_if_eq (tgt := 44) hx hb dX8_both_37 (by decide) (fun c7 => ?_) (fun c7 => ?_)
        · have hw := ifT hw c7
          exact bX8_both_44 E hF0 hF1 hF2 hF3 hF4 hF5 ih hw hh (lv_sub hl [1] rfl)
        · have hw := ifF hw c7
          refine lv_iconst (v := 1) hx hb dX8_both_40 (by decide) ?_
          refine lv_goto (tgt := 45) hx hb dX8_both_41 (by decide) ?_
          exact bX8_both_45 E hF0 hF1 hF2 hF3 hF4 hF5 ih hw hh (lv_sub hl [1] rfl)
def wpX8_both (F : Nat → St → (Int32 → St → Prop) → Prop) (S : St) (K : Int32 → St → Prop) : Prop := F 2 S (fun r1 S1 => ∃ k, wbX8_both_5 F K k r1 S1)
set_option maxRecDepth 4000 in
theorem bX8_both {p : Program} {l : Launch} {e : Env} {R : Room} {s : State} {m : MethodId} {args : Array Value} {below : List Frame} {meth : Method} {c : Code} {D : va_G} {ad : Nat → Nat → Nat} {cs : Nat → ClassId} {P : Nat → Nat → Prop} {sz tU : Nat} {adK adV : Nat → Nat} {F : Nat → St → (Int32 → St → Prop) → Prop} {d : Nat} {K : Int32 → St → Prop} {S : St} {H : Heap} {locs : List Loc} {ls : Array Slot} (E : Ex p s m args meth c R RX8 cX8_both 3 (some .int) (5 + (d + 1)) (151 + 23 * (d + 1)) D ad cs P (wA ad P) tU adK adV cnM) (hF0 : ∀ {S : St} {K : Int32 → St → Prop}, F 0  S K → MI l yX8_either cX8_either 3 (some .int) (5 + d) (151 + 23 * d) D ad cs P sz tU adK adV [.ref (ad 40 0)] S K) (hF1 : ∀ {S : St} {K : Int32 → St → Prop}, F 1  S K → MI l yX8_both cX8_both 3 (some .int) (5 + d) (151 + 23 * d) D ad cs P sz tU adK adV [.ref (ad 40 0)] S K) (hF2 : ∀ {S : St} {K : Int32 → St → Prop}, F 2  S K → MI l yX8_not cX8_not 4 (some .int) (5 + d) (151 + 23 * d) D ad cs P sz tU adK adV [.ref (ad 40 0)] S K) (hF3 : ∀ {S : St} {K : Int32 → St → Prop}, F 3  S K → MI l yX8_added cX8_added 4 (some .int) (5 + d) (151 + 23 * d) D ad cs P sz tU adK adV [.ref (ad 40 0)] S K) (hF4 : ∀ {S : St} {K : Int32 → St → Prop}, F 4  S K → MI l yX8_term cX8_term 2 (some .int) (5 + d) (151 + 23 * d) D ad cs P sz tU adK adV [.ref (ad 40 0)] S K) (hF5 : ∀ {S : St} {K : Int32 → St → Prop}, F 5  S K → MI l yX8_atom cX8_atom 2 (some .int) (5 + d) (151 + 23 * d) D ad cs P sz tU adK adV [.ref (ad 40 0)] S K) (hw : wpX8_both F S K) (hh : wH D ad cs P (wA ad P) s.heap sz S H locs) (hl : lv_has ls 3 [(0, .ref (ad 40 0))]) : W p l e R s m args below meth c H locs 0 0 (MQ below (va_Qi K (QX D ad cs P sz) (wA ad P)) args s 0 0 (wA ad P)) (F0 m 0 ls []) := by
  have hx := E.hx
  have hb := E.hb
  refine lv_aload_n hx hb dX8_both_0 rfl (lv_at hl 0 rfl) ?_
  refine x_ci E.hA hh (x_runV E hh (hF2 hw) kX8_not tb1003 (E.hn 40 0 (by decide)) rv_40 ⟨by omega, by omega⟩ rfl hl.1 rfl (Nat.le_of_ble_eq_true rfl) dX8_both_1 ⟨Nat.zero_le _, Nat.zero_le _⟩) (fun r1 S1 H locs hw hh => ?_)
  refine lv_istore_n (lv' := [(1, .int r1), (0, .ref (ad 40 0))]) hx hb dX8_both_4 rfl hl (by decide) rfl (fun ls hl => ?_)
  obtain ⟨k, hw⟩ := hw
  exact bX8_both_5 E hF0 hF1 hF2 hF3 hF4 hF5 k r1 S1 _ _ _ hw hh (lv_sub hl [1, 0] rfl)
def wbX8_not_120 (F : Nat → St → (Int32 → St → Prop) → Prop) (K : Int32 → St → Prop) (S : St) : Prop := K 1 S
set_option maxRecDepth 4000 in
theorem bX8_not_120 {p : Program} {l : Launch} {e : Env} {R : Room} {s : State} {m : MethodId} {args : Array Value} {below : List Frame} {meth : Method} {c : Code} {D : va_G} {ad : Nat → Nat → Nat} {cs : Nat → ClassId} {P : Nat → Nat → Prop} {sz tU : Nat} {adK adV : Nat → Nat} {F : Nat → St → (Int32 → St → Prop) → Prop} {d : Nat} {K : Int32 → St → Prop} {S : St} {H : Heap} {locs : List Loc} {ls : Array Slot} (E : Ex p s m args meth c R RX8 cX8_not 4 (some .int) (5 + (d + 1)) (151 + 23 * (d + 1)) D ad cs P (wA ad P) tU adK adV cnM) (hF0 : ∀ {S : St} {K : Int32 → St → Prop}, F 0  S K → MI l yX8_either cX8_either 3 (some .int) (5 + d) (151 + 23 * d) D ad cs P sz tU adK adV [.ref (ad 40 0)] S K) (hF1 : ∀ {S : St} {K : Int32 → St → Prop}, F 1  S K → MI l yX8_both cX8_both 3 (some .int) (5 + d) (151 + 23 * d) D ad cs P sz tU adK adV [.ref (ad 40 0)] S K) (hF2 : ∀ {S : St} {K : Int32 → St → Prop}, F 2  S K → MI l yX8_not cX8_not 4 (some .int) (5 + d) (151 + 23 * d) D ad cs P sz tU adK adV [.ref (ad 40 0)] S K) (hF3 : ∀ {S : St} {K : Int32 → St → Prop}, F 3  S K → MI l yX8_added cX8_added 4 (some .int) (5 + d) (151 + 23 * d) D ad cs P sz tU adK adV [.ref (ad 40 0)] S K) (hF4 : ∀ {S : St} {K : Int32 → St → Prop}, F 4  S K → MI l yX8_term cX8_term 2 (some .int) (5 + d) (151 + 23 * d) D ad cs P sz tU adK adV [.ref (ad 40 0)] S K) (hF5 : ∀ {S : St} {K : Int32 → St → Prop}, F 5  S K → MI l yX8_atom cX8_atom 2 (some .int) (5 + d) (151 + 23 * d) D ad cs P sz tU adK adV [.ref (ad 40 0)] S K) (hw : wbX8_not_120 F K S) (hh : wH D ad cs P (wA ad P) s.heap sz S H locs) (hl : lv_has ls 4 []) : W p l e R s m args below meth c H locs 0 0 (MQ below (va_Qi K (QX D ad cs P sz) (wA ad P)) args s 0 0 (wA ad P)) (F0 m 120 ls []) := by
  have hx := E.hx
  have hb := E.hb
  refine lv_iconst (v := 1) hx hb dX8_not_120 (by decide) ?_
  refine lv_goto (tgt := 125) hx hb dX8_not_121 (by decide) ?_
  exact x_iret E hh hw dX8_not_125
def wbX8_not_93 (F : Nat → St → (Int32 → St → Prop) → Prop) (K : Int32 → St → Prop) (x1 : Int32) (v0 : Int32) (S : St) : Prop := wpX8_next S (fun S14 => F 3 S14 (fun r15 S15 => if v0 = 0 then (if x1 = r15 then (wbX8_not_120 F K S15) else (K 0 S15)) else (if r15 ≤ x1 then (K 0 S15) else (wbX8_not_120 F K S15))))
set_option maxRecDepth 4000 in
theorem bX8_not_93 {p : Program} {l : Launch} {e : Env} {R : Room} {s : State} {m : MethodId} {args : Array Value} {below : List Frame} {meth : Method} {c : Code} {D : va_G} {ad : Nat → Nat → Nat} {cs : Nat → ClassId} {P : Nat → Nat → Prop} {sz tU : Nat} {adK adV : Nat → Nat} {F : Nat → St → (Int32 → St → Prop) → Prop} {d : Nat} {K : Int32 → St → Prop} {x1 : Int32} {v0 : Int32} {S : St} {H : Heap} {locs : List Loc} {ls : Array Slot} (E : Ex p s m args meth c R RX8 cX8_not 4 (some .int) (5 + (d + 1)) (151 + 23 * (d + 1)) D ad cs P (wA ad P) tU adK adV cnM) (hF0 : ∀ {S : St} {K : Int32 → St → Prop}, F 0  S K → MI l yX8_either cX8_either 3 (some .int) (5 + d) (151 + 23 * d) D ad cs P sz tU adK adV [.ref (ad 40 0)] S K) (hF1 : ∀ {S : St} {K : Int32 → St → Prop}, F 1  S K → MI l yX8_both cX8_both 3 (some .int) (5 + d) (151 + 23 * d) D ad cs P sz tU adK adV [.ref (ad 40 0)] S K) (hF2 : ∀ {S : St} {K : Int32 → St → Prop}, F 2  S K → MI l yX8_not cX8_not 4 (some .int) (5 + d) (151 + 23 * d) D ad cs P sz tU adK adV [.ref (ad 40 0)] S K) (hF3 : ∀ {S : St} {K : Int32 → St → Prop}, F 3  S K → MI l yX8_added cX8_added 4 (some .int) (5 + d) (151 + 23 * d) D ad cs P sz tU adK adV [.ref (ad 40 0)] S K) (hF4 : ∀ {S : St} {K : Int32 → St → Prop}, F 4  S K → MI l yX8_term cX8_term 2 (some .int) (5 + d) (151 + 23 * d) D ad cs P sz tU adK adV [.ref (ad 40 0)] S K) (hF5 : ∀ {S : St} {K : Int32 → St → Prop}, F 5  S K → MI l yX8_atom cX8_atom 2 (some .int) (5 + d) (151 + 23 * d) D ad cs P sz tU adK adV [.ref (ad 40 0)] S K) (hw : wbX8_not_93 F K x1 v0 S) (hh : wH D ad cs P (wA ad P) s.heap sz S H locs) (hl : lv_has ls 4 [(0, .ref (ad 40 0)), (1, .int x1)]) : W p l e R s m args below meth c H locs 0 0 (MQ below (va_Qi K (QX D ad cs P sz) (wA ad P)) args s 0 0 (wA ad P)) (F0 m 93 ls [.int v0]) := by
  have hx := E.hx
  have hb := E.hb
  refine lv_istore_n (lv' := [(2, .int v0), (0, .ref (ad 40 0)), (1, .int x1)]) hx hb dX8_not_93 rfl hl (by decide) rfl (fun ls hl => ?_)
  refine lv_aload_n hx hb dX8_not_94 rfl (lv_at hl 1 rfl) ?_
  refine x_cv E.hA hh (x_runV E hh (mX8_next E.hI E.hn hw) kX8_next tb966 (E.hn 40 0 (by decide)) rv_40 ⟨by omega, by omega⟩ rfl hl.1 rfl (Nat.le_of_ble_eq_true rfl) dX8_not_95 ⟨Nat.zero_le _, Nat.zero_le _⟩) (fun S14 H locs hw hh => ?_)
  refine lv_aload_n hx hb dX8_not_98 rfl (lv_at hl 1 rfl) ?_
  refine x_ci E.hA hh (x_runV E hh (hF3 hw) kX8_added tb1011 (E.hn 40 0 (by decide)) rv_40 ⟨by omega, by omega⟩ rfl hl.1 rfl (Nat.le_of_ble_eq_true rfl) dX8_not_99 ⟨Nat.zero_le _, Nat.zero_le _⟩) (fun r15 S15 H locs hw hh => ?_)
  refine lv_istore_n (lv' := [(3, .int r15), (2, .int v0), (0, .ref (ad 40 0)), (1, .int x1)]) hx hb dX8_not_102 rfl hl (by decide) rfl (fun ls hl => ?_)
  refine lv_iload_n hx hb dX8_not_103 rfl (lv_at hl 1 rfl) ?_
  refine lv_if_eq (tgt := 115) hx hb dX8_not_104 (by decide) (fun c16 => ?_) (fun c16 => ?_)
  · have hw := ifT hw c16
    refine lv_iload_n hx hb dX8_not_115 rfl (lv_at hl 3 rfl) ?_
    refine lv_iload_n hx hb dX8_not_116 rfl (lv_at hl 0 rfl) ?_
    refine lv_icmp_ne (tgt := 124) hx hb dX8_not_117 (by decide) (fun c17 => ?_) (fun c17 => ?_)
    · have hw := ifF hw c17
      refine lv_iconst (v := 0) hx hb dX8_not_124 (by decide) ?_
      exact x_iret E hh hw dX8_not_125
    · have hw := ifT hw c17
      exact bX8_not_120 E hF0 hF1 hF2 hF3 hF4 hF5 hw hh (lv_sub hl [] rfl)
  · have hw := ifF hw c16
    refine lv_iload_n hx hb dX8_not_107 rfl (lv_at hl 3 rfl) ?_
    refine lv_iload_n hx hb dX8_not_108 rfl (lv_at hl 0 rfl) ?_
    refine lv_icmp_ge (tgt := 124) hx hb dX8_not_109 (by decide) (fun c18 => ?_) (fun c18 => ?_)
    · have hw := ifT hw c18
      refine lv_iconst (v := 0) hx hb dX8_not_124 (by decide) ?_
      exact x_iret E hh hw dX8_not_125
    · have hw := ifF hw c18
      refine lv_goto (tgt := 120) hx hb dX8_not_112 (by decide) ?_
      exact bX8_not_120 E hF0 hF1 hF2 hF3 hF4 hF5 hw hh (lv_sub hl [] rfl)
def wbX8_not_77 (F : Nat → St → (Int32 → St → Prop) → Prop) (K : Int32 → St → Prop) (x1 : Int32) (S : St) : Prop := if (lg_cmp (sw S 40 0) 60) = 0 then (wbX8_not_93 F K x1 1 S) else (wbX8_not_93 F K x1 0 S)
set_option maxRecDepth 4000 in
theorem bX8_not_77 {p : Program} {l : Launch} {e : Env} {R : Room} {s : State} {m : MethodId} {args : Array Value} {below : List Frame} {meth : Method} {c : Code} {D : va_G} {ad : Nat → Nat → Nat} {cs : Nat → ClassId} {P : Nat → Nat → Prop} {sz tU : Nat} {adK adV : Nat → Nat} {F : Nat → St → (Int32 → St → Prop) → Prop} {d : Nat} {K : Int32 → St → Prop} {x1 : Int32} {S : St} {H : Heap} {locs : List Loc} {ls : Array Slot} (E : Ex p s m args meth c R RX8 cX8_not 4 (some .int) (5 + (d + 1)) (151 + 23 * (d + 1)) D ad cs P (wA ad P) tU adK adV cnM) (hF0 : ∀ {S : St} {K : Int32 → St → Prop}, F 0  S K → MI l yX8_either cX8_either 3 (some .int) (5 + d) (151 + 23 * d) D ad cs P sz tU adK adV [.ref (ad 40 0)] S K) (hF1 : ∀ {S : St} {K : Int32 → St → Prop}, F 1  S K → MI l yX8_both cX8_both 3 (some .int) (5 + d) (151 + 23 * d) D ad cs P sz tU adK adV [.ref (ad 40 0)] S K) (hF2 : ∀ {S : St} {K : Int32 → St → Prop}, F 2  S K → MI l yX8_not cX8_not 4 (some .int) (5 + d) (151 + 23 * d) D ad cs P sz tU adK adV [.ref (ad 40 0)] S K) (hF3 : ∀ {S : St} {K : Int32 → St → Prop}, F 3  S K → MI l yX8_added cX8_added 4 (some .int) (5 + d) (151 + 23 * d) D ad cs P sz tU adK adV [.ref (ad 40 0)] S K) (hF4 : ∀ {S : St} {K : Int32 → St → Prop}, F 4  S K → MI l yX8_term cX8_term 2 (some .int) (5 + d) (151 + 23 * d) D ad cs P sz tU adK adV [.ref (ad 40 0)] S K) (hF5 : ∀ {S : St} {K : Int32 → St → Prop}, F 5  S K → MI l yX8_atom cX8_atom 2 (some .int) (5 + d) (151 + 23 * d) D ad cs P sz tU adK adV [.ref (ad 40 0)] S K) (hw : wbX8_not_77 F K x1 S) (hh : wH D ad cs P (wA ad P) s.heap sz S H locs) (hl : lv_has ls 4 [(0, .ref (ad 40 0)), (1, .int x1)]) : W p l e R s m args below meth c H locs 0 0 (MQ below (va_Qi K (QX D ad cs P sz) (wA ad P)) args s 0 0 (wA ad P)) (F0 m 77 ls []) := by
  have hx := E.hx
  have hb := E.hb
  refine lv_aload_n hx hb dX8_not_77 rfl (lv_at hl 0 rfl) ?_
  refine g_40_28 E hh tb762 (E.hn 40 0 (by decide)) dX8_not_78 ?_
  refine lv_ldc2 (v := 60) hx hb E.hown (E.hts _ tb1032) dX8_not_81 ?_
  refine W.lcmp hx hb dX8_not_84 ?_
  refine lv_if_ne (tgt := 92) hx hb dX8_not_85 (by decide) (fun c13 => ?_) (fun c13 => ?_)
  · have hw := ifF hw c13
    refine lv_iconst (v := 0) hx hb dX8_not_92 (by decide) ?_
    exact bX8_not_93 E hF0 hF1 hF2 hF3 hF4 hF5 hw hh (lv_sub hl [0, 1] rfl)
  · have hw := ifT hw c13
    refine lv_iconst (v := 1) hx hb dX8_not_88 (by decide) ?_
    refine lv_goto (tgt := 93) hx hb dX8_not_89 (by decide) ?_
    exact bX8_not_93 E hF0 hF1 hF2 hF3 hF4 hF5 hw hh (lv_sub hl [0, 1] rfl)
def wpX8_not (F : Nat → St → (Int32 → St → Prop) → Prop) (S : St) (K : Int32 → St → Prop) : Prop := wpX8_isWord 110 111 116 0 0 0 0 0 S (fun r1 S1 => if r1 = 0 then (F 3 S1 (fun r3 S3 => wpX8_isSign 60 S3 (fun r4 S4 => if r4 = 0 then (wpX8_isSign 61 S4 (fun r6 S6 => if r6 = 0 then (K r3 S6) else (wbX8_not_77 F K r3 S6))) else (wbX8_not_77 F K r3 S4)))) else (wpX8_opens S1 (fun r8 S8 => if r8 = 0 then (K 0 S8) else (F 2 S8 (fun r10 S10 => (∀ S11, S11 = su S10 40 0 29 ((S10.1 40 0 29) - 1) → if r10 = 0 then (K 1 S11) else (K 0 S11)))))))
set_option maxRecDepth 4000 in
theorem bX8_not {p : Program} {l : Launch} {e : Env} {R : Room} {s : State} {m : MethodId} {args : Array Value} {below : List Frame} {meth : Method} {c : Code} {D : va_G} {ad : Nat → Nat → Nat} {cs : Nat → ClassId} {P : Nat → Nat → Prop} {sz tU : Nat} {adK adV : Nat → Nat} {F : Nat → St → (Int32 → St → Prop) → Prop} {d : Nat} {K : Int32 → St → Prop} {S : St} {H : Heap} {locs : List Loc} {ls : Array Slot} (E : Ex p s m args meth c R RX8 cX8_not 4 (some .int) (5 + (d + 1)) (151 + 23 * (d + 1)) D ad cs P (wA ad P) tU adK adV cnM) (hF0 : ∀ {S : St} {K : Int32 → St → Prop}, F 0  S K → MI l yX8_either cX8_either 3 (some .int) (5 + d) (151 + 23 * d) D ad cs P sz tU adK adV [.ref (ad 40 0)] S K) (hF1 : ∀ {S : St} {K : Int32 → St → Prop}, F 1  S K → MI l yX8_both cX8_both 3 (some .int) (5 + d) (151 + 23 * d) D ad cs P sz tU adK adV [.ref (ad 40 0)] S K) (hF2 : ∀ {S : St} {K : Int32 → St → Prop}, F 2  S K → MI l yX8_not cX8_not 4 (some .int) (5 + d) (151 + 23 * d) D ad cs P sz tU adK adV [.ref (ad 40 0)] S K) (hF3 : ∀ {S : St} {K : Int32 → St → Prop}, F 3  S K → MI l yX8_added cX8_added 4 (some .int) (5 + d) (151 + 23 * d) D ad cs P sz tU adK adV [.ref (ad 40 0)] S K) (hF4 : ∀ {S : St} {K : Int32 → St → Prop}, F 4  S K → MI l yX8_term cX8_term 2 (some .int) (5 + d) (151 + 23 * d) D ad cs P sz tU adK adV [.ref (ad 40 0)] S K) (hF5 : ∀ {S : St} {K : Int32 → St → Prop}, F 5  S K → MI l yX8_atom cX8_atom 2 (some .int) (5 + d) (151 + 23 * d) D ad cs P sz tU adK adV [.ref (ad 40 0)] S K) (hw : wpX8_not F S K) (hh : wH D ad cs P (wA ad P) s.heap sz S H locs) (hl : lv_has ls 4 [(0, .ref (ad 40 0))]) : W p l e R s m args below meth c H locs 0 0 (MQ below (va_Qi K (QX D ad cs P sz) (wA ad P)) args s 0 0 (wA ad P)) (F0 m 0 ls []) := by
  have hx := E.hx
  have hb := E.hb
  refine lv_aload_n hx hb dX8_not_0 rfl (lv_at hl 0 rfl) ?_
  refine lv_bipush (v := 110) hx hb dX8_not_1 (by decide) ?_
  refine lv_bipush (v := 111) hx hb dX8_not_3 (by decide) ?_
  refine lv_bipush (v := 116) hx hb dX8_not_5 (by decide) ?_
  refine lv_iconst (v := 0) hx hb dX8_not_7 (by decide) ?_
  refine lv_iconst (v := 0) hx hb dX8_not_8 (by decide) ?_
  refine lv_iconst (v := 0) hx hb dX8_not_9 (by decide) ?_
  refine lv_iconst (v := 0) hx hb dX8_not_10 (by decide) ?_
  refine lv_iconst (v := 0) hx hb dX8_not_11 (by decide) ?_
  refine x_ci E.hA hh (x_runV E hh (mX8_isWord E.hI E.hn hw) kX8_isWord tb979 (E.hn 40 0 (by decide)) rv_40 ⟨by omega, by omega⟩ rfl hl.1 rfl (Nat.le_of_ble_eq_true rfl) dX8_not_12 ⟨Nat.zero_le _, Nat.zero_le _⟩) (fun r1 S1 H locs hw hh => ?_)
  have hq1 := hw.2
  have hw := hw.1
  refine lv_if_eq (tgt := 52) hx hb dX8_not_15 (by decide) (fun c2 => ?_) (fun c2 => ?_)
  · have hw := ifT hw c2
    refine lv_aload_n hx hb dX8_not_52 rfl (lv_at hl 0 rfl) ?_
    refine x_ci E.hA hh (x_runV E hh (hF3 hw) kX8_added tb1011 (E.hn 40 0 (by decide)) rv_40 ⟨by omega, by omega⟩ rfl hl.1 rfl (Nat.le_of_ble_eq_true rfl) dX8_not_53 ⟨Nat.zero_le _, Nat.zero_le _⟩) (fun r3 S3 H locs hw hh => ?_)
    refine lv_istore_n (lv' := [(1, .int r3), (0, .ref (ad 40 0))]) hx hb dX8_not_56 rfl hl (by decide) rfl (fun ls hl => ?_)
    refine lv_aload_n hx hb dX8_not_57 rfl (lv_at hl 1 rfl) ?_
    refine lv_bipush (v := 60) hx hb dX8_not_58 (by decide) ?_
    refine x_ci E.hA hh (x_runV E hh (mX8_isSign E.hI E.hn hw) kX8_isSign tb1023 (E.hn 40 0 (by decide)) rv_40 ⟨by omega, by omega⟩ rfl hl.1 rfl (Nat.le_of_ble_eq_true rfl) dX8_not_60 ⟨Nat.zero_le _, Nat.zero_le _⟩) (fun r4 S4 H locs hw hh => ?_)
    have hq4 := hw.2
    have hw := hw.1
    refine lv_if_ne (tgt := 77) hx hb dX8_not_63 (by decide) (fun c5 => ?_) (fun c5 => ?_)
    · have hw := ifF hw c5
      exact bX8_not_77 E hF0 hF1 hF2 hF3 hF4 hF5 hw hh (lv_sub hl [1, 0] rfl)
    · have hw := ifT hw c5
      refine lv_aload_n hx hb dX8_not_66 rfl (lv_at hl 1 rfl) ?_
      refine lv_bipush (v := 61) hx hb dX8_not_67 (by decide) ?_
      refine x_ci E.hA hh (x_runV E hh (mX8_isSign E.hI E.hn hw) kX8_isSign tb1023 (E.hn 40 0 (by decide)) rv_40 ⟨by omega, by omega⟩ rfl hl.1 rfl (Nat.le_of_ble_eq_true rfl) dX8_not_69 ⟨Nat.zero_le _, Nat.zero_le _⟩) (fun r6 S6 H locs hw hh => ?_)
      have hq6 := hw.2
      have hw := hw.1
      refine lv_if_ne (tgt := 77) hx hb dX8_not_72 (by decide) (fun c7 => ?_) (fun c7 => ?_)
      · have hw := ifF hw c7
        exact bX8_not_77 E hF0 hF1 hF2 hF3 hF4 hF5 hw hh (lv_sub hl [1, 0] rfl)
      · have hw := ifT hw c7
        refine lv_iload_n hx hb dX8_not_75 rfl (lv_at hl 0 rfl) ?_
        exact x_iret E hh hw dX8_not_76
  · have hw := ifF hw c2
    refine lv_aload_n hx hb dX8_not_18 rfl (lv_at hl 0 rfl) ?_
    refine x_ci E.hA hh (x_runV E hh (mX8_opens E.hI E.hn hw) kX8_opens tb1007 (E.hn 40 0 (by decide)) rv_40 ⟨by omega, by omega⟩ rfl hl.1 rfl (Nat.le_of_ble_eq_true rfl) dX8_not_19 ⟨Nat.zero_le _, Nat.zero_le _⟩) (fun r8 S8 H locs hw hh => ?_)
    have hq8 := hw.2
    have hw := hw.1
    refine lv_if_ne (tgt := 27) hx hb dX8_not_22 (by decide) (fun c9 => ?_) (fun c9 => ?_)
    · have hw := ifF hw c9
      refine lv_aload_n hx hb dX8_not_27 rfl (lv_at hl 0 rfl) ?_
      refine x_ci E.hA hh (x_runV E hh (hF2 hw) kX8_not tb1003 (E.hn 40 0 (by decide)) rv_40 ⟨by omega, by omega⟩ rfl hl.1 rfl (Nat.le_of_ble_eq_true rfl) dX8_not_28 ⟨Nat.zero_le _, Nat.zero_le _⟩) (fun r10 S10 H locs hw hh => ?_)
      refine lv_istore_n (lv' := [(1, .int r10), (0, .ref (ad 40 0))]) hx hb dX8_not_31 rfl hl (by decide) rfl (fun ls hl => ?_)
      refine lv_aload_n hx hb dX8_not_32 rfl (lv_at hl 1 rfl) ?_
      refine lv_dup hx hb dX8_not_33 rfl ?_
      refine g_40_29 E hh tb763 (E.hn 40 0 (by decide)) dX8_not_34 ?_
      refine lv_iconst (v := 1) hx hb dX8_not_37 (by decide) ?_
      refine lv_isub hx hb dX8_not_38 ?_
      refine p_40_29 E hh tb763 (E.hn 40 0 (by decide)) dX8_not_39 (fun S11 H locs e11 hh => ?_)
      have hw := hw S11 e11
      refine lv_iload_n hx hb dX8_not_42 rfl (lv_at hl 0 rfl) ?_
      refine lv_if_ne (tgt := 50) hx hb dX8_not_43 (by decide) (fun c12 => ?_) (fun c12 => ?_)
      · have hw := ifF hw c12
        refine lv_iconst (v := 0) hx hb dX8_not_50 (by decide) ?_
        exact x_iret E hh hw dX8_not_51
      · have hw := ifT hw c12
        refine lv_iconst (v := 1) hx hb dX8_not_46 (by decide) ?_
        refine lv_goto (tgt := 51) hx hb dX8_not_47 (by decide) ?_
        exact x_iret E hh hw dX8_not_51
    · have hw := ifT hw c9
      refine lv_iconst (v := 0) hx hb dX8_not_25 (by decide) ?_
      exact x_iret E hh hw dX8_not_26
def wbX8_added_62 (F : Nat → St → (Int32 → St → Prop) → Prop) (R5 : Int32 → St → Prop) (K : Int32 → St → Prop) (v0 : Int32) (S : St) : Prop := R5 v0 S
set_option maxRecDepth 4000 in
theorem bX8_added_62 {p : Program} {l : Launch} {e : Env} {R : Room} {s : State} {m : MethodId} {args : Array Value} {below : List Frame} {meth : Method} {c : Code} {D : va_G} {ad : Nat → Nat → Nat} {cs : Nat → ClassId} {P : Nat → Nat → Prop} {sz tU : Nat} {adK adV : Nat → Nat} {F : Nat → St → (Int32 → St → Prop) → Prop} {d : Nat} {R5 : Int32 → St → Prop} {K : Int32 → St → Prop} {v0 : Int32} {S : St} {H : Heap} {locs : List Loc} {ls : Array Slot} (E : Ex p s m args meth c R RX8 cX8_added 4 (some .int) (5 + (d + 1)) (151 + 23 * (d + 1)) D ad cs P (wA ad P) tU adK adV cnM) (hF0 : ∀ {S : St} {K : Int32 → St → Prop}, F 0  S K → MI l yX8_either cX8_either 3 (some .int) (5 + d) (151 + 23 * d) D ad cs P sz tU adK adV [.ref (ad 40 0)] S K) (hF1 : ∀ {S : St} {K : Int32 → St → Prop}, F 1  S K → MI l yX8_both cX8_both 3 (some .int) (5 + d) (151 + 23 * d) D ad cs P sz tU adK adV [.ref (ad 40 0)] S K) (hF2 : ∀ {S : St} {K : Int32 → St → Prop}, F 2  S K → MI l yX8_not cX8_not 4 (some .int) (5 + d) (151 + 23 * d) D ad cs P sz tU adK adV [.ref (ad 40 0)] S K) (hF3 : ∀ {S : St} {K : Int32 → St → Prop}, F 3  S K → MI l yX8_added cX8_added 4 (some .int) (5 + d) (151 + 23 * d) D ad cs P sz tU adK adV [.ref (ad 40 0)] S K) (hF4 : ∀ {S : St} {K : Int32 → St → Prop}, F 4  S K → MI l yX8_term cX8_term 2 (some .int) (5 + d) (151 + 23 * d) D ad cs P sz tU adK adV [.ref (ad 40 0)] S K) (hF5 : ∀ {S : St} {K : Int32 → St → Prop}, F 5  S K → MI l yX8_atom cX8_atom 2 (some .int) (5 + d) (151 + 23 * d) D ad cs P sz tU adK adV [.ref (ad 40 0)] S K) (hR5 : ∀ (z1 : Int32) (S : St) (H : Heap) (locs : List Loc) (ls : Array Slot), R5 z1 S → wH D ad cs P (wA ad P) s.heap sz S H locs → lv_has ls 4 [(0, .ref (ad 40 0)), (1, .int z1)] → W p l e R s m args below meth c H locs 0 0 (MQ below (va_Qi K (QX D ad cs P sz) (wA ad P)) args s 0 0 (wA ad P)) (F0 m 5 ls [])) (hw : wbX8_added_62 F R5 K v0 S) (hh : wH D ad cs P (wA ad P) s.heap sz S H locs) (hl : lv_has ls 4 [(0, .ref (ad 40 0))]) : W p l e R s m args below meth c H locs 0 0 (MQ below (va_Qi K (QX D ad cs P sz) (wA ad P)) args s 0 0 (wA ad P)) (F0 m 62 ls [.int v0]) := by
  have hx := E.hx
  have hb := E.hb
  refine lv_istore_n (lv' := [(1, .int v0), (0, .ref (ad 40 0))]) hx hb dX8_added_62 rfl hl (by decide) rfl (fun ls hl => ?_)
  refine lv_goto (tgt := 5) hx hb dX8_added_63 (by decide) ?_
  exact hR5 v0 S _ _ _ hw hh (lv_sub hl [1, 0] rfl)
def wbX8_added_39 (F : Nat → St → (Int32 → St → Prop) → Prop) (R5 : Int32 → St → Prop) (K : Int32 → St → Prop) (x1 : Int32) (v0 : Int32) (S : St) : Prop := wpX8_next S (fun S7 => F 4 S7 (fun r8 S8 => if v0 = 0 then (wbX8_added_62 F R5 K (x1 - r8) S8) else (wbX8_added_62 F R5 K (x1 + r8) S8)))
set_option maxRecDepth 4000 in
theorem bX8_added_39 {p : Program} {l : Launch} {e : Env} {R : Room} {s : State} {m : MethodId} {args : Array Value} {below : List Frame} {meth : Method} {c : Code} {D : va_G} {ad : Nat → Nat → Nat} {cs : Nat → ClassId} {P : Nat → Nat → Prop} {sz tU : Nat} {adK adV : Nat → Nat} {F : Nat → St → (Int32 → St → Prop) → Prop} {d : Nat} {R5 : Int32 → St → Prop} {K : Int32 → St → Prop} {x1 : Int32} {v0 : Int32} {S : St} {H : Heap} {locs : List Loc} {ls : Array Slot} (E : Ex p s m args meth c R RX8 cX8_added 4 (some .int) (5 + (d + 1)) (151 + 23 * (d + 1)) D ad cs P (wA ad P) tU adK adV cnM) (hF0 : ∀ {S : St} {K : Int32 → St → Prop}, F 0  S K → MI l yX8_either cX8_either 3 (some .int) (5 + d) (151 + 23 * d) D ad cs P sz tU adK adV [.ref (ad 40 0)] S K) (hF1 : ∀ {S : St} {K : Int32 → St → Prop}, F 1  S K → MI l yX8_both cX8_both 3 (some .int) (5 + d) (151 + 23 * d) D ad cs P sz tU adK adV [.ref (ad 40 0)] S K) (hF2 : ∀ {S : St} {K : Int32 → St → Prop}, F 2  S K → MI l yX8_not cX8_not 4 (some .int) (5 + d) (151 + 23 * d) D ad cs P sz tU adK adV [.ref (ad 40 0)] S K) (hF3 : ∀ {S : St} {K : Int32 → St → Prop}, F 3  S K → MI l yX8_added cX8_added 4 (some .int) (5 + d) (151 + 23 * d) D ad cs P sz tU adK adV [.ref (ad 40 0)] S K) (hF4 : ∀ {S : St} {K : Int32 → St → Prop}, F 4  S K → MI l yX8_term cX8_term 2 (some .int) (5 + d) (151 + 23 * d) D ad cs P sz tU adK adV [.ref (ad 40 0)] S K) (hF5 : ∀ {S : St} {K : Int32 → St → Prop}, F 5  S K → MI l yX8_atom cX8_atom 2 (some .int) (5 + d) (151 + 23 * d) D ad cs P sz tU adK adV [.ref (ad 40 0)] S K) (hR5 : ∀ (z1 : Int32) (S : St) (H : Heap) (locs : List Loc) (ls : Array Slot), R5 z1 S → wH D ad cs P (wA ad P) s.heap sz S H locs → lv_has ls 4 [(0, .ref (ad 40 0)), (1, .int z1)] → W p l e R s m args below meth c H locs 0 0 (MQ below (va_Qi K (QX D ad cs P sz) (wA ad P)) args s 0 0 (wA ad P)) (F0 m 5 ls [])) (hw : wbX8_added_39 F R5 K x1 v0 S) (hh : wH D ad cs P (wA ad P) s.heap sz S H locs) (hl : lv_has ls 4 [(0, .ref (ad 40 0)), (1, .int x1)]) : W p l e R s m args below meth c H locs 0 0 (MQ below (va_Qi K (QX D ad cs P sz) (wA ad P)) args s 0 0 (wA ad P)) (F0 m 39 ls [.int v0]) := by
  have hx := E.hx
  have hb := E.hb
  refine lv_istore_n (lv' := [(2, .int v0), (0, .ref (ad 40 0)), (1, .int x1)]) hx hb dX8_added_39 rfl hl (by decide) rfl (fun ls hl => ?_)
  refine lv_aload_n hx hb dX8_added_40 rfl (lv_at hl 1 rfl) ?_
  refine x_cv E.hA hh (x_runV E hh (mX8_next E.hI E.hn hw) kX8_next tb966 (E.hn 40 0 (by decide)) rv_40 ⟨by omega, by omega⟩ rfl hl.1 rfl (Nat.le_of_ble_eq_true rfl) dX8_added_41 ⟨Nat.zero_le _, Nat.zero_le _⟩) (fun S7 H locs hw hh => ?_)
  refine lv_aload_n hx hb dX8_added_44 rfl (lv_at hl 1 rfl) ?_
  refine x_ci E.hA hh (x_runV E hh (hF4 hw) kX8_term tb1015 (E.hn 40 0 (by decide)) rv_40 ⟨by omega, by omega⟩ rfl hl.1 rfl (Nat.le_of_ble_eq_true rfl) dX8_added_45 ⟨Nat.zero_le _, Nat.zero_le _⟩) (fun r8 S8 H locs hw hh => ?_)
  refine lv_istore_n (lv' := [(3, .int r8), (2, .int v0), (0, .ref (ad 40 0)), (1, .int x1)]) hx hb dX8_added_48 rfl hl (by decide) rfl (fun ls hl => ?_)
  refine lv_iload_n hx hb dX8_added_49 rfl (lv_at hl 1 rfl) ?_
  refine lv_if_eq (tgt := 59) hx hb dX8_added_50 (by decide) (fun c9 => ?_) (fun c9 => ?_)
  · have hw := ifT hw c9
    refine lv_iload_n hx hb dX8_added_59 rfl (lv_at hl 3 rfl) ?_
    refine lv_iload_n hx hb dX8_added_60 rfl (lv_at hl 0 rfl) ?_
    refine lv_isub hx hb dX8_added_61 ?_
    exact bX8_added_62 E hF0 hF1 hF2 hF3 hF4 hF5 hR5 hw hh (lv_sub hl [2] rfl)
  · have hw := ifF hw c9
    refine lv_iload_n hx hb dX8_added_53 rfl (lv_at hl 3 rfl) ?_
    refine lv_iload_n hx hb dX8_added_54 rfl (lv_at hl 0 rfl) ?_
    refine lv_iadd hx hb dX8_added_55 ?_
    refine lv_goto (tgt := 62) hx hb dX8_added_56 (by decide) ?_
    exact bX8_added_62 E hF0 hF1 hF2 hF3 hF4 hF5 hR5 hw hh (lv_sub hl [2] rfl)
def wbX8_added_23 (F : Nat → St → (Int32 → St → Prop) → Prop) (R5 : Int32 → St → Prop) (K : Int32 → St → Prop) (x1 : Int32) (S : St) : Prop := if (lg_cmp (sw S 40 0) 43) = 0 then (wbX8_added_39 F R5 K x1 1 S) else (wbX8_added_39 F R5 K x1 0 S)
set_option maxRecDepth 4000 in
theorem bX8_added_23 {p : Program} {l : Launch} {e : Env} {R : Room} {s : State} {m : MethodId} {args : Array Value} {below : List Frame} {meth : Method} {c : Code} {D : va_G} {ad : Nat → Nat → Nat} {cs : Nat → ClassId} {P : Nat → Nat → Prop} {sz tU : Nat} {adK adV : Nat → Nat} {F : Nat → St → (Int32 → St → Prop) → Prop} {d : Nat} {R5 : Int32 → St → Prop} {K : Int32 → St → Prop} {x1 : Int32} {S : St} {H : Heap} {locs : List Loc} {ls : Array Slot} (E : Ex p s m args meth c R RX8 cX8_added 4 (some .int) (5 + (d + 1)) (151 + 23 * (d + 1)) D ad cs P (wA ad P) tU adK adV cnM) (hF0 : ∀ {S : St} {K : Int32 → St → Prop}, F 0  S K → MI l yX8_either cX8_either 3 (some .int) (5 + d) (151 + 23 * d) D ad cs P sz tU adK adV [.ref (ad 40 0)] S K) (hF1 : ∀ {S : St} {K : Int32 → St → Prop}, F 1  S K → MI l yX8_both cX8_both 3 (some .int) (5 + d) (151 + 23 * d) D ad cs P sz tU adK adV [.ref (ad 40 0)] S K) (hF2 : ∀ {S : St} {K : Int32 → St → Prop}, F 2  S K → MI l yX8_not cX8_not 4 (some .int) (5 + d) (151 + 23 * d) D ad cs P sz tU adK adV [.ref (ad 40 0)] S K) (hF3 : ∀ {S : St} {K : Int32 → St → Prop}, F 3  S K → MI l yX8_added cX8_added 4 (some .int) (5 + d) (151 + 23 * d) D ad cs P sz tU adK adV [.ref (ad 40 0)] S K) (hF4 : ∀ {S : St} {K : Int32 → St → Prop}, F 4  S K → MI l yX8_term cX8_term 2 (some .int) (5 + d) (151 + 23 * d) D ad cs P sz tU adK adV [.ref (ad 40 0)] S K) (hF5 : ∀ {S : St} {K : Int32 → St → Prop}, F 5  S K → MI l yX8_atom cX8_atom 2 (some .int) (5 + d) (151 + 23 * d) D ad cs P sz tU adK adV [.ref (ad 40 0)] S K) (hR5 : ∀ (z1 : Int32) (S : St) (H : Heap) (locs : List Loc) (ls : Array Slot), R5 z1 S → wH D ad cs P (wA ad P) s.heap sz S H locs → lv_has ls 4 [(0, .ref (ad 40 0)), (1, .int z1)] → W p l e R s m args below meth c H locs 0 0 (MQ below (va_Qi K (QX D ad cs P sz) (wA ad P)) args s 0 0 (wA ad P)) (F0 m 5 ls [])) (hw : wbX8_added_23 F R5 K x1 S) (hh : wH D ad cs P (wA ad P) s.heap sz S H locs) (hl : lv_has ls 4 [(0, .ref (ad 40 0)), (1, .int x1)]) : W p l e R s m args below meth c H locs 0 0 (MQ below (va_Qi K (QX D ad cs P sz) (wA ad P)) args s 0 0 (wA ad P)) (F0 m 23 ls []) := by
  have hx := E.hx
  have hb := E.hb
  refine lv_aload_n hx hb dX8_added_23 rfl (lv_at hl 0 rfl) ?_
  refine g_40_28 E hh tb762 (E.hn 40 0 (by decide)) dX8_added_24 ?_
  refine lv_ldc2 (v := 43) hx hb E.hown (E.hts _ tb1031) dX8_added_27 ?_
  refine W.lcmp hx hb dX8_added_30 ?_
  refine lv_if_ne (tgt := 38) hx hb dX8_added_31 (by decide) (fun c6 => ?_) (fun c6 => ?_)
  · have hw := ifF hw c6
    refine lv_iconst (v := 0) hx hb dX8_added_38 (by decide) ?_
    exact bX8_added_39 E hF0 hF1 hF2 hF3 hF4 hF5 hR5 hw hh (lv_sub hl [0, 1] rfl)
  · have hw := ifT hw c6
    refine lv_iconst (v := 1) hx hb dX8_added_34 (by decide) ?_
    refine lv_goto (tgt := 39) hx hb dX8_added_35 (by decide) ?_
    exact bX8_added_39 E hF0 hF1 hF2 hF3 hF4 hF5 hR5 hw hh (lv_sub hl [0, 1] rfl)
def wbX8_added_5 (F : Nat → St → (Int32 → St → Prop) → Prop) (K : Int32 → St → Prop) : Nat → Int32 → St → Prop
  | 0, _, _ => False
  | n + 1, x1, S => wpX8_isSign 43 S (fun r2 S2 => if r2 = 0 then (wpX8_isSign 45 S2 (fun r4 S4 => if r4 = 0 then (K x1 S4) else (wbX8_added_23 F (fun yx1 S9 => wbX8_added_5 F K n yx1 S9) K x1 S4))) else (wbX8_added_23 F (fun yx1 S9 => wbX8_added_5 F K n yx1 S9) K x1 S2))
set_option maxRecDepth 4000 in
theorem bX8_added_5 {p : Program} {l : Launch} {e : Env} {R : Room} {s : State} {m : MethodId} {args : Array Value} {below : List Frame} {meth : Method} {c : Code} {D : va_G} {ad : Nat → Nat → Nat} {cs : Nat → ClassId} {P : Nat → Nat → Prop} {sz tU : Nat} {adK adV : Nat → Nat} {F : Nat → St → (Int32 → St → Prop) → Prop} {d : Nat} {K : Int32 → St → Prop} (E : Ex p s m args meth c R RX8 cX8_added 4 (some .int) (5 + (d + 1)) (151 + 23 * (d + 1)) D ad cs P (wA ad P) tU adK adV cnM) (hF0 : ∀ {S : St} {K : Int32 → St → Prop}, F 0  S K → MI l yX8_either cX8_either 3 (some .int) (5 + d) (151 + 23 * d) D ad cs P sz tU adK adV [.ref (ad 40 0)] S K) (hF1 : ∀ {S : St} {K : Int32 → St → Prop}, F 1  S K → MI l yX8_both cX8_both 3 (some .int) (5 + d) (151 + 23 * d) D ad cs P sz tU adK adV [.ref (ad 40 0)] S K) (hF2 : ∀ {S : St} {K : Int32 → St → Prop}, F 2  S K → MI l yX8_not cX8_not 4 (some .int) (5 + d) (151 + 23 * d) D ad cs P sz tU adK adV [.ref (ad 40 0)] S K) (hF3 : ∀ {S : St} {K : Int32 → St → Prop}, F 3  S K → MI l yX8_added cX8_added 4 (some .int) (5 + d) (151 + 23 * d) D ad cs P sz tU adK adV [.ref (ad 40 0)] S K) (hF4 : ∀ {S : St} {K : Int32 → St → Prop}, F 4  S K → MI l yX8_term cX8_term 2 (some .int) (5 + d) (151 + 23 * d) D ad cs P sz tU adK adV [.ref (ad 40 0)] S K) (hF5 : ∀ {S : St} {K : Int32 → St → Prop}, F 5  S K → MI l yX8_atom cX8_atom 2 (some .int) (5 + d) (151 + 23 * d) D ad cs P sz tU adK adV [.ref (ad 40 0)] S K) : ∀ (n : Nat) (x1 : Int32) (S : St) (H : Heap) (locs : List Loc) (ls : Array Slot), wbX8_added_5 F K n x1 S → wH D ad cs P (wA ad P) s.heap sz S H locs → lv_has ls 4 [(0, .ref (ad 40 0)), (1, .int x1)] → W p l e R s m args below meth c H locs 0 0 (MQ below (va_Qi K (QX D ad cs P sz) (wA ad P)) args s 0 0 (wA ad P)) (F0 m 5 ls []) := by
  have hx := E.hx
  have hb := E.hb
  intro n
  induction n with
  | zero => intro x1 S H locs ls hw hh hl; exact hw.elim
  | succ n ih =>
    intro x1 S H locs ls hw hh hl
    refine lv_aload_n hx hb dX8_added_5 rfl (lv_at hl 0 rfl) ?_
    refine lv_bipush (v := 43) hx hb dX8_added_6 (by decide) ?_
    refine x_ci E.hA hh (x_runV E hh (mX8_isSign E.hI E.hn hw) kX8_isSign tb1023 (E.hn 40 0 (by decide)) rv_40 ⟨by omega, by omega⟩ rfl hl.1 rfl (Nat.le_of_ble_eq_true rfl) dX8_added_8 ⟨Nat.zero_le _, Nat.zero_le _⟩) (fun r2 S2 H locs hw hh => ?_)
    have hq2 := hw.2
    have hw := hw.1
    refine lv_if_ne (tgt := 23) hx hb dX8_added_11 (by decide) (fun c3 => ?_) (fun c3 => ?_)
    · have hw := ifF hw c3
      exact bX8_added_23 E hF0 hF1 hF2 hF3 hF4 hF5 ih hw hh (lv_sub hl [0, 1] rfl)
    · have hw := ifT hw c3
      refine lv_aload_n hx hb dX8_added_14 rfl (lv_at hl 0 rfl) ?_
      refine lv_bipush (v := 45) hx hb dX8_added_15 (by decide) ?_
      refine x_ci E.hA hh (x_runV E hh (mX8_isSign E.hI E.hn hw) kX8_isSign tb1023 (E.hn 40 0 (by decide)) rv_40 ⟨by omega, by omega⟩ rfl hl.1 rfl (Nat.le_of_ble_eq_true rfl) dX8_added_17 ⟨Nat.zero_le _, Nat.zero_le _⟩) (fun r4 S4 H locs hw hh => ?_)
      have hq4 := hw.2
      have hw := hw.1
      refine lv_if_eq (tgt := 66) hx hb dX8_added_20 (by decide) (fun c5 => ?_) (fun c5 => ?_)
      · have hw := ifT hw c5
        refine lv_iload_n hx hb dX8_added_66 rfl (lv_at hl 1 rfl) ?_
        exact x_iret E hh hw dX8_added_67
      · have hw := ifF hw c5
        exact bX8_added_23 E hF0 hF1 hF2 hF3 hF4 hF5 ih hw hh (lv_sub hl [0, 1] rfl)
def wpX8_added (F : Nat → St → (Int32 → St → Prop) → Prop) (S : St) (K : Int32 → St → Prop) : Prop := F 4 S (fun r1 S1 => ∃ k, wbX8_added_5 F K k r1 S1)
set_option maxRecDepth 4000 in
theorem bX8_added {p : Program} {l : Launch} {e : Env} {R : Room} {s : State} {m : MethodId} {args : Array Value} {below : List Frame} {meth : Method} {c : Code} {D : va_G} {ad : Nat → Nat → Nat} {cs : Nat → ClassId} {P : Nat → Nat → Prop} {sz tU : Nat} {adK adV : Nat → Nat} {F : Nat → St → (Int32 → St → Prop) → Prop} {d : Nat} {K : Int32 → St → Prop} {S : St} {H : Heap} {locs : List Loc} {ls : Array Slot} (E : Ex p s m args meth c R RX8 cX8_added 4 (some .int) (5 + (d + 1)) (151 + 23 * (d + 1)) D ad cs P (wA ad P) tU adK adV cnM) (hF0 : ∀ {S : St} {K : Int32 → St → Prop}, F 0  S K → MI l yX8_either cX8_either 3 (some .int) (5 + d) (151 + 23 * d) D ad cs P sz tU adK adV [.ref (ad 40 0)] S K) (hF1 : ∀ {S : St} {K : Int32 → St → Prop}, F 1  S K → MI l yX8_both cX8_both 3 (some .int) (5 + d) (151 + 23 * d) D ad cs P sz tU adK adV [.ref (ad 40 0)] S K) (hF2 : ∀ {S : St} {K : Int32 → St → Prop}, F 2  S K → MI l yX8_not cX8_not 4 (some .int) (5 + d) (151 + 23 * d) D ad cs P sz tU adK adV [.ref (ad 40 0)] S K) (hF3 : ∀ {S : St} {K : Int32 → St → Prop}, F 3  S K → MI l yX8_added cX8_added 4 (some .int) (5 + d) (151 + 23 * d) D ad cs P sz tU adK adV [.ref (ad 40 0)] S K) (hF4 : ∀ {S : St} {K : Int32 → St → Prop}, F 4  S K → MI l yX8_term cX8_term 2 (some .int) (5 + d) (151 + 23 * d) D ad cs P sz tU adK adV [.ref (ad 40 0)] S K) (hF5 : ∀ {S : St} {K : Int32 → St → Prop}, F 5  S K → MI l yX8_atom cX8_atom 2 (some .int) (5 + d) (151 + 23 * d) D ad cs P sz tU adK adV [.ref (ad 40 0)] S K) (hw : wpX8_added F S K) (hh : wH D ad cs P (wA ad P) s.heap sz S H locs) (hl : lv_has ls 4 [(0, .ref (ad 40 0))]) : W p l e R s m args below meth c H locs 0 0 (MQ below (va_Qi K (QX D ad cs P sz) (wA ad P)) args s 0 0 (wA ad P)) (F0 m 0 ls []) := by
  have hx := E.hx
  have hb := E.hb
  refine lv_aload_n hx hb dX8_added_0 rfl (lv_at hl 0 rfl) ?_
  refine x_ci E.hA hh (x_runV E hh (hF4 hw) kX8_term tb1015 (E.hn 40 0 (by decide)) rv_40 ⟨by omega, by omega⟩ rfl hl.1 rfl (Nat.le_of_ble_eq_true rfl) dX8_added_1 ⟨Nat.zero_le _, Nat.zero_le _⟩) (fun r1 S1 H locs hw hh => ?_)
  refine lv_istore_n (lv' := [(1, .int r1), (0, .ref (ad 40 0))]) hx hb dX8_added_4 rfl hl (by decide) rfl (fun ls hl => ?_)
  obtain ⟨k, hw⟩ := hw
  exact bX8_added_5 E hF0 hF1 hF2 hF3 hF4 hF5 k r1 S1 _ _ _ hw hh (lv_sub hl [1, 0] rfl)
def wbX8_term_5 (F : Nat → St → (Int32 → St → Prop) → Prop) (K : Int32 → St → Prop) : Nat → Int32 → St → Prop
  | 0, _, _ => False
  | n + 1, x1, S => wpX8_isSign 42 S (fun r2 S2 => if r2 = 0 then (K x1 S2) else (wpX8_next S2 (fun S4 => F 5 S4 (fun r5 S5 => wbX8_term_5 F K n (x1 * r5) S5))))
set_option maxRecDepth 4000 in
theorem bX8_term_5 {p : Program} {l : Launch} {e : Env} {R : Room} {s : State} {m : MethodId} {args : Array Value} {below : List Frame} {meth : Method} {c : Code} {D : va_G} {ad : Nat → Nat → Nat} {cs : Nat → ClassId} {P : Nat → Nat → Prop} {sz tU : Nat} {adK adV : Nat → Nat} {F : Nat → St → (Int32 → St → Prop) → Prop} {d : Nat} {K : Int32 → St → Prop} (E : Ex p s m args meth c R RX8 cX8_term 2 (some .int) (5 + (d + 1)) (151 + 23 * (d + 1)) D ad cs P (wA ad P) tU adK adV cnM) (hF0 : ∀ {S : St} {K : Int32 → St → Prop}, F 0  S K → MI l yX8_either cX8_either 3 (some .int) (5 + d) (151 + 23 * d) D ad cs P sz tU adK adV [.ref (ad 40 0)] S K) (hF1 : ∀ {S : St} {K : Int32 → St → Prop}, F 1  S K → MI l yX8_both cX8_both 3 (some .int) (5 + d) (151 + 23 * d) D ad cs P sz tU adK adV [.ref (ad 40 0)] S K) (hF2 : ∀ {S : St} {K : Int32 → St → Prop}, F 2  S K → MI l yX8_not cX8_not 4 (some .int) (5 + d) (151 + 23 * d) D ad cs P sz tU adK adV [.ref (ad 40 0)] S K) (hF3 : ∀ {S : St} {K : Int32 → St → Prop}, F 3  S K → MI l yX8_added cX8_added 4 (some .int) (5 + d) (151 + 23 * d) D ad cs P sz tU adK adV [.ref (ad 40 0)] S K) (hF4 : ∀ {S : St} {K : Int32 → St → Prop}, F 4  S K → MI l yX8_term cX8_term 2 (some .int) (5 + d) (151 + 23 * d) D ad cs P sz tU adK adV [.ref (ad 40 0)] S K) (hF5 : ∀ {S : St} {K : Int32 → St → Prop}, F 5  S K → MI l yX8_atom cX8_atom 2 (some .int) (5 + d) (151 + 23 * d) D ad cs P sz tU adK adV [.ref (ad 40 0)] S K) : ∀ (n : Nat) (x1 : Int32) (S : St) (H : Heap) (locs : List Loc) (ls : Array Slot), wbX8_term_5 F K n x1 S → wH D ad cs P (wA ad P) s.heap sz S H locs → lv_has ls 2 [(0, .ref (ad 40 0)), (1, .int x1)] → W p l e R s m args below meth c H locs 0 0 (MQ below (va_Qi K (QX D ad cs P sz) (wA ad P)) args s 0 0 (wA ad P)) (F0 m 5 ls []) := by
  have hx := E.hx
  have hb := E.hb
  intro n
  induction n with
  | zero => intro x1 S H locs ls hw hh hl; exact hw.elim
  | succ n ih =>
    intro x1 S H locs ls hw hh hl
    refine lv_aload_n hx hb dX8_term_5 rfl (lv_at hl 0 rfl) ?_
    refine lv_bipush (v := 42) hx hb dX8_term_6 (by decide) ?_
    refine x_ci E.hA hh (x_runV E hh (mX8_isSign E.hI E.hn hw) kX8_isSign tb1023 (E.hn 40 0 (by decide)) rv_40 ⟨by omega, by omega⟩ rfl hl.1 rfl (Nat.le_of_ble_eq_true rfl) dX8_term_8 ⟨Nat.zero_le _, Nat.zero_le _⟩) (fun r2 S2 H locs hw hh => ?_)
    have hq2 := hw.2
    have hw := hw.1
    refine lv_if_eq (tgt := 28) hx hb dX8_term_11 (by decide) (fun c3 => ?_) (fun c3 => ?_)
    · have hw := ifT hw c3
      refine lv_iload_n hx hb dX8_term_28 rfl (lv_at hl 1 rfl) ?_
      exact x_iret E hh hw dX8_term_29
    · have hw := ifF hw c3
      refine lv_aload_n hx hb dX8_term_14 rfl (lv_at hl 0 rfl) ?_
      refine x_cv E.hA hh (x_runV E hh (mX8_next E.hI E.hn hw) kX8_next tb966 (E.hn 40 0 (by decide)) rv_40 ⟨by omega, by omega⟩ rfl hl.1 rfl (Nat.le_of_ble_eq_true rfl) dX8_term_15 ⟨Nat.zero_le _, Nat.zero_le _⟩) (fun S4 H locs hw hh => ?_)
      refine lv_iload_n hx hb dX8_term_18 rfl (lv_at hl 1 rfl) ?_
      refine lv_aload_n hx hb dX8_term_19 rfl (lv_at hl 0 rfl) ?_
      refine x_ci E.hA hh (x_runV E hh (hF5 hw) kX8_atom tb1019 (E.hn 40 0 (by decide)) rv_40 ⟨by omega, by omega⟩ rfl hl.1 rfl (Nat.le_of_ble_eq_true rfl) dX8_term_20 ⟨Nat.zero_le _, Nat.zero_le _⟩) (fun r5 S5 H locs hw hh => ?_)
      refine lv_imul hx hb dX8_term_23 ?_
      refine lv_istore_n (lv' := [(1, .int (x1 * r5)), (0, .ref (ad 40 0))]) hx hb dX8_term_24 rfl hl (by decide) rfl (fun ls hl => ?_)
      refine lv_goto (tgt := 5) hx hb dX8_term_25 (by decide) ?_
      exact ih (x1 * r5) S5 _ _ _ hw hh (lv_sub hl [1, 0] rfl)
def wpX8_term (F : Nat → St → (Int32 → St → Prop) → Prop) (S : St) (K : Int32 → St → Prop) : Prop := F 5 S (fun r1 S1 => ∃ k, wbX8_term_5 F K k r1 S1)
set_option maxRecDepth 4000 in
theorem bX8_term {p : Program} {l : Launch} {e : Env} {R : Room} {s : State} {m : MethodId} {args : Array Value} {below : List Frame} {meth : Method} {c : Code} {D : va_G} {ad : Nat → Nat → Nat} {cs : Nat → ClassId} {P : Nat → Nat → Prop} {sz tU : Nat} {adK adV : Nat → Nat} {F : Nat → St → (Int32 → St → Prop) → Prop} {d : Nat} {K : Int32 → St → Prop} {S : St} {H : Heap} {locs : List Loc} {ls : Array Slot} (E : Ex p s m args meth c R RX8 cX8_term 2 (some .int) (5 + (d + 1)) (151 + 23 * (d + 1)) D ad cs P (wA ad P) tU adK adV cnM) (hF0 : ∀ {S : St} {K : Int32 → St → Prop}, F 0  S K → MI l yX8_either cX8_either 3 (some .int) (5 + d) (151 + 23 * d) D ad cs P sz tU adK adV [.ref (ad 40 0)] S K) (hF1 : ∀ {S : St} {K : Int32 → St → Prop}, F 1  S K → MI l yX8_both cX8_both 3 (some .int) (5 + d) (151 + 23 * d) D ad cs P sz tU adK adV [.ref (ad 40 0)] S K) (hF2 : ∀ {S : St} {K : Int32 → St → Prop}, F 2  S K → MI l yX8_not cX8_not 4 (some .int) (5 + d) (151 + 23 * d) D ad cs P sz tU adK adV [.ref (ad 40 0)] S K) (hF3 : ∀ {S : St} {K : Int32 → St → Prop}, F 3  S K → MI l yX8_added cX8_added 4 (some .int) (5 + d) (151 + 23 * d) D ad cs P sz tU adK adV [.ref (ad 40 0)] S K) (hF4 : ∀ {S : St} {K : Int32 → St → Prop}, F 4  S K → MI l yX8_term cX8_term 2 (some .int) (5 + d) (151 + 23 * d) D ad cs P sz tU adK adV [.ref (ad 40 0)] S K) (hF5 : ∀ {S : St} {K : Int32 → St → Prop}, F 5  S K → MI l yX8_atom cX8_atom 2 (some .int) (5 + d) (151 + 23 * d) D ad cs P sz tU adK adV [.ref (ad 40 0)] S K) (hw : wpX8_term F S K) (hh : wH D ad cs P (wA ad P) s.heap sz S H locs) (hl : lv_has ls 2 [(0, .ref (ad 40 0))]) : W p l e R s m args below meth c H locs 0 0 (MQ below (va_Qi K (QX D ad cs P sz) (wA ad P)) args s 0 0 (wA ad P)) (F0 m 0 ls []) := by
  have hx := E.hx
  have hb := E.hb
  refine lv_aload_n hx hb dX8_term_0 rfl (lv_at hl 0 rfl) ?_
  refine x_ci E.hA hh (x_runV E hh (hF5 hw) kX8_atom tb1019 (E.hn 40 0 (by decide)) rv_40 ⟨by omega, by omega⟩ rfl hl.1 rfl (Nat.le_of_ble_eq_true rfl) dX8_term_1 ⟨Nat.zero_le _, Nat.zero_le _⟩) (fun r1 S1 H locs hw hh => ?_)
  refine lv_istore_n (lv' := [(1, .int r1), (0, .ref (ad 40 0))]) hx hb dX8_term_4 rfl hl (by decide) rfl (fun ls hl => ?_)
  obtain ⟨k, hw⟩ := hw
  exact bX8_term_5 E hF0 hF1 hF2 hF3 hF4 hF5 k r1 S1 _ _ _ hw hh (lv_sub hl [1, 0] rfl)
def wbX8_atom_157 (F : Nat → St → (Int32 → St → Prop) → Prop) (K : Int32 → St → Prop) (x1 : Int32) (S : St) : Prop := wpX8_fail S (fun S26 => K x1 S26)
set_option maxRecDepth 4000 in
theorem bX8_atom_157 {p : Program} {l : Launch} {e : Env} {R : Room} {s : State} {m : MethodId} {args : Array Value} {below : List Frame} {meth : Method} {c : Code} {D : va_G} {ad : Nat → Nat → Nat} {cs : Nat → ClassId} {P : Nat → Nat → Prop} {sz tU : Nat} {adK adV : Nat → Nat} {F : Nat → St → (Int32 → St → Prop) → Prop} {d : Nat} {K : Int32 → St → Prop} {x1 : Int32} {S : St} {H : Heap} {locs : List Loc} {ls : Array Slot} (E : Ex p s m args meth c R RX8 cX8_atom 2 (some .int) (5 + (d + 1)) (151 + 23 * (d + 1)) D ad cs P (wA ad P) tU adK adV cnM) (hF0 : ∀ {S : St} {K : Int32 → St → Prop}, F 0  S K → MI l yX8_either cX8_either 3 (some .int) (5 + d) (151 + 23 * d) D ad cs P sz tU adK adV [.ref (ad 40 0)] S K) (hF1 : ∀ {S : St} {K : Int32 → St → Prop}, F 1  S K → MI l yX8_both cX8_both 3 (some .int) (5 + d) (151 + 23 * d) D ad cs P sz tU adK adV [.ref (ad 40 0)] S K) (hF2 : ∀ {S : St} {K : Int32 → St → Prop}, F 2  S K → MI l yX8_not cX8_not 4 (some .int) (5 + d) (151 + 23 * d) D ad cs P sz tU adK adV [.ref (ad 40 0)] S K) (hF3 : ∀ {S : St} {K : Int32 → St → Prop}, F 3  S K → MI l yX8_added cX8_added 4 (some .int) (5 + d) (151 + 23 * d) D ad cs P sz tU adK adV [.ref (ad 40 0)] S K) (hF4 : ∀ {S : St} {K : Int32 → St → Prop}, F 4  S K → MI l yX8_term cX8_term 2 (some .int) (5 + d) (151 + 23 * d) D ad cs P sz tU adK adV [.ref (ad 40 0)] S K) (hF5 : ∀ {S : St} {K : Int32 → St → Prop}, F 5  S K → MI l yX8_atom cX8_atom 2 (some .int) (5 + d) (151 + 23 * d) D ad cs P sz tU adK adV [.ref (ad 40 0)] S K) (hw : wbX8_atom_157 F K x1 S) (hh : wH D ad cs P (wA ad P) s.heap sz S H locs) (hl : lv_has ls 2 [(0, .ref (ad 40 0)), (1, .int x1)]) : W p l e R s m args below meth c H locs 0 0 (MQ below (va_Qi K (QX D ad cs P sz) (wA ad P)) args s 0 0 (wA ad P)) (F0 m 157 ls []) := by
  have hx := E.hx
  have hb := E.hb
  refine lv_aload_n hx hb dX8_atom_157 rfl (lv_at hl 0 rfl) ?_
  refine x_cv E.hA hh (x_runV E hh (mX8_fail E.hI E.hn hw) kX8_fail tb991 (E.hn 40 0 (by decide)) rv_40 ⟨by omega, by omega⟩ rfl hl.1 rfl (Nat.le_of_ble_eq_true rfl) dX8_atom_158 ⟨Nat.zero_le _, Nat.zero_le _⟩) (fun S26 H locs hw hh => ?_)
  refine lv_iload_n hx hb dX8_atom_161 rfl (lv_at hl 1 rfl) ?_
  exact x_iret E hh hw dX8_atom_162
def wbX8_atom_123 (F : Nat → St → (Int32 → St → Prop) → Prop) (K : Int32 → St → Prop) (x1 : Int32) (S : St) : Prop := if (S.1 40 0 30) = 0 then (if (S.1 40 0 26) = 1 then (wpX8_name S (fun r20 S20 => if (S20.1 40 0 30) = 0 then (wpX8_next S20 (fun S22 => K r20 S22)) else (K r20 S20))) else (wbX8_atom_157 F K x1 S)) else (wbX8_atom_157 F K x1 S)
set_option maxRecDepth 4000 in
theorem bX8_atom_123 {p : Program} {l : Launch} {e : Env} {R : Room} {s : State} {m : MethodId} {args : Array Value} {below : List Frame} {meth : Method} {c : Code} {D : va_G} {ad : Nat → Nat → Nat} {cs : Nat → ClassId} {P : Nat → Nat → Prop} {sz tU : Nat} {adK adV : Nat → Nat} {F : Nat → St → (Int32 → St → Prop) → Prop} {d : Nat} {K : Int32 → St → Prop} {x1 : Int32} {S : St} {H : Heap} {locs : List Loc} {ls : Array Slot} (E : Ex p s m args meth c R RX8 cX8_atom 2 (some .int) (5 + (d + 1)) (151 + 23 * (d + 1)) D ad cs P (wA ad P) tU adK adV cnM) (hF0 : ∀ {S : St} {K : Int32 → St → Prop}, F 0  S K → MI l yX8_either cX8_either 3 (some .int) (5 + d) (151 + 23 * d) D ad cs P sz tU adK adV [.ref (ad 40 0)] S K) (hF1 : ∀ {S : St} {K : Int32 → St → Prop}, F 1  S K → MI l yX8_both cX8_both 3 (some .int) (5 + d) (151 + 23 * d) D ad cs P sz tU adK adV [.ref (ad 40 0)] S K) (hF2 : ∀ {S : St} {K : Int32 → St → Prop}, F 2  S K → MI l yX8_not cX8_not 4 (some .int) (5 + d) (151 + 23 * d) D ad cs P sz tU adK adV [.ref (ad 40 0)] S K) (hF3 : ∀ {S : St} {K : Int32 → St → Prop}, F 3  S K → MI l yX8_added cX8_added 4 (some .int) (5 + d) (151 + 23 * d) D ad cs P sz tU adK adV [.ref (ad 40 0)] S K) (hF4 : ∀ {S : St} {K : Int32 → St → Prop}, F 4  S K → MI l yX8_term cX8_term 2 (some .int) (5 + d) (151 + 23 * d) D ad cs P sz tU adK adV [.ref (ad 40 0)] S K) (hF5 : ∀ {S : St} {K : Int32 → St → Prop}, F 5  S K → MI l yX8_atom cX8_atom 2 (some .int) (5 + d) (151 + 23 * d) D ad cs P sz tU adK adV [.ref (ad 40 0)] S K) (hw : wbX8_atom_123 F K x1 S) (hh : wH D ad cs P (wA ad P) s.heap sz S H locs) (hl : lv_has ls 2 [(0, .ref (ad 40 0)), (1, .int x1)]) : W p l e R s m args below meth c H locs 0 0 (MQ below (va_Qi K (QX D ad cs P sz) (wA ad P)) args s 0 0 (wA ad P)) (F0 m 123 ls []) := by
  have hx := E.hx
  have hb := E.hb
  refine lv_aload_n hx hb dX8_atom_123 rfl (lv_at hl 0 rfl) ?_
  refine g_40_30 E hh tb764 (E.hn 40 0 (by decide)) dX8_atom_124 ?_
  refine lv_if_ne (tgt := 157) hx hb dX8_atom_127 (by decide) (fun c18 => ?_) (fun c18 => ?_)
  · have hw := ifF hw c18
    exact bX8_atom_157 E hF0 hF1 hF2 hF3 hF4 hF5 hw hh (lv_sub hl [0, 1] rfl)
  · have hw := ifT hw c18
    refine lv_aload_n hx hb dX8_atom_130 rfl (lv_at hl 0 rfl) ?_
    refine g_40_26 E hh tb760 (E.hn 40 0 (by decide)) dX8_atom_131 ?_
    refine lv_iconst (v := 1) hx hb dX8_atom_134 (by decide) ?_
    refine lv_icmp_ne (tgt := 157) hx hb dX8_atom_135 (by decide) (fun c19 => ?_) (fun c19 => ?_)
    · have hw := ifF hw c19
      exact bX8_atom_157 E hF0 hF1 hF2 hF3 hF4 hF5 hw hh (lv_sub hl [0, 1] rfl)
    · have hw := ifT hw c19
      refine lv_aload_n hx hb dX8_atom_138 rfl (lv_at hl 0 rfl) ?_
      refine x_ci E.hA hh (x_runV E hh (mX8_name E.hI E.hn hw) kX8_name tb1027 (E.hn 40 0 (by decide)) rv_40 ⟨by omega, by omega⟩ rfl hl.1 rfl (Nat.le_of_ble_eq_true rfl) dX8_atom_139 ⟨Nat.zero_le _, Nat.zero_le _⟩) (fun r20 S20 H locs hw hh => ?_)
      refine lv_istore_n (lv' := [(1, .int r20), (0, .ref (ad 40 0))]) hx hb dX8_atom_142 rfl hl (by decide) rfl (fun ls hl => ?_)
      refine lv_aload_n hx hb dX8_atom_143 rfl (lv_at hl 1 rfl) ?_
      refine g_40_30 E hh tb764 (E.hn 40 0 (by decide)) dX8_atom_144 ?_
      refine lv_if_ne (tgt := 161) hx hb dX8_atom_147 (by decide) (fun c21 => ?_) (fun c21 => ?_)
      · have hw := ifF hw c21
        refine lv_iload_n hx hb dX8_atom_161 rfl (lv_at hl 0 rfl) ?_
        exact x_iret E hh hw dX8_atom_162
      · have hw := ifT hw c21
        refine lv_aload_n hx hb dX8_atom_150 rfl (lv_at hl 1 rfl) ?_
        refine x_cv E.hA hh (x_runV E hh (mX8_next E.hI E.hn hw) kX8_next tb966 (E.hn 40 0 (by decide)) rv_40 ⟨by omega, by omega⟩ rfl hl.1 rfl (Nat.le_of_ble_eq_true rfl) dX8_atom_151 ⟨Nat.zero_le _, Nat.zero_le _⟩) (fun S22 H locs hw hh => ?_)
        refine lv_goto (tgt := 161) hx hb dX8_atom_154 (by decide) ?_
        refine lv_iload_n hx hb dX8_atom_161 rfl (lv_at hl 0 rfl) ?_
        exact x_iret E hh hw dX8_atom_162
def wbX8_atom_71 (F : Nat → St → (Int32 → St → Prop) → Prop) (K : Int32 → St → Prop) (x1 : Int32) (S : St) : Prop := (∀ S23, S23 = su S 40 0 29 ((S.1 40 0 29) - 1) → if (S23.1 40 0 30) = 0 then (wpX8_next S23 (fun S25 => K x1 S25)) else (K x1 S23))
set_option maxRecDepth 4000 in
theorem bX8_atom_71 {p : Program} {l : Launch} {e : Env} {R : Room} {s : State} {m : MethodId} {args : Array Value} {below : List Frame} {meth : Method} {c : Code} {D : va_G} {ad : Nat → Nat → Nat} {cs : Nat → ClassId} {P : Nat → Nat → Prop} {sz tU : Nat} {adK adV : Nat → Nat} {F : Nat → St → (Int32 → St → Prop) → Prop} {d : Nat} {K : Int32 → St → Prop} {x1 : Int32} {S : St} {H : Heap} {locs : List Loc} {ls : Array Slot} (E : Ex p s m args meth c R RX8 cX8_atom 2 (some .int) (5 + (d + 1)) (151 + 23 * (d + 1)) D ad cs P (wA ad P) tU adK adV cnM) (hF0 : ∀ {S : St} {K : Int32 → St → Prop}, F 0  S K → MI l yX8_either cX8_either 3 (some .int) (5 + d) (151 + 23 * d) D ad cs P sz tU adK adV [.ref (ad 40 0)] S K) (hF1 : ∀ {S : St} {K : Int32 → St → Prop}, F 1  S K → MI l yX8_both cX8_both 3 (some .int) (5 + d) (151 + 23 * d) D ad cs P sz tU adK adV [.ref (ad 40 0)] S K) (hF2 : ∀ {S : St} {K : Int32 → St → Prop}, F 2  S K → MI l yX8_not cX8_not 4 (some .int) (5 + d) (151 + 23 * d) D ad cs P sz tU adK adV [.ref (ad 40 0)] S K) (hF3 : ∀ {S : St} {K : Int32 → St → Prop}, F 3  S K → MI l yX8_added cX8_added 4 (some .int) (5 + d) (151 + 23 * d) D ad cs P sz tU adK adV [.ref (ad 40 0)] S K) (hF4 : ∀ {S : St} {K : Int32 → St → Prop}, F 4  S K → MI l yX8_term cX8_term 2 (some .int) (5 + d) (151 + 23 * d) D ad cs P sz tU adK adV [.ref (ad 40 0)] S K) (hF5 : ∀ {S : St} {K : Int32 → St → Prop}, F 5  S K → MI l yX8_atom cX8_atom 2 (some .int) (5 + d) (151 + 23 * d) D ad cs P sz tU adK adV [.ref (ad 40 0)] S K) (hw : wbX8_atom_71 F K x1 S) (hh : wH D ad cs P (wA ad P) s.heap sz S H locs) (hl : lv_has ls 2 [(0, .ref (ad 40 0)), (1, .int x1)]) : W p l e R s m args below meth c H locs 0 0 (MQ below (va_Qi K (QX D ad cs P sz) (wA ad P)) args s 0 0 (wA ad P)) (F0 m 71 ls []) := by
  have hx := E.hx
  have hb := E.hb
  refine lv_aload_n hx hb dX8_atom_71 rfl (lv_at hl 0 rfl) ?_
  refine lv_dup hx hb dX8_atom_72 rfl ?_
  refine g_40_29 E hh tb763 (E.hn 40 0 (by decide)) dX8_atom_73 ?_
  refine lv_iconst (v := 1) hx hb dX8_atom_76 (by decide) ?_
  refine lv_isub hx hb dX8_atom_77 ?_
  refine p_40_29 E hh tb763 (E.hn 40 0 (by decide)) dX8_atom_78 (fun S23 H locs e23 hh => ?_)
  have hw := hw S23 e23
  refine lv_aload_n hx hb dX8_atom_81 rfl (lv_at hl 0 rfl) ?_
  refine g_40_30 E hh tb764 (E.hn 40 0 (by decide)) dX8_atom_82 ?_
  refine lv_if_ne (tgt := 161) hx hb dX8_atom_85 (by decide) (fun c24 => ?_) (fun c24 => ?_)
  · have hw := ifF hw c24
    refine lv_iload_n hx hb dX8_atom_161 rfl (lv_at hl 1 rfl) ?_
    exact x_iret E hh hw dX8_atom_162
  · have hw := ifT hw c24
    refine lv_aload_n hx hb dX8_atom_88 rfl (lv_at hl 0 rfl) ?_
    refine x_cv E.hA hh (x_runV E hh (mX8_next E.hI E.hn hw) kX8_next tb966 (E.hn 40 0 (by decide)) rv_40 ⟨by omega, by omega⟩ rfl hl.1 rfl (Nat.le_of_ble_eq_true rfl) dX8_atom_89 ⟨Nat.zero_le _, Nat.zero_le _⟩) (fun S25 H locs hw hh => ?_)
    refine lv_goto (tgt := 161) hx hb dX8_atom_92 (by decide) ?_
    refine lv_iload_n hx hb dX8_atom_161 rfl (lv_at hl 1 rfl) ?_
    exact x_iret E hh hw dX8_atom_162
def wpX8_atom (F : Nat → St → (Int32 → St → Prop) → Prop) (S : St) (K : Int32 → St → Prop) : Prop := wpX8_isSign 45 S (fun r1 S1 => if r1 = 0 then (wpX8_isSign 40 S1 (fun r3 S3 => if r3 = 0 then (if (S3.1 40 0 30) = 0 then (if (S3.1 40 0 26) = 2 then (wpX8_next S3 (fun S7 => K ((sw S3 40 0).toInt32) S7)) else (wbX8_atom_123 F K 0 S3)) else (wbX8_atom_123 F K 0 S3)) else (wpX8_opens S3 (fun r8 S8 => if r8 = 0 then (K 0 S8) else (F 0 S8 (fun r10 S10 => wpX8_isSign 41 S10 (fun r11 S11 => if r11 = 0 then (wpX8_fail S11 (fun S13 => wbX8_atom_71 F K r10 S13)) else (wbX8_atom_71 F K r10 S11)))))))) else (wpX8_opens S1 (fun r14 S14 => if r14 = 0 then (K 0 S14) else (F 5 S14 (fun r16 S16 => (∀ S17, S17 = su S16 40 0 29 ((S16.1 40 0 29) - 1) → K (-r16) S17))))))
set_option maxRecDepth 4000 in
theorem bX8_atom {p : Program} {l : Launch} {e : Env} {R : Room} {s : State} {m : MethodId} {args : Array Value} {below : List Frame} {meth : Method} {c : Code} {D : va_G} {ad : Nat → Nat → Nat} {cs : Nat → ClassId} {P : Nat → Nat → Prop} {sz tU : Nat} {adK adV : Nat → Nat} {F : Nat → St → (Int32 → St → Prop) → Prop} {d : Nat} {K : Int32 → St → Prop} {S : St} {H : Heap} {locs : List Loc} {ls : Array Slot} (E : Ex p s m args meth c R RX8 cX8_atom 2 (some .int) (5 + (d + 1)) (151 + 23 * (d + 1)) D ad cs P (wA ad P) tU adK adV cnM) (hF0 : ∀ {S : St} {K : Int32 → St → Prop}, F 0  S K → MI l yX8_either cX8_either 3 (some .int) (5 + d) (151 + 23 * d) D ad cs P sz tU adK adV [.ref (ad 40 0)] S K) (hF1 : ∀ {S : St} {K : Int32 → St → Prop}, F 1  S K → MI l yX8_both cX8_both 3 (some .int) (5 + d) (151 + 23 * d) D ad cs P sz tU adK adV [.ref (ad 40 0)] S K) (hF2 : ∀ {S : St} {K : Int32 → St → Prop}, F 2  S K → MI l yX8_not cX8_not 4 (some .int) (5 + d) (151 + 23 * d) D ad cs P sz tU adK adV [.ref (ad 40 0)] S K) (hF3 : ∀ {S : St} {K : Int32 → St → Prop}, F 3  S K → MI l yX8_added cX8_added 4 (some .int) (5 + d) (151 + 23 * d) D ad cs P sz tU adK adV [.ref (ad 40 0)] S K) (hF4 : ∀ {S : St} {K : Int32 → St → Prop}, F 4  S K → MI l yX8_term cX8_term 2 (some .int) (5 + d) (151 + 23 * d) D ad cs P sz tU adK adV [.ref (ad 40 0)] S K) (hF5 : ∀ {S : St} {K : Int32 → St → Prop}, F 5  S K → MI l yX8_atom cX8_atom 2 (some .int) (5 + d) (151 + 23 * d) D ad cs P sz tU adK adV [.ref (ad 40 0)] S K) (hw : wpX8_atom F S K) (hh : wH D ad cs P (wA ad P) s.heap sz S H locs) (hl : lv_has ls 2 [(0, .ref (ad 40 0))]) : W p l e R s m args below meth c H locs 0 0 (MQ below (va_Qi K (QX D ad cs P sz) (wA ad P)) args s 0 0 (wA ad P)) (F0 m 0 ls []) := by
  have hx := E.hx
  have hb := E.hb
  refine lv_iconst (v := 0) hx hb dX8_atom_0 (by decide) ?_
  refine lv_istore_n (lv' := [(1, .int 0), (0, .ref (ad 40 0))]) hx hb dX8_atom_1 rfl hl (by decide) rfl (fun ls hl => ?_)
  refine lv_aload_n hx hb dX8_atom_2 rfl (lv_at hl 1 rfl) ?_
  refine lv_bipush (v := 45) hx hb dX8_atom_3 (by decide) ?_
  refine x_ci E.hA hh (x_runV E hh (mX8_isSign E.hI E.hn hw) kX8_isSign tb1023 (E.hn 40 0 (by decide)) rv_40 ⟨by omega, by omega⟩ rfl hl.1 rfl (Nat.le_of_ble_eq_true rfl) dX8_atom_5 ⟨Nat.zero_le _, Nat.zero_le _⟩) (fun r1 S1 H locs hw hh => ?_)
  have hq1 := hw.2
  have hw := hw.1
  refine lv_if_eq (tgt := 37) hx hb dX8_atom_8 (by decide) (fun c2 => ?_) (fun c2 => ?_)
  · have hw := ifT hw c2
    refine lv_aload_n hx hb dX8_atom_37 rfl (lv_at hl 1 rfl) ?_
    refine lv_bipush (v := 40) hx hb dX8_atom_38 (by decide) ?_
    refine x_ci E.hA hh (x_runV E hh (mX8_isSign E.hI E.hn hw) kX8_isSign tb1023 (E.hn 40 0 (by decide)) rv_40 ⟨by omega, by omega⟩ rfl hl.1 rfl (Nat.le_of_ble_eq_true rfl) dX8_atom_40 ⟨Nat.zero_le _, Nat.zero_le _⟩) (fun r3 S3 H locs hw hh => ?_)
    have hq3 := hw.2
    have hw := hw.1
    refine lv_if_eq (tgt := 95) hx hb dX8_atom_43 (by decide) (fun c4 => ?_) (fun c4 => ?_)
    · have hw := ifT hw c4
      refine lv_aload_n hx hb dX8_atom_95 rfl (lv_at hl 1 rfl) ?_
      refine g_40_30 E hh tb764 (E.hn 40 0 (by decide)) dX8_atom_96 ?_
      refine lv_if_ne (tgt := 123) hx hb dX8_atom_99 (by decide) (fun c5 => ?_) (fun c5 => ?_)
      · have hw := ifF hw c5
        exact bX8_atom_123 E hF0 hF1 hF2 hF3 hF4 hF5 hw hh (lv_sub hl [1, 0] rfl)
      · have hw := ifT hw c5
        refine lv_aload_n hx hb dX8_atom_102 rfl (lv_at hl 1 rfl) ?_
        refine g_40_26 E hh tb760 (E.hn 40 0 (by decide)) dX8_atom_103 ?_
        refine lv_iconst (v := 2) hx hb dX8_atom_106 (by decide) ?_
        refine lv_icmp_ne (tgt := 123) hx hb dX8_atom_107 (by decide) (fun c6 => ?_) (fun c6 => ?_)
        · have hw := ifF hw c6
          exact bX8_atom_123 E hF0 hF1 hF2 hF3 hF4 hF5 hw hh (lv_sub hl [1, 0] rfl)
        · have hw := ifT hw c6
          refine lv_aload_n hx hb dX8_atom_110 rfl (lv_at hl 1 rfl) ?_
          refine g_40_28 E hh tb762 (E.hn 40 0 (by decide)) dX8_atom_111 ?_
          refine lv_l2i hx hb dX8_atom_114 rfl ?_
          refine lv_istore_n (lv' := [(1, .int ((sw S3 40 0).toInt32)), (0, .ref (ad 40 0))]) hx hb dX8_atom_115 rfl hl (by decide) rfl (fun ls hl => ?_)
          refine lv_aload_n hx hb dX8_atom_116 rfl (lv_at hl 1 rfl) ?_
          refine x_cv E.hA hh (x_runV E hh (mX8_next E.hI E.hn hw) kX8_next tb966 (E.hn 40 0 (by decide)) rv_40 ⟨by omega, by omega⟩ rfl hl.1 rfl (Nat.le_of_ble_eq_true rfl) dX8_atom_117 ⟨Nat.zero_le _, Nat.zero_le _⟩) (fun S7 H locs hw hh => ?_)
          refine lv_goto (tgt := 161) hx hb dX8_atom_120 (by decide) ?_
          refine lv_iload_n hx hb dX8_atom_161 rfl (lv_at hl 0 rfl) ?_
          exact x_iret E hh hw dX8_atom_162
    · have hw := ifF hw c4
      refine lv_aload_n hx hb dX8_atom_46 rfl (lv_at hl 1 rfl) ?_
      refine x_ci E.hA hh (x_runV E hh (mX8_opens E.hI E.hn hw) kX8_opens tb1007 (E.hn 40 0 (by decide)) rv_40 ⟨by omega, by omega⟩ rfl hl.1 rfl (Nat.le_of_ble_eq_true rfl) dX8_atom_47 ⟨Nat.zero_le _, Nat.zero_le _⟩) (fun r8 S8 H locs hw hh => ?_)
      have hq8 := hw.2
      have hw := hw.1
      refine lv_if_eq (tgt := 161) hx hb dX8_atom_50 (by decide) (fun c9 => ?_) (fun c9 => ?_)
      · have hw := ifT hw c9
        refine lv_iload_n hx hb dX8_atom_161 rfl (lv_at hl 0 rfl) ?_
        exact x_iret E hh hw dX8_atom_162
      · have hw := ifF hw c9
        refine lv_aload_n hx hb dX8_atom_53 rfl (lv_at hl 1 rfl) ?_
        refine x_ci E.hA hh (x_runV E hh (hF0 hw) kX8_either tb995 (E.hn 40 0 (by decide)) rv_40 ⟨by omega, by omega⟩ rfl hl.1 rfl (Nat.le_of_ble_eq_true rfl) dX8_atom_54 ⟨Nat.zero_le _, Nat.zero_le _⟩) (fun r10 S10 H locs hw hh => ?_)
        refine lv_istore_n (lv' := [(1, .int r10), (0, .ref (ad 40 0))]) hx hb dX8_atom_57 rfl hl (by decide) rfl (fun ls hl => ?_)
        refine lv_aload_n hx hb dX8_atom_58 rfl (lv_at hl 1 rfl) ?_
        refine lv_bipush (v := 41) hx hb dX8_atom_59 (by decide) ?_
        refine x_ci E.hA hh (x_runV E hh (mX8_isSign E.hI E.hn hw) kX8_isSign tb1023 (E.hn 40 0 (by decide)) rv_40 ⟨by omega, by omega⟩ rfl hl.1 rfl (Nat.le_of_ble_eq_true rfl) dX8_atom_61 ⟨Nat.zero_le _, Nat.zero_le _⟩) (fun r11 S11 H locs hw hh => ?_)
        have hq11 := hw.2
        have hw := hw.1
        refine lv_if_ne (tgt := 71) hx hb dX8_atom_64 (by decide) (fun c12 => ?_) (fun c12 => ?_)
        · have hw := ifF hw c12
          exact bX8_atom_71 E hF0 hF1 hF2 hF3 hF4 hF5 hw hh (lv_sub hl [1, 0] rfl)
        · have hw := ifT hw c12
          refine lv_aload_n hx hb dX8_atom_67 rfl (lv_at hl 1 rfl) ?_
          refine x_cv E.hA hh (x_runV E hh (mX8_fail E.hI E.hn hw) kX8_fail tb991 (E.hn 40 0 (by decide)) rv_40 ⟨by omega, by omega⟩ rfl hl.1 rfl (Nat.le_of_ble_eq_true rfl) dX8_atom_68 ⟨Nat.zero_le _, Nat.zero_le _⟩) (fun S13 H locs hw hh => ?_)
          exact bX8_atom_71 E hF0 hF1 hF2 hF3 hF4 hF5 hw hh (lv_sub hl [1, 0] rfl)
  · have hw := ifF hw c2
    refine lv_aload_n hx hb dX8_atom_11 rfl (lv_at hl 1 rfl) ?_
    refine x_ci E.hA hh (x_runV E hh (mX8_opens E.hI E.hn hw) kX8_opens tb1007 (E.hn 40 0 (by decide)) rv_40 ⟨by omega, by omega⟩ rfl hl.1 rfl (Nat.le_of_ble_eq_true rfl) dX8_atom_12 ⟨Nat.zero_le _, Nat.zero_le _⟩) (fun r14 S14 H locs hw hh => ?_)
    have hq14 := hw.2
    have hw := hw.1
    refine lv_if_eq (tgt := 161) hx hb dX8_atom_15 (by decide) (fun c15 => ?_) (fun c15 => ?_)
    · have hw := ifT hw c15
      refine lv_iload_n hx hb dX8_atom_161 rfl (lv_at hl 0 rfl) ?_
      exact x_iret E hh hw dX8_atom_162
    · have hw := ifF hw c15
      refine lv_aload_n hx hb dX8_atom_18 rfl (lv_at hl 1 rfl) ?_
      refine x_ci E.hA hh (x_runV E hh (hF5 hw) kX8_atom tb1019 (E.hn 40 0 (by decide)) rv_40 ⟨by omega, by omega⟩ rfl hl.1 rfl (Nat.le_of_ble_eq_true rfl) dX8_atom_19 ⟨Nat.zero_le _, Nat.zero_le _⟩) (fun r16 S16 H locs hw hh => ?_)
      refine lv_ineg hx hb dX8_atom_22 ?_
      refine lv_istore_n (lv' := [(1, .int (-r16)), (0, .ref (ad 40 0))]) hx hb dX8_atom_23 rfl hl (by decide) rfl (fun ls hl => ?_)
      refine lv_aload_n hx hb dX8_atom_24 rfl (lv_at hl 1 rfl) ?_
      refine lv_dup hx hb dX8_atom_25 rfl ?_
      refine g_40_29 E hh tb763 (E.hn 40 0 (by decide)) dX8_atom_26 ?_
      refine lv_iconst (v := 1) hx hb dX8_atom_29 (by decide) ?_
      refine lv_isub hx hb dX8_atom_30 ?_
      refine p_40_29 E hh tb763 (E.hn 40 0 (by decide)) dX8_atom_31 (fun S17 H locs e17 hh => ?_)
      have hw := hw S17 e17
      refine lv_goto (tgt := 161) hx hb dX8_atom_34 (by decide) ?_
      refine lv_iload_n hx hb dX8_atom_161 rfl (lv_at hl 0 rfl) ?_
      exact x_iret E hh hw dX8_atom_162
def wpG3 : Nat → Nat → St → (Int32 → St → Prop) → Prop
  | 0 => fun _ _ _ => False
  | d + 1 => fun tag S K => if tag = 0 then wpX8_either (wpG3 d) S K else if tag = 1 then wpX8_both (wpG3 d) S K else if tag = 2 then wpX8_not (wpG3 d) S K else if tag = 3 then wpX8_added (wpG3 d) S K else if tag = 4 then wpX8_term (wpG3 d) S K else wpX8_atom (wpG3 d) S K
theorem mG3 {l : Launch} {D : va_G} {ad : Nat → Nat → Nat} {cs : Nat → ClassId} {P : Nat → Nat → Prop} {sz tU : Nat} {adK adV : Nat → Nat} (hI : wI ad P) (hn : ∀ kd i, i < cnM kd → P kd i) : ∀ d : Nat, (∀ {S : St} {K : Int32 → St → Prop}, wpG3 d 0  S K → MI l yX8_either cX8_either 3 (some .int) (5 + d) (151 + 23 * d) D ad cs P sz tU adK adV [.ref (ad 40 0)] S K) ∧ (∀ {S : St} {K : Int32 → St → Prop}, wpG3 d 1  S K → MI l yX8_both cX8_both 3 (some .int) (5 + d) (151 + 23 * d) D ad cs P sz tU adK adV [.ref (ad 40 0)] S K) ∧ (∀ {S : St} {K : Int32 → St → Prop}, wpG3 d 2  S K → MI l yX8_not cX8_not 4 (some .int) (5 + d) (151 + 23 * d) D ad cs P sz tU adK adV [.ref (ad 40 0)] S K) ∧ (∀ {S : St} {K : Int32 → St → Prop}, wpG3 d 3  S K → MI l yX8_added cX8_added 4 (some .int) (5 + d) (151 + 23 * d) D ad cs P sz tU adK adV [.ref (ad 40 0)] S K) ∧ (∀ {S : St} {K : Int32 → St → Prop}, wpG3 d 4  S K → MI l yX8_term cX8_term 2 (some .int) (5 + d) (151 + 23 * d) D ad cs P sz tU adK adV [.ref (ad 40 0)] S K) ∧ (∀ {S : St} {K : Int32 → St → Prop}, wpG3 d 5  S K → MI l yX8_atom cX8_atom 2 (some .int) (5 + d) (151 + 23 * d) D ad cs P sz tU adK adV [.ref (ad 40 0)] S K) := by
  intro d
  induction d with
  | zero => exact ⟨(fun hw => hw.elim), (fun hw => hw.elim), (fun hw => hw.elim), (fun hw => hw.elim), (fun hw => hw.elim), (fun hw => hw.elim)⟩
  | succ d ih =>
    obtain ⟨hF0, hF1, hF2, hF3, hF4, hF5⟩ := ih
    refine ⟨?_, ?_, ?_, ?_, ?_, ?_⟩
    · intro  S K  hw
      have hw : if (0 : Nat) = 0 then wpX8_either (wpG3 d) S K else if (0 : Nat) = 1 then wpX8_both (wpG3 d) S K else if (0 : Nat) = 2 then wpX8_not (wpG3 d) S K else if (0 : Nat) = 3 then wpX8_added (wpG3 d) S K else if (0 : Nat) = 4 then wpX8_term (wpG3 d) S K else wpX8_atom (wpG3 d) S K := hw
      rw [if_pos rfl] at hw
      exact Met_of (by decide) (Nat.le_of_ble_eq_true rfl) hI hn (fun p e R s m args below meth c ls E hl hh => bX8_either E @hF0 @hF1 @hF2 @hF3 @hF4 @hF5  hw hh (lv_sub hl [0] rfl))
    · intro  S K  hw
      have hw : if (1 : Nat) = 0 then wpX8_either (wpG3 d) S K else if (1 : Nat) = 1 then wpX8_both (wpG3 d) S K else if (1 : Nat) = 2 then wpX8_not (wpG3 d) S K else if (1 : Nat) = 3 then wpX8_added (wpG3 d) S K else if (1 : Nat) = 4 then wpX8_term (wpG3 d) S K else wpX8_atom (wpG3 d) S K := hw
      rw [if_neg (by decide)] at hw
      rw [if_pos rfl] at hw
      exact Met_of (by decide) (Nat.le_of_ble_eq_true rfl) hI hn (fun p e R s m args below meth c ls E hl hh => bX8_both E @hF0 @hF1 @hF2 @hF3 @hF4 @hF5  hw hh (lv_sub hl [0] rfl))
    · intro  S K  hw
      have hw : if (2 : Nat) = 0 then wpX8_either (wpG3 d) S K else if (2 : Nat) = 1 then wpX8_both (wpG3 d) S K else if (2 : Nat) = 2 then wpX8_not (wpG3 d) S K else if (2 : Nat) = 3 then wpX8_added (wpG3 d) S K else if (2 : Nat) = 4 then wpX8_term (wpG3 d) S K else wpX8_atom (wpG3 d) S K := hw
      rw [if_neg (by decide)] at hw
      rw [if_neg (by decide)] at hw
      rw [if_pos rfl] at hw
      exact Met_of (by decide) (Nat.le_of_ble_eq_true rfl) hI hn (fun p e R s m args below meth c ls E hl hh => bX8_not E @hF0 @hF1 @hF2 @hF3 @hF4 @hF5  hw hh (lv_sub hl [0] rfl))
    · intro  S K  hw
      have hw : if (3 : Nat) = 0 then wpX8_either (wpG3 d) S K else if (3 : Nat) = 1 then wpX8_both (wpG3 d) S K else if (3 : Nat) = 2 then wpX8_not (wpG3 d) S K else if (3 : Nat) = 3 then wpX8_added (wpG3 d) S K else if (3 : Nat) = 4 then wpX8_term (wpG3 d) S K else wpX8_atom (wpG3 d) S K := hw
      rw [if_neg (by decide)] at hw
      rw [if_neg (by decide)] at hw
      rw [if_neg (by decide)] at hw
      rw [if_pos rfl] at hw
      exact Met_of (by decide) (Nat.le_of_ble_eq_true rfl) hI hn (fun p e R s m args below meth c ls E hl hh => bX8_added E @hF0 @hF1 @hF2 @hF3 @hF4 @hF5  hw hh (lv_sub hl [0] rfl))
    · intro  S K  hw
      have hw : if (4 : Nat) = 0 then wpX8_either (wpG3 d) S K else if (4 : Nat) = 1 then wpX8_both (wpG3 d) S K else if (4 : Nat) = 2 then wpX8_not (wpG3 d) S K else if (4 : Nat) = 3 then wpX8_added (wpG3 d) S K else if (4 : Nat) = 4 then wpX8_term (wpG3 d) S K else wpX8_atom (wpG3 d) S K := hw
      rw [if_neg (by decide)] at hw
      rw [if_neg (by decide)] at hw
      rw [if_neg (by decide)] at hw
      rw [if_neg (by decide)] at hw
      rw [if_pos rfl] at hw
      exact Met_of (by decide) (Nat.le_of_ble_eq_true rfl) hI hn (fun p e R s m args below meth c ls E hl hh => bX8_term E @hF0 @hF1 @hF2 @hF3 @hF4 @hF5  hw hh (lv_sub hl [0] rfl))
    · intro  S K  hw
      have hw : if (5 : Nat) = 0 then wpX8_either (wpG3 d) S K else if (5 : Nat) = 1 then wpX8_both (wpG3 d) S K else if (5 : Nat) = 2 then wpX8_not (wpG3 d) S K else if (5 : Nat) = 3 then wpX8_added (wpG3 d) S K else if (5 : Nat) = 4 then wpX8_term (wpG3 d) S K else wpX8_atom (wpG3 d) S K := hw
      rw [if_neg (by decide)] at hw
      rw [if_neg (by decide)] at hw
      rw [if_neg (by decide)] at hw
      rw [if_neg (by decide)] at hw
      rw [if_neg (by decide)] at hw
      exact Met_of (by decide) (Nat.le_of_ble_eq_true rfl) hI hn (fun p e R s m args below meth c ls E hl hh => bX8_atom E @hF0 @hF1 @hF2 @hF3 @hF4 @hF5  hw hh (lv_sub hl [0] rfl))
theorem mG3_X8_either {l : Launch} {D : va_G} {ad : Nat → Nat → Nat} {cs : Nat → ClassId} {P : Nat → Nat → Prop} {sz tU : Nat} {adK adV : Nat → Nat} {S : St} {K : Int32 → St → Prop} (hI : wI ad P) (hn : ∀ kd i, i < cnM kd → P kd i) (d : Nat) (hw : wpG3 d 0  S K) : MI l yX8_either cX8_either 3 (some .int) (5 + d) (151 + 23 * d) D ad cs P sz tU adK adV [.ref (ad 40 0)] S K := (mG3 hI hn d).1  hw
theorem mG3_X8_both {l : Launch} {D : va_G} {ad : Nat → Nat → Nat} {cs : Nat → ClassId} {P : Nat → Nat → Prop} {sz tU : Nat} {adK adV : Nat → Nat} {S : St} {K : Int32 → St → Prop} (hI : wI ad P) (hn : ∀ kd i, i < cnM kd → P kd i) (d : Nat) (hw : wpG3 d 1  S K) : MI l yX8_both cX8_both 3 (some .int) (5 + d) (151 + 23 * d) D ad cs P sz tU adK adV [.ref (ad 40 0)] S K := (mG3 hI hn d).2.1  hw
theorem mG3_X8_not {l : Launch} {D : va_G} {ad : Nat → Nat → Nat} {cs : Nat → ClassId} {P : Nat → Nat → Prop} {sz tU : Nat} {adK adV : Nat → Nat} {S : St} {K : Int32 → St → Prop} (hI : wI ad P) (hn : ∀ kd i, i < cnM kd → P kd i) (d : Nat) (hw : wpG3 d 2  S K) : MI l yX8_not cX8_not 4 (some .int) (5 + d) (151 + 23 * d) D ad cs P sz tU adK adV [.ref (ad 40 0)] S K := (mG3 hI hn d).2.2.1  hw
theorem mG3_X8_added {l : Launch} {D : va_G} {ad : Nat → Nat → Nat} {cs : Nat → ClassId} {P : Nat → Nat → Prop} {sz tU : Nat} {adK adV : Nat → Nat} {S : St} {K : Int32 → St → Prop} (hI : wI ad P) (hn : ∀ kd i, i < cnM kd → P kd i) (d : Nat) (hw : wpG3 d 3  S K) : MI l yX8_added cX8_added 4 (some .int) (5 + d) (151 + 23 * d) D ad cs P sz tU adK adV [.ref (ad 40 0)] S K := (mG3 hI hn d).2.2.2.1  hw
theorem mG3_X8_term {l : Launch} {D : va_G} {ad : Nat → Nat → Nat} {cs : Nat → ClassId} {P : Nat → Nat → Prop} {sz tU : Nat} {adK adV : Nat → Nat} {S : St} {K : Int32 → St → Prop} (hI : wI ad P) (hn : ∀ kd i, i < cnM kd → P kd i) (d : Nat) (hw : wpG3 d 4  S K) : MI l yX8_term cX8_term 2 (some .int) (5 + d) (151 + 23 * d) D ad cs P sz tU adK adV [.ref (ad 40 0)] S K := (mG3 hI hn d).2.2.2.2.1  hw
theorem mG3_X8_atom {l : Launch} {D : va_G} {ad : Nat → Nat → Nat} {cs : Nat → ClassId} {P : Nat → Nat → Prop} {sz tU : Nat} {adK adV : Nat → Nat} {S : St} {K : Int32 → St → Prop} (hI : wI ad P) (hn : ∀ kd i, i < cnM kd → P kd i) (d : Nat) (hw : wpG3 d 5  S K) : MI l yX8_atom cX8_atom 2 (some .int) (5 + d) (151 + 23 * d) D ad cs P sz tU adK adV [.ref (ad 40 0)] S K := (mG3 hI hn d).2.2.2.2.2  hw
