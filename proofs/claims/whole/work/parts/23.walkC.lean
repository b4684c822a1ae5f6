/-! walks, written by wip/whole/tools/walk.py: 23.walkC -/
def wpX7_man (x1 : Int32) (S : St) (K : Int32 → St → Prop) : Prop := wpX7_within x1 0 9 S (fun r1 S1 => if r1 = 0 then (K (-2) S1) else (if (S1.1 10 0 0) < 4 then ((vp_in (S1.1 10 0 0) 4 ∧ ∀ S4, S4 = su S1 11 0 (S1.1 10 0 0).toNatClampNeg x1 → (∀ S5, S5 = su S4 10 0 0 ((S4.1 10 0 0) + 1) → K ((S5.1 10 0 0) - 1) S5))) else (K (-4) S1)))
set_option maxRecDepth 4000 in
theorem bX7_man {p : Program} {l : Launch} {e : Env} {R : Room} {s : State} {m : MethodId} {args : Array Value} {below : List Frame} {meth : Method} {c : Code} {D : va_G} {ad : Nat → Nat → Nat} {cs : Nat → ClassId} {P : Nat → Nat → Prop} {sz tU : Nat} {adK adV : Nat → Nat} {K : Int32 → St → Prop} {x1 : Int32} {S : St} {H : Heap} {locs : List Loc} {ls : Array Slot} (E : Ex p s m args meth c R RX7 cX7_man 2 (some .int) 2 82 D ad cs P (wA ad P) tU adK adV cnA) (hw : wpX7_man x1 S K) (hh : wH D ad cs P (wA ad P) s.heap sz S H locs) (hl : lv_has ls 2 [(0, .ref (ad 0 0)), (1, .int x1)]) : W p l e R s m args below meth c H locs 0 0 (MQ below (va_Qi K (QX D ad cs P sz) (wA ad P)) args s 0 0 (wA ad P)) (F0 m 0 ls []) := by
  have hx := E.hx
  have hb := E.hb
  refine lv_iload_n hx hb dX7_man_0 rfl (lv_at hl 1 rfl) ?_
  refine lv_iconst (v := 0) hx hb dX7_man_1 (by decide) ?_
  refine lv_bipush (v := 9) hx hb dX7_man_2 (by decide) ?_
  refine x_ci E.hA hh (x_runS E hh (mX7_within E.hI (fun _ _ h => absurd h (Nat.not_lt_zero _)) hw) kX7_within tb405 ⟨by decide, by decide⟩ rfl hl.1 rfl (Nat.le_of_ble_eq_true rfl) dX7_man_4 ⟨Nat.zero_le _, Nat.zero_le _⟩) (fun r1 S1 H locs hw hh => ?_)
  have hq1 := hw.2
  have hw := hw.1
  refine lv_if_ne (tgt := 13) hx hb dX7_man_7 (by decide) (fun c2 => ?_) (fun c2 => ?_)
  · have hw := ifF hw c2
    refine lv_aload_n hx hb dX7_man_13 rfl (lv_at hl 0 rfl) ?_
    refine g_0_3 E hh tb373 (E.hn 0 0 (by decide)) dX7_man_14 ?_
    refine g_10_0 E hh tb310 (E.hn 10 0 (by decide)) dX7_man_17 ?_
    refine lv_iconst (v := 4) hx hb dX7_man_20 (by decide) ?_
    refine lv_icmp_lt (tgt := 27) hx hb dX7_man_21 (by decide) (fun c3 => ?_) (fun c3 => ?_)
    · have hw := ifT hw c3
      refine lv_aload_n hx hb dX7_man_27 rfl (lv_at hl 0 rfl) ?_
      refine g_0_3 E hh tb373 (E.hn 0 0 (by decide)) dX7_man_28 ?_
      refine g_10_6 E hh tb327 (E.hn 10 0 (by decide)) dX7_man_31 ?_
      refine lv_aload_n hx hb dX7_man_34 rfl (lv_at hl 0 rfl) ?_
      refine g_0_3 E hh tb373 (E.hn 0 0 (by decide)) dX7_man_35 ?_
      refine g_10_0 E hh tb310 (E.hn 10 0 (by decide)) dX7_man_38 ?_
      refine lv_iload_n hx hb dX7_man_41 rfl (lv_at hl 1 rfl) ?_
      obtain ⟨hi4, hw⟩ := hw
      refine x_iast E hh (E.hn 11 0 (by decide)) ly_11 hi4 dX7_man_42 (fun S4 H locs e4 hh => ?_)
      have hw := hw S4 e4
      refine lv_aload_n hx hb dX7_man_43 rfl (lv_at hl 0 rfl) ?_
      refine g_0_3 E hh tb373 (E.hn 0 0 (by decide)) dX7_man_44 ?_
      refine lv_dup hx hb dX7_man_47 rfl ?_
      refine g_10_0 E hh tb310 (E.hn 10 0 (by decide)) dX7_man_48 ?_
      refine lv_iconst (v := 1) hx hb dX7_man_51 (by decide) ?_
      refine lv_iadd hx hb dX7_man_52 ?_
      refine p_10_0 E hh tb310 (E.hn 10 0 (by decide)) dX7_man_53 (fun S5 H locs e5 hh => ?_)
      have hw := hw S5 e5
      refine lv_aload_n hx hb dX7_man_56 rfl (lv_at hl 0 rfl) ?_
      refine g_0_3 E hh tb373 (E.hn 0 0 (by decide)) dX7_man_57 ?_
      refine g_10_0 E hh tb310 (E.hn 10 0 (by decide)) dX7_man_60 ?_
      refine lv_iconst (v := 1) hx hb dX7_man_63 (by decide) ?_
      refine lv_isub hx hb dX7_man_64 ?_
      exact x_iret E hh hw dX7_man_65
    · have hw := ifF hw c3
      refine lv_bipush (v := (-4)) hx hb dX7_man_24 (by decide) ?_
      exact x_iret E hh hw dX7_man_26
  · have hw := ifT hw c2
    refine lv_bipush (v := (-2)) hx hb dX7_man_10 (by decide) ?_
    exact x_iret E hh hw dX7_man_12
theorem kX7_man : kI yX7_man cX7_man 2 (some .int) 1 := ⟨tb402, tb403, tb1, tb404, by decide, by decide, by decide +kernel⟩
theorem mX7_man {l : Launch} {D : va_G} {ad : Nat → Nat → Nat} {cs : Nat → ClassId} {P : Nat → Nat → Prop} {sz tU : Nat} {adK adV : Nat → Nat} {x1 : Int32} {S : St} {K : Int32 → St → Prop} (hI : wI ad P) (hn : ∀ kd i, i < cnA kd → P kd i) (hw : wpX7_man x1 S K) : MI l yX7_man cX7_man 2 (some .int) 2 82 D ad cs P sz tU adK adV [.ref (ad 0 0), .int x1] S K :=
  Met_of (by decide) (Nat.le_of_ble_eq_true rfl) hI hn (fun p e R s m args below meth c ls E hl hh => bX7_man E  hw hh (lv_sub hl [0, 1] rfl))
def wpX7_maid (x1 : Int32) (x2 : Int32) (S : St) (K : Int32 → St → Prop) : Prop := wpX7_within x1 0 5 S (fun r1 S1 => if r1 = 0 then (K (-2) S1) else (wpX7_within x2 0 9 S1 (fun r3 S3 => if r3 = 0 then (K (-2) S3) else (if (S3.1 10 0 1) < 4 then ((vp_in (S3.1 10 0 1) 4 ∧ ∀ S6, S6 = su S3 13 0 (S3.1 10 0 1).toNatClampNeg x1 → (vp_in (S6.1 10 0 1) 4 ∧ ∀ S7, S7 = su S6 14 0 (S6.1 10 0 1).toNatClampNeg x2 → (∀ S8, S8 = su S7 10 0 1 ((S7.1 10 0 1) + 1) → K ((S8.1 10 0 1) - 1) S8)))) else (K (-4) S3)))))
set_option maxRecDepth 4000 in
theorem bX7_maid {p : Program} {l : Launch} {e : Env} {R : Room} {s : State} {m : MethodId} {args : Array Value} {below : List Frame} {meth : Method} {c : Code} {D : va_G} {ad : Nat → Nat → Nat} {cs : Nat → ClassId} {P : Nat → Nat → Prop} {sz tU : Nat} {adK adV : Nat → Nat} {K : Int32 → St → Prop} {x1 : Int32} {x2 : Int32} {S : St} {H : Heap} {locs : List Loc} {ls : Array Slot} (E : Ex p s m args meth c R RX7 cX7_maid 3 (some .int) 2 82 D ad cs P (wA ad P) tU adK adV cnA) (hw : wpX7_maid x1 x2 S K) (hh : wH D ad cs P (wA ad P) s.heap sz S H locs) (hl : lv_has ls 3 [(0, .ref (ad 0 0)), (1, .int x1), (2, .int x2)]) : W p l e R s m args below meth c H locs 0 0 (MQ below (va_Qi K (QX D ad cs P sz) (wA ad P)) args s 0 0 (wA ad P)) (F0 m 0 ls []) := by
  have hx := E.hx
  have hb := E.hb
  refine lv_iload_n hx hb dX7_maid_0 rfl (lv_at hl 1 rfl) ?_
  refine lv_iconst (v := 0) hx hb dX7_maid_1 (by decide) ?_
  refine lv_iconst (v := 5) hx hb dX7_maid_2 (by decide) ?_
  refine x_ci E.hA hh (x_runS E hh (mX7_within E.hI (fun _ _ h => absurd h (Nat.not_lt_zero _)) hw) kX7_within tb405 ⟨by decide, by decide⟩ rfl hl.1 rfl (Nat.le_of_ble_eq_true rfl) dX7_maid_3 ⟨Nat.zero_le _, Nat.zero_le _⟩) (fun r1 S1 H locs hw hh => ?_)
  have hq1 := hw.2
  have hw := hw.1
  refine lv_if_eq (tgt := 19) hx hb dX7_maid_6 (by decide) (fun c2 => ?_) (fun c2 => ?_)
  · have hw := ifT hw c2
    refine lv_bipush (v := (-2)) hx hb dX7_maid_19 (by decide) ?_
    exact x_iret E hh hw dX7_maid_21
  · have hw := ifF hw c2
    refine lv_iload_n hx hb dX7_maid_9 rfl (lv_at hl 2 rfl) ?_
    refine lv_iconst (v := 0) hx hb dX7_maid_10 (by decide) ?_
    refine lv_bipush (v := 9) hx hb dX7_maid_11 (by decide) ?_
    refine x_ci E.hA hh (x_runS E hh (mX7_within E.hI (fun _ _ h => absurd h (Nat.not_lt_zero _)) hw) kX7_within tb405 ⟨by decide, by decide⟩ rfl hl.1 rfl (Nat.le_of_ble_eq_true rfl) dX7_maid_13 ⟨Nat.zero_le _, Nat.zero_le _⟩) (fun r3 S3 H locs hw hh => ?_)
    have hq3 := hw.2
    have hw := hw.1
    refine lv_if_ne (tgt := 22) hx hb dX7_maid_16 (by decide) (fun c4 => ?_) (fun c4 => ?_)
    · have hw := ifF hw c4
      refine lv_aload_n hx hb dX7_maid_22 rfl (lv_at hl 0 rfl) ?_
      refine g_0_3 E hh tb373 (E.hn 0 0 (by decide)) dX7_maid_23 ?_
      refine g_10_1 E hh tb313 (E.hn 10 0 (by decide)) dX7_maid_26 ?_
      refine lv_iconst (v := 4) hx hb dX7_maid_29 (by decide) ?_
      refine lv_icmp_lt (tgt := 36) hx hb dX7_maid_30 (by decide) (fun c5 => ?_) (fun c5 => ?_)
      · have hw := ifT hw c5
        refine lv_aload_n hx hb dX7_maid_36 rfl (lv_at hl 0 rfl) ?_
        refine g_0_3 E hh tb373 (E.hn 0 0 (by decide)) dX7_maid_37 ?_
        refine g_10_8 E hh tb332 (E.hn 10 0 (by decide)) dX7_maid_40 ?_
        refine lv_aload_n hx hb dX7_maid_43 rfl (lv_at hl 0 rfl) ?_
        refine g_0_3 E hh tb373 (E.hn 0 0 (by decide)) dX7_maid_44 ?_
        refine g_10_1 E hh tb313 (E.hn 10 0 (by decide)) dX7_maid_47 ?_
        refine lv_iload_n hx hb dX7_maid_50 rfl (lv_at hl 1 rfl) ?_
        obtain ⟨hi6, hw⟩ := hw
        refine x_iast E hh (E.hn 13 0 (by decide)) ly_13 hi6 dX7_maid_51 (fun S6 H locs e6 hh => ?_)
        have hw := hw S6 e6
        refine lv_aload_n hx hb dX7_maid_52 rfl (lv_at hl 0 rfl) ?_
        refine g_0_3 E hh tb373 (E.hn 0 0 (by decide)) dX7_maid_53 ?_
        refine g_10_9 E hh tb334 (E.hn 10 0 (by decide)) dX7_maid_56 ?_
        refine lv_aload_n hx hb dX7_maid_59 rfl (lv_at hl 0 rfl) ?_
        refine g_0_3 E hh tb373 (E.hn 0 0 (by decide)) dX7_maid_60 ?_
        refine g_10_1 E hh tb313 (E.hn 10 0 (by decide)) dX7_maid_63 ?_
        refine lv_iload_n hx hb dX7_maid_66 rfl (lv_at hl 2 rfl) ?_
        obtain ⟨hi7, hw⟩ := hw
        refine x_iast E hh (E.hn 14 0 (by decide)) ly_14 hi7 dX7_maid_67 (fun S7 H locs e7 hh => ?_)
        have hw := hw S7 e7
        refine lv_aload_n hx hb dX7_maid_68 rfl (lv_at hl 0 rfl) ?_
        refine g_0_3 E hh tb373 (E.hn 0 0 (by decide)) dX7_maid_69 ?_
        refine lv_dup hx hb dX7_maid_72 rfl ?_
        refine g_10_1 E hh tb313 (E.hn 10 0 (by decide)) dX7_maid_73 ?_
        refine lv_iconst (v := 1) hx hb dX7_maid_76 (by decide) ?_
        refine lv_iadd hx hb dX7_maid_77 ?_
        refine p_10_1 E hh tb313 (E.hn 10 0 (by decide)) dX7_maid_78 (fun S8 H locs e8 hh => ?_)
        have hw := hw S8 e8
        refine lv_aload_n hx hb dX7_maid_81 rfl (lv_at hl 0 rfl) ?_
        refine g_0_3 E hh tb373 (E.hn 0 0 (by decide)) dX7_maid_82 ?_
        refine g_10_1 E hh tb313 (E.hn 10 0 (by decide)) dX7_maid_85 ?_
        refine lv_iconst (v := 1) hx hb dX7_maid_88 (by decide) ?_
        refine lv_isub hx hb dX7_maid_89 ?_
        exact x_iret E hh hw dX7_maid_90
      · have hw := ifF hw c5
        refine lv_bipush (v := (-4)) hx hb dX7_maid_33 (by decide) ?_
        exact x_iret E hh hw dX7_maid_35
    · have hw := ifT hw c4
      refine lv_bipush (v := (-2)) hx hb dX7_maid_19 (by decide) ?_
      exact x_iret E hh hw dX7_maid_21
theorem kX7_maid : kI yX7_maid cX7_maid 3 (some .int) 2 := ⟨tb409, tb410, tb1, tb411, by decide, by decide, by decide +kernel⟩
theorem mX7_maid {l : Launch} {D : va_G} {ad : Nat → Nat → Nat} {cs : Nat → ClassId} {P : Nat → Nat → Prop} {sz tU : Nat} {adK adV : Nat → Nat} {x1 : Int32} {x2 : Int32} {S : St} {K : Int32 → St → Prop} (hI : wI ad P) (hn : ∀ kd i, i < cnA kd → P kd i) (hw : wpX7_maid x1 x2 S K) : MI l yX7_maid cX7_maid 3 (some .int) 2 82 D ad cs P sz tU adK adV [.ref (ad 0 0), .int x1, .int x2] S K :=
  Met_of (by decide) (Nat.le_of_ble_eq_true rfl) hI hn (fun p e R s m args below meth c ls E hl hh => bX7_maid E  hw hh (lv_sub hl [0, 1, 2] rfl))
def wpX7_isMaid (x1 : Int32) (S : St) (K : Int32 → St → Prop) : Prop := wpX7_within x1 0 ((S.1 10 0 1) - 1) S (fun r1 S1 => K r1 S1)
set_option maxRecDepth 4000 in
theorem bX7_isMaid {p : Program} {l : Launch} {e : Env} {R : Room} {s : State} {m : MethodId} {args : Array Value} {below : List Frame} {meth : Method} {c : Code} {D : va_G} {ad : Nat → Nat → Nat} {cs : Nat → ClassId} {P : Nat → Nat → Prop} {sz tU : Nat} {adK adV : Nat → Nat} {K : Int32 → St → Prop} {x1 : Int32} {S : St} {H : Heap} {locs : List Loc} {ls : Array Slot} (E : Ex p s m args meth c R RX7 cX7_isMaid 2 (some .boolean) 2 82 D ad cs P (wA ad P) tU adK adV cnA) (hw : wpX7_isMaid x1 S K) (hh : wH D ad cs P (wA ad P) s.heap sz S H locs) (hl : lv_has ls 2 [(0, .ref (ad 0 0)), (1, .int x1)]) : W p l e R s m args below meth c H locs 0 0 (MQ below (va_Qi (fun r S => K r S ∧ narrow .boolean (.int r) = .int r) (QX D ad cs P sz) (wA ad P)) args s 0 0 (wA ad P)) (F0 m 0 ls []) := by
  have hx := E.hx
  have hb := E.hb
  refine lv_iload_n hx hb dX7_isMaid_0 rfl (lv_at hl 1 rfl) ?_
  refine lv_iconst (v := 0) hx hb dX7_isMaid_1 (by decide) ?_
  refine lv_aload_n hx hb dX7_isMaid_2 rfl (lv_at hl 0 rfl) ?_
  refine g_0_3 E hh tb373 (E.hn 0 0 (by decide)) dX7_isMaid_3 ?_
  refine g_10_1 E hh tb313 (E.hn 10 0 (by decide)) dX7_isMaid_6 ?_
  refine lv_iconst (v := 1) hx hb dX7_isMaid_9 (by decide) ?_
  refine lv_isub hx hb dX7_isMaid_10 ?_
  refine x_ci E.hA hh (x_runS E hh (mX7_within E.hI (fun _ _ h => absurd h (Nat.not_lt_zero _)) hw) kX7_within tb405 ⟨by decide, by decide⟩ rfl hl.1 rfl (Nat.le_of_ble_eq_true rfl) dX7_isMaid_11 ⟨Nat.zero_le _, Nat.zero_le _⟩) (fun r1 S1 H locs hw hh => ?_)
  have hq1 := hw.2
  have hw := hw.1
  exact x_zret E hh hw hq1 dX7_isMaid_14
theorem kX7_isMaid : kI yX7_isMaid cX7_isMaid 2 (some .boolean) 1 := ⟨tb426, ts12, tb1, tb427, by decide, by decide, by decide +kernel⟩
theorem mX7_isMaid {l : Launch} {D : va_G} {ad : Nat → Nat → Nat} {cs : Nat → ClassId} {P : Nat → Nat → Prop} {sz tU : Nat} {adK adV : Nat → Nat} {x1 : Int32} {S : St} {K : Int32 → St → Prop} (hI : wI ad P) (hn : ∀ kd i, i < cnA kd → P kd i) (hw : wpX7_isMaid x1 S K) : MI l yX7_isMaid cX7_isMaid 2 (some .boolean) 2 82 D ad cs P sz tU adK adV [.ref (ad 0 0), .int x1] S (fun r S => K r S ∧ narrow .boolean (.int r) = .int r) :=
  Met_of (by decide) (Nat.le_of_ble_eq_true rfl) hI hn (fun p e R s m args below meth c ls E hl hh => bX7_isMaid E  hw hh (lv_sub hl [0, 1] rfl))
def wpX7_isMan (x1 : Int32) (S : St) (K : Int32 → St → Prop) : Prop := wpX7_within x1 0 ((S.1 10 0 0) - 1) S (fun r1 S1 => K r1 S1)
set_option maxRecDepth 4000 in
theorem bX7_isMan {p : Program} {l : Launch} {e : Env} {R : Room} {s : State} {m : MethodId} {args : Array Value} {below : List Frame} {meth : Method} {c : Code} {D : va_G} {ad : Nat → Nat → Nat} {cs : Nat → ClassId} {P : Nat → Nat → Prop} {sz tU : Nat} {adK adV : Nat → Nat} {K : Int32 → St → Prop} {x1 : Int32} {S : St} {H : Heap} {locs : List Loc} {ls : Array Slot} (E : Ex p s m args meth c R RX7 cX7_isMan 2 (some .boolean) 2 82 D ad cs P (wA ad P) tU adK adV cnA) (hw : wpX7_isMan x1 S K) (hh : wH D ad cs P (wA ad P) s.heap sz S H locs) (hl : lv_has ls 2 [(0, .ref (ad 0 0)), (1, .int x1)]) : W p l e R s m args below meth c H locs 0 0 (MQ below (va_Qi (fun r S => K r S ∧ narrow .boolean (.int r) = .int r) (QX D ad cs P sz) (wA ad P)) args s 0 0 (wA ad P)) (F0 m 0 ls []) := by
  have hx := E.hx
  have hb := E.hb
  refine lv_iload_n hx hb dX7_isMan_0 rfl (lv_at hl 1 rfl) ?_
  refine lv_iconst (v := 0) hx hb dX7_isMan_1 (by decide) ?_
  refine lv_aload_n hx hb dX7_isMan_2 rfl (lv_at hl 0 rfl) ?_
  refine g_0_3 E hh tb373 (E.hn 0 0 (by decide)) dX7_isMan_3 ?_
  refine g_10_0 E hh tb310 (E.hn 10 0 (by decide)) dX7_isMan_6 ?_
  refine lv_iconst (v := 1) hx hb dX7_isMan_9 (by decide) ?_
  refine lv_isub hx hb dX7_isMan_10 ?_
  refine x_ci E.hA hh (x_runS E hh (mX7_within E.hI (fun _ _ h => absurd h (Nat.not_lt_zero _)) hw) kX7_within tb405 ⟨by decide, by decide⟩ rfl hl.1 rfl (Nat.le_of_ble_eq_true rfl) dX7_isMan_11 ⟨Nat.zero_le _, Nat.zero_le _⟩) (fun r1 S1 H locs hw hh => ?_)
  have hq1 := hw.2
  have hw := hw.1
  exact x_zret E hh hw hq1 dX7_isMan_14
theorem kX7_isMan : kI yX7_isMan cX7_isMan 2 (some .boolean) 1 := ⟨tb422, ts11, tb1, tb423, by decide, by decide, by decide +kernel⟩
theorem mX7_isMan {l : Launch} {D : va_G} {ad : Nat → Nat → Nat} {cs : Nat → ClassId} {P : Nat → Nat → Prop} {sz tU : Nat} {adK adV : Nat → Nat} {x1 : Int32} {S : St} {K : Int32 → St → Prop} (hI : wI ad P) (hn : ∀ kd i, i < cnA kd → P kd i) (hw : wpX7_isMan x1 S K) : MI l yX7_isMan cX7_isMan 2 (some .boolean) 2 82 D ad cs P sz tU adK adV [.ref (ad 0 0), .int x1] S (fun r S => K r S ∧ narrow .boolean (.int r) = .int r) :=
  Met_of (by decide) (Nat.le_of_ble_eq_true rfl) hI hn (fun p e R s m args below meth c ls E hl hh => bX7_isMan E  hw hh (lv_sub hl [0, 1] rfl))
def wpX7_arePair (x1 : Int32) (x2 : Int32) (S : St) (K : Int32 → St → Prop) : Prop := wpX7_isMan x1 S (fun r1 S1 => if r1 = 0 then (K 0 S1) else (wpX7_isMaid x2 S1 (fun r3 S3 => if r3 = 0 then (K 0 S3) else (K 1 S3))))
set_option maxRecDepth 4000 in
theorem bX7_arePair {p : Program} {l : Launch} {e : Env} {R : Room} {s : State} {m : MethodId} {args : Array Value} {below : List Frame} {meth : Method} {c : Code} {D : va_G} {ad : Nat → Nat → Nat} {cs : Nat → ClassId} {P : Nat → Nat → Prop} {sz tU : Nat} {adK adV : Nat → Nat} {K : Int32 → St → Prop} {x1 : Int32} {x2 : Int32} {S : St} {H : Heap} {locs : List Loc} {ls : Array Slot} (E : Ex p s m args meth c R RX7 cX7_arePair 3 (some .boolean) 3 103 D ad cs P (wA ad P) tU adK adV cnA) (hw : wpX7_arePair x1 x2 S K) (hh : wH D ad cs P (wA ad P) s.heap sz S H locs) (hl : lv_has ls 3 [(0, .ref (ad 0 0)), (1, .int x1), (2, .int x2)]) : W p l e R s m args below meth c H locs 0 0 (MQ below (va_Qi (fun r S => K r S ∧ narrow .boolean (.int r) = .int r) (QX D ad cs P sz) (wA ad P)) args s 0 0 (wA ad P)) (F0 m 0 ls []) := by
  have hx := E.hx
  have hb := E.hb
  refine lv_aload_n hx hb dX7_arePair_0 rfl (lv_at hl 0 rfl) ?_
  refine lv_iload_n hx hb dX7_arePair_1 rfl (lv_at hl 1 rfl) ?_
  refine x_ci E.hA hh (x_runV E hh (mX7_isMan E.hI E.hn hw) kX7_isMan tb420 (E.hn 0 0 (by decide)) rv_0 ⟨by decide, by decide⟩ rfl hl.1 rfl (Nat.le_of_ble_eq_true rfl) dX7_arePair_2 ⟨Nat.zero_le _, Nat.zero_le _⟩) (fun r1 S1 H locs hw hh => ?_)
  have hq1 := hw.2
  have hw := hw.1
  refine lv_if_eq (tgt := 20) hx hb dX7_arePair_5 (by decide) (fun c2 => ?_) (fun c2 => ?_)
  · have hw := ifT hw c2
    refine lv_iconst (v := 0) hx hb dX7_arePair_20 (by decide) ?_
    exact x_zret E hh hw rfl dX7_arePair_21
  · have hw := ifF hw c2
    refine lv_aload_n hx hb dX7_arePair_8 rfl (lv_at hl 0 rfl) ?_
    refine lv_iload_n hx hb dX7_arePair_9 rfl (lv_at hl 2 rfl) ?_
    refine x_ci E.hA hh (x_runV E hh (mX7_isMaid E.hI E.hn hw) kX7_isMaid tb424 (E.hn 0 0 (by decide)) rv_0 ⟨by decide, by decide⟩ rfl hl.1 rfl (Nat.le_of_ble_eq_true rfl) dX7_arePair_10 ⟨Nat.zero_le _, Nat.zero_le _⟩) (fun r3 S3 H locs hw hh => ?_)
    have hq3 := hw.2
    have hw := hw.1
    refine lv_if_eq (tgt := 20) hx hb dX7_arePair_13 (by decide) (fun c4 => ?_) (fun c4 => ?_)
    · have hw := ifT hw c4
      refine lv_iconst (v := 0) hx hb dX7_arePair_20 (by decide) ?_
      exact x_zret E hh hw rfl dX7_arePair_21
    · have hw := ifF hw c4
      refine lv_iconst (v := 1) hx hb dX7_arePair_16 (by decide) ?_
      refine lv_goto (tgt := 21) hx hb dX7_arePair_17 (by decide) ?_
      exact x_zret E hh hw rfl dX7_arePair_21
theorem kX7_arePair : kI yX7_arePair cX7_arePair 3 (some .boolean) 2 := ⟨tb418, ts10, tb1, tb419, by decide, by decide, by decide +kernel⟩
theorem mX7_arePair {l : Launch} {D : va_G} {ad : Nat → Nat → Nat} {cs : Nat → ClassId} {P : Nat → Nat → Prop} {sz tU : Nat} {adK adV : Nat → Nat} {x1 : Int32} {x2 : Int32} {S : St} {K : Int32 → St → Prop} (hI : wI ad P) (hn : ∀ kd i, i < cnA kd → P kd i) (hw : wpX7_arePair x1 x2 S K) : MI l yX7_arePair cX7_arePair 3 (some .boolean) 3 103 D ad cs P sz tU adK adV [.ref (ad 0 0), .int x1, .int x2] S (fun r S => K r S ∧ narrow .boolean (.int r) = .int r) :=
  Met_of (by decide) (Nat.le_of_ble_eq_true rfl) hI hn (fun p e R s m args below meth c ls E hl hh => bX7_arePair E  hw hh (lv_sub hl [0, 1, 2] rfl))
def wpX7_likes (x1 : Int32) (x2 : Int32) (x3 : Int32) (x4 : Int32) (S : St) (K : Int32 → St → Prop) : Prop := wpX7_arePair x1 x2 S (fun r1 S1 => if r1 = 0 then (K (-2) S1) else (wpX7_within x3 0 1 S1 (fun r3 S3 => if r3 = 0 then (K (-2) S3) else (wpX7_within x4 0 99 S3 (fun r5 S5 => if r5 = 0 then (K (-2) S5) else (if x3 = 0 then (wpX5_at x1 x2 S5 (fun r10 S10 => wpX7_replace 15 0 16 r10 x4 S10 (fun r11 S11 => K r11 S11))) else (wpX5_at x1 x2 S5 (fun r8 S8 => wpX7_replace 16 0 16 r8 x4 S8 (fun r9 S9 => K r9 S9)))))))))
set_option maxRecDepth 4000 in
theorem bX7_likes {p : Program} {l : Launch} {e : Env} {R : Room} {s : State} {m : MethodId} {args : Array Value} {below : List Frame} {meth : Method} {c : Code} {D : va_G} {ad : Nat → Nat → Nat} {cs : Nat → ClassId} {P : Nat → Nat → Prop} {sz tU : Nat} {adK adV : Nat → Nat} {K : Int32 → St → Prop} {x1 : Int32} {x2 : Int32} {x3 : Int32} {x4 : Int32} {S : St} {H : Heap} {locs : List Loc} {ls : Array Slot} (E : Ex p s m args meth c R RX7 cX7_likes 5 (some .int) 4 125 D ad cs P (wA ad P) tU adK adV cnA) (hw : wpX7_likes x1 x2 x3 x4 S K) (hh : wH D ad cs P (wA ad P) s.heap sz S H locs) (hl : lv_has ls 5 [(0, .ref (ad 0 0)), (1, .int x1), (2, .int x2), (3, .int x3), (4, .int x4)]) : W p l e R s m args below meth c H locs 0 0 (MQ below (va_Qi K (QX D ad cs P sz) (wA ad P)) args s 0 0 (wA ad P)) (F0 m 0 ls []) := by
  have hx := E.hx
  have hb := E.hb
  refine lv_aload_n hx hb dX7_likes_0 rfl (lv_at hl 0 rfl) ?_
  refine lv_iload_n hx hb dX7_likes_1 rfl (lv_at hl 1 rfl) ?_
  refine lv_iload_n hx hb dX7_likes_2 rfl (lv_at hl 2 rfl) ?_
  refine x_ci E.hA hh (x_runV E hh (mX7_arePair E.hI E.hn hw) kX7_arePair tb416 (E.hn 0 0 (by decide)) rv_0 ⟨by decide, by decide⟩ rfl hl.1 rfl (Nat.le_of_ble_eq_true rfl) dX7_likes_3 ⟨Nat.zero_le _, Nat.zero_le _⟩) (fun r1 S1 H locs hw hh => ?_)
  have hq1 := hw.2
  have hw := hw.1
  refine lv_if_eq (tgt := 29) hx hb dX7_likes_6 (by decide) (fun c2 => ?_) (fun c2 => ?_)
  · have hw := ifT hw c2
    refine lv_bipush (v := (-2)) hx hb dX7_likes_29 (by decide) ?_
    exact x_iret E hh hw dX7_likes_31
  · have hw := ifF hw c2
    refine lv_iload_n hx hb dX7_likes_9 rfl (lv_at hl 3 rfl) ?_
    refine lv_iconst (v := 0) hx hb dX7_likes_10 (by decide) ?_
    refine lv_iconst (v := 1) hx hb dX7_likes_11 (by decide) ?_
    refine x_ci E.hA hh (x_runS E hh (mX7_within E.hI (fun _ _ h => absurd h (Nat.not_lt_zero _)) hw) kX7_within tb405 ⟨by decide, by decide⟩ rfl hl.1 rfl (Nat.le_of_ble_eq_true rfl) dX7_likes_12 ⟨Nat.zero_le _, Nat.zero_le _⟩) (fun r3 S3 H locs hw hh => ?_)
    have hq3 := hw.2
    have hw := hw.1
    refine lv_if_eq (tgt := 29) hx hb dX7_likes_15 (by decide) (fun c4 => ?_) (fun c4 => ?_)
    · have hw := ifT hw c4
      refine lv_bipush (v := (-2)) hx hb dX7_likes_29 (by decide) ?_
      exact x_iret E hh hw dX7_likes_31
    · have hw := ifF hw c4
      refine lv_iload hx hb dX7_likes_18 (lv_at hl 4 rfl) ?_
      refine lv_iconst (v := 0) hx hb dX7_likes_20 (by decide) ?_
      refine lv_bipush (v := 99) hx hb dX7_likes_21 (by decide) ?_
      refine x_ci E.hA hh (x_runS E hh (mX7_within E.hI (fun _ _ h => absurd h (Nat.not_lt_zero _)) hw) kX7_within tb405 ⟨by decide, by decide⟩ rfl hl.1 rfl (Nat.le_of_ble_eq_true rfl) dX7_likes_23 ⟨Nat.zero_le _, Nat.zero_le _⟩) (fun r5 S5 H locs hw hh => ?_)
      have hq5 := hw.2
      have hw := hw.1
      refine lv_if_ne (tgt := 32) hx hb dX7_likes_26 (by decide) (fun c6 => ?_) (fun c6 => ?_)
      · have hw := ifF hw c6
        refine lv_iload_n hx hb dX7_likes_32 rfl (lv_at hl 3 rfl) ?_
        refine lv_if_ne (tgt := 46) hx hb dX7_likes_33 (by decide) (fun c7 => ?_) (fun c7 => ?_)
        · have hw := ifF hw c7
          refine lv_aload_n hx hb dX7_likes_46 rfl (lv_at hl 0 rfl) ?_
          refine g_0_3 E hh tb373 (E.hn 0 0 (by decide)) dX7_likes_47 ?_
          refine g_10_11 E hh tb339 (E.hn 10 0 (by decide)) dX7_likes_50 ?_
          refine lv_iload_n hx hb dX7_likes_53 rfl (lv_at hl 1 rfl) ?_
          refine lv_iload_n hx hb dX7_likes_54 rfl (lv_at hl 2 rfl) ?_
          refine x_ci E.hA hh (x_runS E hh (mX5_at E.hI (fun _ _ h => absurd h (Nat.not_lt_zero _)) hw) kX5_at tb428 ⟨by decide, by decide⟩ rfl hl.1 rfl (Nat.le_of_ble_eq_true rfl) dX7_likes_55 ⟨Nat.zero_le _, Nat.zero_le _⟩) (fun r8 S8 H locs hw hh => ?_)
          refine lv_iload hx hb dX7_likes_58 (lv_at hl 4 rfl) ?_
          refine x_ci E.hA hh (x_runS E hh (mX7_replace E.hI (fun _ _ h => absurd h (Nat.not_lt_zero _)) (E.hn 16 0 (by decide)) ly_16 hw) kX7_replace tb431 ⟨by decide, by decide⟩ rfl hl.1 rfl (Nat.le_of_ble_eq_true rfl) dX7_likes_60 ⟨Nat.zero_le _, Nat.zero_le _⟩) (fun r9 S9 H locs hw hh => ?_)
          exact x_iret E hh hw dX7_likes_63
        · have hw := ifT hw c7
          refine lv_aload_n hx hb dX7_likes_36 rfl (lv_at hl 0 rfl) ?_
          refine g_0_3 E hh tb373 (E.hn 0 0 (by decide)) dX7_likes_37 ?_
          refine g_10_10 E hh tb336 (E.hn 10 0 (by decide)) dX7_likes_40 ?_
          refine lv_goto (tgt := 53) hx hb dX7_likes_43 (by decide) ?_
          refine lv_iload_n hx hb dX7_likes_53 rfl (lv_at hl 1 rfl) ?_
          refine lv_iload_n hx hb dX7_likes_54 rfl (lv_at hl 2 rfl) ?_
          refine x_ci E.hA hh (x_runS E hh (mX5_at E.hI (fun _ _ h => absurd h (Nat.not_lt_zero _)) hw) kX5_at tb428 ⟨by decide, by decide⟩ rfl hl.1 rfl (Nat.le_of_ble_eq_true rfl) dX7_likes_55 ⟨Nat.zero_le _, Nat.zero_le _⟩) (fun r10 S10 H locs hw hh => ?_)
          refine lv_iload hx hb dX7_likes_58 (lv_at hl 4 rfl) ?_
          refine x_ci E.hA hh (x_runS E hh (mX7_replace E.hI (fun _ _ h => absurd h (Nat.not_lt_zero _)) (E.hn 15 0 (by decide)) ly_15 hw) kX7_replace tb431 ⟨by decide, by decide⟩ rfl hl.1 rfl (Nat.le_of_ble_eq_true rfl) dX7_likes_60 ⟨Nat.zero_le _, Nat.zero_le _⟩) (fun r11 S11 H locs hw hh => ?_)
          exact x_iret E hh hw dX7_likes_63
      · have hw := ifT hw c6
        refine lv_bipush (v := (-2)) hx hb dX7_likes_29 (by decide) ?_
        exact x_iret E hh hw dX7_likes_31
theorem kX7_likes : kI yX7_likes cX7_likes 5 (some .int) 4 := ⟨tb413, tb414, tb1, tb415, by decide, by decide, by decide +kernel⟩
theorem mX7_likes {l : Launch} {D : va_G} {ad : Nat → Nat → Nat} {cs : Nat → ClassId} {P : Nat → Nat → Prop} {sz tU : Nat} {adK adV : Nat → Nat} {x1 : Int32} {x2 : Int32} {x3 : Int32} {x4 : Int32} {S : St} {K : Int32 → St → Prop} (hI : wI ad P) (hn : ∀ kd i, i < cnA kd → P kd i) (hw : wpX7_likes x1 x2 x3 x4 S K) : MI l yX7_likes cX7_likes 5 (some .int) 4 125 D ad cs P sz tU adK adV [.ref (ad 0 0), .int x1, .int x2, .int x3, .int x4] S K :=
  Met_of (by decide) (Nat.le_of_ble_eq_true rfl) hI hn (fun p e R s m args below meth c ls E hl hh => bX7_likes E  hw hh (lv_sub hl [0, 1, 2, 3, 4] rfl))
def wpX7_replaceMonth (x1 : Int32) (S : St) (K : Int32 → St → Prop) : Prop := (∀ S1, S1 = su S 10 0 2 x1 → K (S.1 10 0 2) S1)
set_option maxRecDepth 4000 in
theorem bX7_replaceMonth {p : Program} {l : Launch} {e : Env} {R : Room} {s : State} {m : MethodId} {args : Array Value} {below : List Frame} {meth : Method} {c : Code} {D : va_G} {ad : Nat → Nat → Nat} {cs : Nat → ClassId} {P : Nat → Nat → Prop} {sz tU : Nat} {adK adV : Nat → Nat} {K : Int32 → St → Prop} {x1 : Int32} {S : St} {H : Heap} {locs : List Loc} {ls : Array Slot} (E : Ex p s m args meth c R RX7 cX7_replaceMonth 3 (some .int) 1 60 D ad cs P (wA ad P) tU adK adV cnA) (hw : wpX7_replaceMonth x1 S K) (hh : wH D ad cs P (wA ad P) s.heap sz S H locs) (hl : lv_has ls 3 [(0, .ref (ad 0 0)), (1, .int x1)]) : W p l e R s m args below meth c H locs 0 0 (MQ below (va_Qi K (QX D ad cs P sz) (wA ad P)) args s 0 0 (wA ad P)) (F0 m 0 ls []) := by
  have hx := E.hx
  have hb := E.hb
  refine lv_aload_n hx hb dX7_replaceMonth_0 rfl (lv_at hl 0 rfl) ?_
  refine g_0_3 E hh tb373 (E.hn 0 0 (by decide)) dX7_replaceMonth_1 ?_
  refine g_10_2 E hh tb318 (E.hn 10 0 (by decide)) dX7_replaceMonth_4 ?_
  refine lv_istore_n (lv' := [(2, .int (S.1 10 0 2)), (0, .ref (ad 0 0)), (1, .int x1)]) hx hb dX7_replaceMonth_7 rfl hl (by decide) rfl (fun ls hl => ?_)
  refine lv_aload_n hx hb dX7_replaceMonth_8 rfl (lv_at hl 1 rfl) ?_
  refine g_0_3 E hh tb373 (E.hn 0 0 (by decide)) dX7_replaceMonth_9 ?_
  refine lv_iload_n hx hb dX7_replaceMonth_12 rfl (lv_at hl 2 rfl) ?_
  refine p_10_2 E hh tb318 (E.hn 10 0 (by decide)) dX7_replaceMonth_13 (fun S1 H locs e1 hh => ?_)
  have hw := hw S1 e1
  refine lv_iload_n hx hb dX7_replaceMonth_16 rfl (lv_at hl 0 rfl) ?_
  exact x_iret E hh hw dX7_replaceMonth_17
theorem kX7_replaceMonth : kI yX7_replaceMonth cX7_replaceMonth 3 (some .int) 1 := ⟨tb440, ts13, tb1, tb441, by decide, by decide, by decide +kernel⟩
theorem mX7_replaceMonth {l : Launch} {D : va_G} {ad : Nat → Nat → Nat} {cs : Nat → ClassId} {P : Nat → Nat → Prop} {sz tU : Nat} {adK adV : Nat → Nat} {x1 : Int32} {S : St} {K : Int32 → St → Prop} (hI : wI ad P) (hn : ∀ kd i, i < cnA kd → P kd i) (hw : wpX7_replaceMonth x1 S K) : MI l yX7_replaceMonth cX7_replaceMonth 3 (some .int) 1 60 D ad cs P sz tU adK adV [.ref (ad 0 0), .int x1] S K :=
  Met_of (by decide) (Nat.le_of_ble_eq_true rfl) hI hn (fun p e R s m args below meth c ls E hl hh => bX7_replaceMonth E  hw hh (lv_sub hl [0, 1] rfl))
def wpX7_set (x1 : Int32) (x2 : Int32) (x3 : Int32) (S : St) (K : Int32 → St → Prop) : Prop := (if x1 = 0 then (wpX7_isMan x2 S (fun r2 S2 => if r2 = 0 then (K (-2) S2) else (wpX7_within x3 0 9 S2 (fun r4 S4 => if r4 = 0 then (K (-2) S4) else (wpX7_replace 11 0 4 x2 x3 S4 (fun r6 S6 => K r6 S6)))))) else (if x1 = 1 then (wpX7_isMaid x2 S (fun r8 S8 => if r8 = 0 then (K (-2) S8) else (wpX7_within x3 0 9 S8 (fun r10 S10 => if r10 = 0 then (K (-2) S10) else (wpX7_replace 14 0 4 x2 x3 S10 (fun r12 S12 => K r12 S12)))))) else (if x1 = 2 then (wpX7_within x3 0 99 S (fun r14 S14 => if r14 = 0 then (K (-2) S14) else (wpX7_replaceMonth x3 S14 (fun r16 S16 => K r16 S16)))) else (K (-2) S))))
set_option maxRecDepth 4000 in
theorem bX7_set {p : Program} {l : Launch} {e : Env} {R : Room} {s : State} {m : MethodId} {args : Array Value} {below : List Frame} {meth : Method} {c : Code} {D : va_G} {ad : Nat → Nat → Nat} {cs : Nat → ClassId} {P : Nat → Nat → Prop} {sz tU : Nat} {adK adV : Nat → Nat} {K : Int32 → St → Prop} {x1 : Int32} {x2 : Int32} {x3 : Int32} {S : St} {H : Heap} {locs : List Loc} {ls : Array Slot} (E : Ex p s m args meth c R RX7 cX7_set 4 (some .int) 3 103 D ad cs P (wA ad P) tU adK adV cnA) (hw : wpX7_set x1 x2 x3 S K) (hh : wH D ad cs P (wA ad P) s.heap sz S H locs) (hl : lv_has ls 4 [(0, .ref (ad 0 0)), (1, .int x1), (2, .int x2), (3, .int x3)]) : W p l e R s m args below meth c H locs 0 0 (MQ below (va_Qi K (QX D ad cs P sz) (wA ad P)) args s 0 0 (wA ad P)) (F0 m 0 ls []) := by
  have hx := E.hx
  have hb := E.hb
  refine lv_iload_n hx hb dX7_set_0 rfl (lv_at hl 1 rfl) ?_
  by_cases c1 : x1 = 0
  · have hw := ifT hw c1
    refine lv_tableIn (tgt := 28) hx hb dX7_set_1 (by rw [c1] <;> decide) (by rw [c1] <;> decide) (by rw [c1] <;> rfl) (by decide) ?_
    refine lv_aload_n hx hb dX7_set_28 rfl (lv_at hl 0 rfl) ?_
    refine lv_iload_n hx hb dX7_set_29 rfl (lv_at hl 2 rfl) ?_
    refine x_ci E.hA hh (x_runV E hh (mX7_isMan E.hI E.hn hw) kX7_isMan tb420 (E.hn 0 0 (by decide)) rv_0 ⟨by decide, by decide⟩ rfl hl.1 rfl (Nat.le_of_ble_eq_true rfl) dX7_set_30 ⟨Nat.zero_le _, Nat.zero_le _⟩) (fun r2 S2 H locs hw hh => ?_)
    have hq2 := hw.2
    have hw := hw.1
    refine lv_if_eq (tgt := 61) hx hb dX7_set_33 (by decide) (fun c3 => ?_) (fun c3 => ?_)
    · have hw := ifT hw c3
      refine lv_bipush (v := (-2)) hx hb dX7_set_61 (by decide) ?_
      exact x_iret E hh hw dX7_set_63
    · have hw := ifF hw c3
      refine lv_iload_n hx hb dX7_set_36 rfl (lv_at hl 3 rfl) ?_
      refine lv_iconst (v := 0) hx hb dX7_set_37 (by decide) ?_
      refine lv_bipush (v := 9) hx hb dX7_set_38 (by decide) ?_
      refine x_ci E.hA hh (x_runS E hh (mX7_within E.hI (fun _ _ h => absurd h (Nat.not_lt_zero _)) hw) kX7_within tb405 ⟨by decide, by decide⟩ rfl hl.1 rfl (Nat.le_of_ble_eq_true rfl) dX7_set_40 ⟨Nat.zero_le _, Nat.zero_le _⟩) (fun r4 S4 H locs hw hh => ?_)
      have hq4 := hw.2
      have hw := hw.1
      refine lv_if_eq (tgt := 61) hx hb dX7_set_43 (by decide) (fun c5 => ?_) (fun c5 => ?_)
      · have hw := ifT hw c5
        refine lv_bipush (v := (-2)) hx hb dX7_set_61 (by decide) ?_
        exact x_iret E hh hw dX7_set_63
      · have hw := ifF hw c5
        refine lv_aload_n hx hb dX7_set_46 rfl (lv_at hl 0 rfl) ?_
        refine g_0_3 E hh tb373 (E.hn 0 0 (by decide)) dX7_set_47 ?_
        refine g_10_6 E hh tb327 (E.hn 10 0 (by decide)) dX7_set_50 ?_
        refine lv_iload_n hx hb dX7_set_53 rfl (lv_at hl 2 rfl) ?_
        refine lv_iload_n hx hb dX7_set_54 rfl (lv_at hl 3 rfl) ?_
        refine x_ci E.hA hh (x_runS E hh (mX7_replace E.hI (fun _ _ h => absurd h (Nat.not_lt_zero _)) (E.hn 11 0 (by decide)) ly_11 hw) kX7_replace tb431 ⟨by decide, by decide⟩ rfl hl.1 rfl (Nat.le_of_ble_eq_true rfl) dX7_set_55 ⟨Nat.zero_le _, Nat.zero_le _⟩) (fun r6 S6 H locs hw hh => ?_)
        refine lv_goto (tgt := 63) hx hb dX7_set_58 (by decide) ?_
        exact x_iret E hh hw dX7_set_63
  have hw := ifF hw c1
  by_cases c7 : x1 = 1
  · have hw := ifT hw c7
    refine lv_tableIn (tgt := 64) hx hb dX7_set_1 (by rw [c7] <;> decide) (by rw [c7] <;> decide) (by rw [c7] <;> rfl) (by decide) ?_
    refine lv_aload_n hx hb dX7_set_64 rfl (lv_at hl 0 rfl) ?_
    refine lv_iload_n hx hb dX7_set_65 rfl (lv_at hl 2 rfl) ?_
    refine x_ci E.hA hh (x_runV E hh (mX7_isMaid E.hI E.hn hw) kX7_isMaid tb424 (E.hn 0 0 (by decide)) rv_0 ⟨by decide, by decide⟩ rfl hl.1 rfl (Nat.le_of_ble_eq_true rfl) dX7_set_66 ⟨Nat.zero_le _, Nat.zero_le _⟩) (fun r8 S8 H locs hw hh => ?_)
    have hq8 := hw.2
    have hw := hw.1
    refine lv_if_eq (tgt := 97) hx hb dX7_set_69 (by decide) (fun c9 => ?_) (fun c9 => ?_)
    · have hw := ifT hw c9
      refine lv_bipush (v := (-2)) hx hb dX7_set_97 (by decide) ?_
      exact x_iret E hh hw dX7_set_99
    · have hw := ifF hw c9
      refine lv_iload_n hx hb dX7_set_72 rfl (lv_at hl 3 rfl) ?_
      refine lv_iconst (v := 0) hx hb dX7_set_73 (by decide) ?_
      refine lv_bipush (v := 9) hx hb dX7_set_74 (by decide) ?_
      refine x_ci E.hA hh (x_runS E hh (mX7_within E.hI (fun _ _ h => absurd h (Nat.not_lt_zero _)) hw) kX7_within tb405 ⟨by decide, by decide⟩ rfl hl.1 rfl (Nat.le_of_ble_eq_true rfl) dX7_set_76 ⟨Nat.zero_le _, Nat.zero_le _⟩) (fun r10 S10 H locs hw hh => ?_)
      have hq10 := hw.2
      have hw := hw.1
      refine lv_if_eq (tgt := 97) hx hb dX7_set_79 (by decide) (fun c11 => ?_) (fun c11 => ?_)
      · have hw := ifT hw c11
        refine lv_bipush (v := (-2)) hx hb dX7_set_97 (by decide) ?_
        exact x_iret E hh hw dX7_set_99
      · have hw := ifF hw c11
        refine lv_aload_n hx hb dX7_set_82 rfl (lv_at hl 0 rfl) ?_
        refine g_0_3 E hh tb373 (E.hn 0 0 (by decide)) dX7_set_83 ?_
        refine g_10_9 E hh tb334 (E.hn 10 0 (by decide)) dX7_set_86 ?_
        refine lv_iload_n hx hb dX7_set_89 rfl (lv_at hl 2 rfl) ?_
        refine lv_iload_n hx hb dX7_set_90 rfl (lv_at hl 3 rfl) ?_
        refine x_ci E.hA hh (x_runS E hh (mX7_replace E.hI (fun _ _ h => absurd h (Nat.not_lt_zero _)) (E.hn 14 0 (by decide)) ly_14 hw) kX7_replace tb431 ⟨by decide, by decide⟩ rfl hl.1 rfl (Nat.le_of_ble_eq_true rfl) dX7_set_91 ⟨Nat.zero_le _, Nat.zero_le _⟩) (fun r12 S12 H locs hw hh => ?_)
        refine lv_goto (tgt := 99) hx hb dX7_set_94 (by decide) ?_
        exact x_iret E hh hw dX7_set_99
  have hw := ifF hw c7
  by_cases c13 : x1 = 2
  · have hw := ifT hw c13
    refine lv_tableIn (tgt := 100) hx hb dX7_set_1 (by rw [c13] <;> decide) (by rw [c13] <;> decide) (by rw [c13] <;> rfl) (by decide) ?_
    refine lv_iload_n hx hb dX7_set_100 rfl (lv_at hl 3 rfl) ?_
    refine lv_iconst (v := 0) hx hb dX7_set_101 (by decide) ?_
    refine lv_bipush (v := 99) hx hb dX7_set_102 (by decide) ?_
    refine x_ci E.hA hh (x_runS E hh (mX7_within E.hI (fun _ _ h => absurd h (Nat.not_lt_zero _)) hw) kX7_within tb405 ⟨by decide, by decide⟩ rfl hl.1 rfl (Nat.le_of_ble_eq_true rfl) dX7_set_104 ⟨Nat.zero_le _, Nat.zero_le _⟩) (fun r14 S14 H locs hw hh => ?_)
    have hq14 := hw.2
    have hw := hw.1
    refine lv_if_eq (tgt := 118) hx hb dX7_set_107 (by decide) (fun c15 => ?_) (fun c15 => ?_)
    · have hw := ifT hw c15
      refine lv_bipush (v := (-2)) hx hb dX7_set_118 (by decide) ?_
      exact x_iret E hh hw dX7_set_120
    · have hw := ifF hw c15
      refine lv_aload_n hx hb dX7_set_110 rfl (lv_at hl 0 rfl) ?_
      refine lv_iload_n hx hb dX7_set_111 rfl (lv_at hl 3 rfl) ?_
      refine x_ci E.hA hh (x_runV E hh (mX7_replaceMonth E.hI E.hn hw) kX7_replaceMonth tb438 (E.hn 0 0 (by decide)) rv_0 ⟨by decide, by decide⟩ rfl hl.1 rfl (Nat.le_of_ble_eq_true rfl) dX7_set_112 ⟨Nat.zero_le _, Nat.zero_le _⟩) (fun r16 S16 H locs hw hh => ?_)
      refine lv_goto (tgt := 120) hx hb dX7_set_115 (by decide) ?_
      exact x_iret E hh hw dX7_set_120
  have hw := ifF hw c13
  refine lv_tableOut (tgt := 121) hx hb dX7_set_1 (by have n0 := lv_neT c1 (a := 0) rfl; have n1 := lv_neT c7 (a := 1) rfl; have n2 := lv_neT c13 (a := 2) rfl; omega) (by decide) ?_
  refine lv_bipush (v := (-2)) hx hb dX7_set_121 (by decide) ?_
  exact x_iret E hh hw dX7_set_123
theorem kX7_set : kI yX7_set cX7_set 4 (some .int) 3 := ⟨tb435, tb436, tb1, tb437, by decide, by decide, by decide +kernel⟩
theorem mX7_set {l : Launch} {D : va_G} {ad : Nat → Nat → Nat} {cs : Nat → ClassId} {P : Nat → Nat → Prop} {sz tU : Nat} {adK adV : Nat → Nat} {x1 : Int32} {x2 : Int32} {x3 : Int32} {S : St} {K : Int32 → St → Prop} (hI : wI ad P) (hn : ∀ kd i, i < cnA kd → P kd i) (hw : wpX7_set x1 x2 x3 S K) : MI l yX7_set cX7_set 4 (some .int) 3 103 D ad cs P sz tU adK adV [.ref (ad 0 0), .int x1, .int x2, .int x3] S K :=
  Met_of (by decide) (Nat.le_of_ble_eq_true rfl) hI hn (fun p e R s m args below meth c ls E hl hh => bX7_set E  hw hh (lv_sub hl [0, 1, 2, 3] rfl))
def wpX7_told (x1 : Int32) (x2 : Int32) (x3 : Int32) (S : St) (K : Int32 → St → Prop) : Prop := wpX7_arePair x1 x2 S (fun r1 S1 => if r1 = 0 then (K (-2) S1) else ((if x3 = 0 then (wpX5_at x1 x2 S1 (fun r4 S4 => (vp_in r4 16 ∧ K (S4.1 15 0 r4.toNatClampNeg) S4))) else (if x3 = 1 then (wpX5_at x1 x2 S1 (fun r7 S7 => (vp_in r7 16 ∧ K (S7.1 16 0 r7.toNatClampNeg) S7))) else (if x3 = 2 then (wpX5_mayAsk 0 x1 x2 S1 (fun r10 S10 => if r10 = 0 then (K 0 S10) else (K 1 S10))) else (if x3 = 3 then (wpX5_saysNo 0 x1 x2 S1 (fun r13 S13 => if r13 = 0 then (K 0 S13) else (K 1 S13))) else (if x3 = 4 then (wpX5_worth 0 x1 x2 S1 (fun r16 S16 => K r16 S16)) else (if x3 = 5 then (wpX5_wants 0 x1 x2 S1 (fun r18 S18 => if r18 = 0 then (K 0 S18) else (K 1 S18))) else (K (-2) S1)))))))))
set_option maxRecDepth 4000 in
theorem bX7_told {p : Program} {l : Launch} {e : Env} {R : Room} {s : State} {m : MethodId} {args : Array Value} {below : List Frame} {meth : Method} {c : Code} {D : va_G} {ad : Nat → Nat → Nat} {cs : Nat → ClassId} {P : Nat → Nat → Prop} {sz tU : Nat} {adK adV : Nat → Nat} {K : Int32 → St → Prop} {x1 : Int32} {x2 : Int32} {x3 : Int32} {S : St} {H : Heap} {locs : List Loc} {ls : Array Slot} (E : Ex p s m args meth c R RX7 cX7_told 4 (some .int) 5 152 D ad cs P (wA ad P) tU adK adV cnA) (hw : wpX7_told x1 x2 x3 S K) (hh : wH D ad cs P (wA ad P) s.heap sz S H locs) (hl : lv_has ls 4 [(0, .ref (ad 0 0)), (1, .int x1), (2, .int x2), (3, .int x3)]) : W p l e R s m args below meth c H locs 0 0 (MQ below (va_Qi K (QX D ad cs P sz) (wA ad P)) args s 0 0 (wA ad P)) (F0 m 0 ls []) := by
  have hx := E.hx
  have hb := E.hb
  refine lv_aload_n hx hb dX7_told_0 rfl (lv_at hl 0 rfl) ?_
  refine lv_iload_n hx hb dX7_told_1 rfl (lv_at hl 1 rfl) ?_
  refine lv_iload_n hx hb dX7_told_2 rfl (lv_at hl 2 rfl) ?_
  refine x_ci E.hA hh (x_runV E hh (mX7_arePair E.hI E.hn hw) kX7_arePair tb416 (E.hn 0 0 (by decide)) rv_0 ⟨by decide, by decide⟩ rfl hl.1 rfl (Nat.le_of_ble_eq_true rfl) dX7_told_3 ⟨Nat.zero_le _, Nat.zero_le _⟩) (fun r1 S1 H locs hw hh => ?_)
  have hq1 := hw.2
  have hw := hw.1
  refine lv_if_ne (tgt := 12) hx hb dX7_told_6 (by decide) (fun c2 => ?_) (fun c2 => ?_)
  · have hw := ifF hw c2
    refine lv_iload_n hx hb dX7_told_12 rfl (lv_at hl 3 rfl) ?_
    by_cases c3 : x3 = 0
    · have hw := ifT hw c3
      refine lv_tableIn (tgt := 52) hx hb dX7_told_13 (by rw [c3] <;> decide) (by rw [c3] <;> decide) (by rw [c3] <;> rfl) (by decide) ?_
      refine lv_aload_n hx hb dX7_told_52 rfl (lv_at hl 0 rfl) ?_
      refine g_0_3 E hh tb373 (E.hn 0 0 (by decide)) dX7_told_53 ?_
      refine g_10_10 E hh tb336 (E.hn 10 0 (by decide)) dX7_told_56 ?_
      refine lv_iload_n hx hb dX7_told_59 rfl (lv_at hl 1 rfl) ?_
      refine lv_iload_n hx hb dX7_told_60 rfl (lv_at hl 2 rfl) ?_
      refine x_ci E.hA hh (x_runS E hh (mX5_at E.hI (fun _ _ h => absurd h (Nat.not_lt_zero _)) hw) kX5_at tb428 ⟨by decide, by decide⟩ rfl hl.1 rfl (Nat.le_of_ble_eq_true rfl) dX7_told_61 ⟨Nat.zero_le _, Nat.zero_le _⟩) (fun r4 S4 H locs hw hh => ?_)
      obtain ⟨hi5, hw⟩ := hw
      refine x_iald E hh (E.hn 15 0 (by decide)) ly_15 hi5 dX7_told_64 ?_
      exact x_iret E hh hw dX7_told_65
    have hw := ifF hw c3
    by_cases c6 : x3 = 1
    · have hw := ifT hw c6
      refine lv_tableIn (tgt := 66) hx hb dX7_told_13 (by rw [c6] <;> decide) (by rw [c6] <;> decide) (by rw [c6] <;> rfl) (by decide) ?_
      refine lv_aload_n hx hb dX7_told_66 rfl (lv_at hl 0 rfl) ?_
      refine g_0_3 E hh tb373 (E.hn 0 0 (by decide)) dX7_told_67 ?_
      refine g_10_11 E hh tb339 (E.hn 10 0 (by decide)) dX7_told_70 ?_
      refine lv_iload_n hx hb dX7_told_73 rfl (lv_at hl 1 rfl) ?_
      refine lv_iload_n hx hb dX7_told_74 rfl (lv_at hl 2 rfl) ?_
      refine x_ci E.hA hh (x_runS E hh (mX5_at E.hI (fun _ _ h => absurd h (Nat.not_lt_zero _)) hw) kX5_at tb428 ⟨by decide, by decide⟩ rfl hl.1 rfl (Nat.le_of_ble_eq_true rfl) dX7_told_75 ⟨Nat.zero_le _, Nat.zero_le _⟩) (fun r7 S7 H locs hw hh => ?_)
      obtain ⟨hi8, hw⟩ := hw
      refine x_iald E hh (E.hn 16 0 (by decide)) ly_16 hi8 dX7_told_78 ?_
      exact x_iret E hh hw dX7_told_79
    have hw := ifF hw c6
    by_cases c9 : x3 = 2
    · have hw := ifT hw c9
      refine lv_tableIn (tgt := 80) hx hb dX7_told_13 (by rw [c9] <;> decide) (by rw [c9] <;> decide) (by rw [c9] <;> rfl) (by decide) ?_
      refine lv_aload_n hx hb dX7_told_80 rfl (lv_at hl 0 rfl) ?_
      refine g_0_3 E hh tb373 (E.hn 0 0 (by decide)) dX7_told_81 ?_
      refine lv_iload_n hx hb dX7_told_84 rfl (lv_at hl 1 rfl) ?_
      refine lv_iload_n hx hb dX7_told_85 rfl (lv_at hl 2 rfl) ?_
      refine x_ci E.hA hh (x_runV E hh (mX5_mayAsk E.hI E.hn (by decide) hw) kX5_mayAsk tb446 (E.hn 10 0 (by decide)) rv_10 ⟨by decide, by decide⟩ rfl hl.1 rfl (Nat.le_of_ble_eq_true rfl) dX7_told_86 ⟨Nat.zero_le _, Nat.zero_le _⟩) (fun r10 S10 H locs hw hh => ?_)
      have hq10 := hw.2
      have hw := hw.1
      refine lv_if_eq (tgt := 96) hx hb dX7_told_89 (by decide) (fun c11 => ?_) (fun c11 => ?_)
      · have hw := ifT hw c11
        refine lv_iconst (v := 0) hx hb dX7_told_96 (by decide) ?_
        exact x_iret E hh hw dX7_told_97
      · have hw := ifF hw c11
        refine lv_iconst (v := 1) hx hb dX7_told_92 (by decide) ?_
        refine lv_goto (tgt := 97) hx hb dX7_told_93 (by decide) ?_
        exact x_iret E hh hw dX7_told_97
    have hw := ifF hw c9
    by_cases c12 : x3 = 3
    · have hw := ifT hw c12
      refine lv_tableIn (tgt := 98) hx hb dX7_told_13 (by rw [c12] <;> decide) (by rw [c12] <;> decide) (by rw [c12] <;> rfl) (by decide) ?_
      refine lv_aload_n hx hb dX7_told_98 rfl (lv_at hl 0 rfl) ?_
      refine g_0_3 E hh tb373 (E.hn 0 0 (by decide)) dX7_told_99 ?_
      refine lv_iload_n hx hb dX7_told_102 rfl (lv_at hl 1 rfl) ?_
      refine lv_iload_n hx hb dX7_told_103 rfl (lv_at hl 2 rfl) ?_
      refine x_ci E.hA hh (x_runV E hh (mX5_saysNo E.hI E.hn (by decide) hw) kX5_saysNo tb457 (E.hn 10 0 (by decide)) rv_10 ⟨by decide, by decide⟩ rfl hl.1 rfl (Nat.le_of_ble_eq_true rfl) dX7_told_104 ⟨Nat.zero_le _, Nat.zero_le _⟩) (fun r13 S13 H locs hw hh => ?_)
      have hq13 := hw.2
      have hw := hw.1
      refine lv_if_eq (tgt := 114) hx hb dX7_told_107 (by decide) (fun c14 => ?_) (fun c14 => ?_)
      · have hw := ifT hw c14
        refine lv_iconst (v := 0) hx hb dX7_told_114 (by decide) ?_
        exact x_iret E hh hw dX7_told_115
      · have hw := ifF hw c14
        refine lv_iconst (v := 1) hx hb dX7_told_110 (by decide) ?_
        refine lv_goto (tgt := 115) hx hb dX7_told_111 (by decide) ?_
        exact x_iret E hh hw dX7_told_115
    have hw := ifF hw c12
    by_cases c15 : x3 = 4
    · have hw := ifT hw c15
      refine lv_tableIn (tgt := 116) hx hb dX7_told_13 (by rw [c15] <;> decide) (by rw [c15] <;> decide) (by rw [c15] <;> rfl) (by decide) ?_
      refine lv_aload_n hx hb dX7_told_116 rfl (lv_at hl 0 rfl) ?_
      refine g_0_3 E hh tb373 (E.hn 0 0 (by decide)) dX7_told_117 ?_
      refine lv_iload_n hx hb dX7_told_120 rfl (lv_at hl 1 rfl) ?_
      refine lv_iload_n hx hb dX7_told_121 rfl (lv_at hl 2 rfl) ?_
      refine x_ci E.hA hh (x_runV E hh (mX5_worth E.hI E.hn (by decide) hw) kX5_worth tb479 (E.hn 10 0 (by decide)) rv_10 ⟨by decide, by decide⟩ rfl hl.1 rfl (Nat.le_of_ble_eq_true rfl) dX7_told_122 ⟨Nat.zero_le _, Nat.zero_le _⟩) (fun r16 S16 H locs hw hh => ?_)
      exact x_iret E hh hw dX7_told_125
    have hw := ifF hw c15
    by_cases c17 : x3 = 5
    · have hw := ifT hw c17
      refine lv_tableIn (tgt := 126) hx hb dX7_told_13 (by rw [c17] <;> decide) (by rw [c17] <;> decide) (by rw [c17] <;> rfl) (by decide) ?_
      refine lv_aload_n hx hb dX7_told_126 rfl (lv_at hl 0 rfl) ?_
      refine g_0_3 E hh tb373 (E.hn 0 0 (by decide)) dX7_told_127 ?_
      refine lv_iload_n hx hb dX7_told_130 rfl (lv_at hl 1 rfl) ?_
      refine lv_iload_n hx hb dX7_told_131 rfl (lv_at hl 2 rfl) ?_
      refine x_ci E.hA hh (x_runV E hh (mX5_wants E.hI E.hn (by decide) hw) kX5_wants tb487 (E.hn 10 0 (by decide)) rv_10 ⟨by decide, by decide⟩ rfl hl.1 rfl (Nat.le_of_ble_eq_true rfl) dX7_told_132 ⟨Nat.zero_le _, Nat.zero_le _⟩) (fun r18 S18 H locs hw hh => ?_)
      have hq18 := hw.2
      have hw := hw.1
      refine lv_if_eq (tgt := 142) hx hb dX7_told_135 (by decide) (fun c19 => ?_) (fun c19 => ?_)
      · have hw := ifT hw c19
        refine lv_iconst (v := 0) hx hb dX7_told_142 (by decide) ?_
        exact x_iret E hh hw dX7_told_143
      · have hw := ifF hw c19
        refine lv_iconst (v := 1) hx hb dX7_told_138 (by decide) ?_
        refine lv_goto (tgt := 143) hx hb dX7_told_139 (by decide) ?_
        exact x_iret E hh hw dX7_told_143
    have hw := ifF hw c17
    refine lv_tableOut (tgt := 144) hx hb dX7_told_13 (by have n0 := lv_neT c3 (a := 0) rfl; have n1 := lv_neT c6 (a := 1) rfl; have n2 := lv_neT c9 (a := 2) rfl; have n3 := lv_neT c12 (a := 3) rfl; have n4 := lv_neT c15 (a := 4) rfl; have n5 := lv_neT c17 (a := 5) rfl; omega) (by decide) ?_
    refine lv_bipush (v := (-2)) hx hb dX7_told_144 (by decide) ?_
    exact x_iret E hh hw dX7_told_146
  · have hw := ifT hw c2
    refine lv_bipush (v := (-2)) hx hb dX7_told_9 (by decide) ?_
    exact x_iret E hh hw dX7_told_11
theorem kX7_told : kI yX7_told cX7_told 4 (some .int) 3 := ⟨tb443, tb444, tb1, tb445, by decide, by decide, by decide +kernel⟩
theorem mX7_told {l : Launch} {D : va_G} {ad : Nat → Nat → Nat} {cs : Nat → ClassId} {P : Nat → Nat → Prop} {sz tU : Nat} {adK adV : Nat → Nat} {x1 : Int32} {x2 : Int32} {x3 : Int32} {S : St} {K : Int32 → St → Prop} (hI : wI ad P) (hn : ∀ kd i, i < cnA kd → P kd i) (hw : wpX7_told x1 x2 x3 S K) : MI l yX7_told cX7_told 4 (some .int) 5 152 D ad cs P sz tU adK adV [.ref (ad 0 0), .int x1, .int x2, .int x3] S K :=
  Met_of (by decide) (Nat.le_of_ble_eq_true rfl) hI hn (fun p e R s m args below meth c ls E hl hh => bX7_told E  hw hh (lv_sub hl [0, 1, 2, 3] rfl))
def wpX7_ofMaid (x1 : Int32) (x2 : Int32) (S : St) (K : Int32 → St → Prop) : Prop := (if x2 = 0 then ((vp_in x1 4 ∧ K (S.1 13 0 x1.toNatClampNeg) S)) else (if x2 = 1 then ((vp_in x1 4 ∧ K (S.1 14 0 x1.toNatClampNeg) S)) else (if x2 = 2 then ((vp_in x1 4 ∧ (vp_in x1 4 ∧ wpX0_needs (S.1 13 0 x1.toNatClampNeg) (S.1 14 0 x1.toNatClampNeg) S (fun r8 S8 => K r8 S8)))) else (if x2 = 3 then ((vp_in x1 4 ∧ (vp_in x1 4 ∧ wpX0_price (S.1 13 0 x1.toNatClampNeg) (S.1 14 0 x1.toNatClampNeg) S (fun r12 S12 => K r12 S12)))) else (wpX5_husband 0 x1 S (fun r13 S13 => K r13 S13))))))
set_option maxRecDepth 4000 in
theorem bX7_ofMaid {p : Program} {l : Launch} {e : Env} {R : Room} {s : State} {m : MethodId} {args : Array Value} {below : List Frame} {meth : Method} {c : Code} {D : va_G} {ad : Nat → Nat → Nat} {cs : Nat → ClassId} {P : Nat → Nat → Prop} {sz tU : Nat} {adK adV : Nat → Nat} {K : Int32 → St → Prop} {x1 : Int32} {x2 : Int32} {S : St} {H : Heap} {locs : List Loc} {ls : Array Slot} (E : Ex p s m args meth c R RX7 cX7_ofMaid 3 (some .int) 2 82 D ad cs P (wA ad P) tU adK adV cnA) (hw : wpX7_ofMaid x1 x2 S K) (hh : wH D ad cs P (wA ad P) s.heap sz S H locs) (hl : lv_has ls 3 [(0, .ref (ad 0 0)), (1, .int x1), (2, .int x2)]) : W p l e R s m args below meth c H locs 0 0 (MQ below (va_Qi K (QX D ad cs P sz) (wA ad P)) args s 0 0 (wA ad P)) (F0 m 0 ls []) := by
  have hx := E.hx
  have hb := E.hb
  refine lv_iload_n hx hb dX7_ofMaid_0 rfl (lv_at hl 2 rfl) ?_
  by_cases c1 : x2 = 0
  · have hw := ifT hw c1
    refine lv_tableIn (tgt := 32) hx hb dX7_ofMaid_1 (by rw [c1] <;> decide) (by rw [c1] <;> decide) (by rw [c1] <;> rfl) (by decide) ?_
    refine lv_aload_n hx hb dX7_ofMaid_32 rfl (lv_at hl 0 rfl) ?_
    refine g_0_3 E hh tb373 (E.hn 0 0 (by decide)) dX7_ofMaid_33 ?_
    refine g_10_8 E hh tb332 (E.hn 10 0 (by decide)) dX7_ofMaid_36 ?_
    refine lv_iload_n hx hb dX7_ofMaid_39 rfl (lv_at hl 1 rfl) ?_
    obtain ⟨hi2, hw⟩ := hw
    refine x_iald E hh (E.hn 13 0 (by decide)) ly_13 hi2 dX7_ofMaid_40 ?_
    exact x_iret E hh hw dX7_ofMaid_41
  have hw := ifF hw c1
  by_cases c3 : x2 = 1
  · have hw := ifT hw c3
    refine lv_tableIn (tgt := 42) hx hb dX7_ofMaid_1 (by rw [c3] <;> decide) (by rw [c3] <;> decide) (by rw [c3] <;> rfl) (by decide) ?_
    refine lv_aload_n hx hb dX7_ofMaid_42 rfl (lv_at hl 0 rfl) ?_
    refine g_0_3 E hh tb373 (E.hn 0 0 (by decide)) dX7_ofMaid_43 ?_
    refine g_10_9 E hh tb334 (E.hn 10 0 (by decide)) dX7_ofMaid_46 ?_
    refine lv_iload_n hx hb dX7_ofMaid_49 rfl (lv_at hl 1 rfl) ?_
    obtain ⟨hi4, hw⟩ := hw
    refine x_iald E hh (E.hn 14 0 (by decide)) ly_14 hi4 dX7_ofMaid_50 ?_
    exact x_iret E hh hw dX7_ofMaid_51
  have hw := ifF hw c3
  by_cases c5 : x2 = 2
  · have hw := ifT hw c5
    refine lv_tableIn (tgt := 52) hx hb dX7_ofMaid_1 (by rw [c5] <;> decide) (by rw [c5] <;> decide) (by rw [c5] <;> rfl) (by decide) ?_
    refine lv_aload_n hx hb dX7_ofMaid_52 rfl (lv_at hl 0 rfl) ?_
    refine g_0_3 E hh tb373 (E.hn 0 0 (by decide)) dX7_ofMaid_53 ?_
    refine g_10_8 E hh tb332 (E.hn 10 0 (by decide)) dX7_ofMaid_56 ?_
    refine lv_iload_n hx hb dX7_ofMaid_59 rfl (lv_at hl 1 rfl) ?_
    obtain ⟨hi6, hw⟩ := hw
    refine x_iald E hh (E.hn 13 0 (by decide)) ly_13 hi6 dX7_ofMaid_60 ?_
    refine lv_aload_n hx hb dX7_ofMaid_61 rfl (lv_at hl 0 rfl) ?_
    refine g_0_3 E hh tb373 (E.hn 0 0 (by decide)) dX7_ofMaid_62 ?_
    refine g_10_9 E hh tb334 (E.hn 10 0 (by decide)) dX7_ofMaid_65 ?_
    refine lv_iload_n hx hb dX7_ofMaid_68 rfl (lv_at hl 1 rfl) ?_
    obtain ⟨hi7, hw⟩ := hw
    refine x_iald E hh (E.hn 14 0 (by decide)) ly_14 hi7 dX7_ofMaid_69 ?_
    refine x_ci E.hA hh (x_runS E hh (mX0_needs E.hI (fun _ _ h => absurd h (Nat.not_lt_zero _)) hw) kX0_needs tb499 ⟨by decide, by decide⟩ rfl hl.1 rfl (Nat.le_of_ble_eq_true rfl) dX7_ofMaid_70 ⟨Nat.zero_le _, Nat.zero_le _⟩) (fun r8 S8 H locs hw hh => ?_)
    exact x_iret E hh hw dX7_ofMaid_73
  have hw := ifF hw c5
  by_cases c9 : x2 = 3
  · have hw := ifT hw c9
    refine lv_tableIn (tgt := 74) hx hb dX7_ofMaid_1 (by rw [c9] <;> decide) (by rw [c9] <;> decide) (by rw [c9] <;> rfl) (by decide) ?_
    refine lv_aload_n hx hb dX7_ofMaid_74 rfl (lv_at hl 0 rfl) ?_
    refine g_0_3 E hh tb373 (E.hn 0 0 (by decide)) dX7_ofMaid_75 ?_
    refine g_10_8 E hh tb332 (E.hn 10 0 (by decide)) dX7_ofMaid_78 ?_
    refine lv_iload_n hx hb dX7_ofMaid_81 rfl (lv_at hl 1 rfl) ?_
    obtain ⟨hi10, hw⟩ := hw
    refine x_iald E hh (E.hn 13 0 (by decide)) ly_13 hi10 dX7_ofMaid_82 ?_
    refine lv_aload_n hx hb dX7_ofMaid_83 rfl (lv_at hl 0 rfl) ?_
    refine g_0_3 E hh tb373 (E.hn 0 0 (by decide)) dX7_ofMaid_84 ?_
    refine g_10_9 E hh tb334 (E.hn 10 0 (by decide)) dX7_ofMaid_87 ?_
    refine lv_iload_n hx hb dX7_ofMaid_90 rfl (lv_at hl 1 rfl) ?_
    obtain ⟨hi11, hw⟩ := hw
    refine x_iald E hh (E.hn 14 0 (by decide)) ly_14 hi11 dX7_ofMaid_91 ?_
    refine x_ci E.hA hh (x_runS E hh (mX0_price E.hI (fun _ _ h => absurd h (Nat.not_lt_zero _)) hw) kX0_price tb500 ⟨by decide, by decide⟩ rfl hl.1 rfl (Nat.le_of_ble_eq_true rfl) dX7_ofMaid_92 ⟨Nat.zero_le _, Nat.zero_le _⟩) (fun r12 S12 H locs hw hh => ?_)
    exact x_iret E hh hw dX7_ofMaid_95
  have hw := ifF hw c9
  refine lv_tableOut (tgt := 96) hx hb dX7_ofMaid_1 (by have n0 := lv_neT c1 (a := 0) rfl; have n1 := lv_neT c3 (a := 1) rfl; have n2 := lv_neT c5 (a := 2) rfl; have n3 := lv_neT c9 (a := 3) rfl; omega) (by decide) ?_
  refine lv_aload_n hx hb dX7_ofMaid_96 rfl (lv_at hl 0 rfl) ?_
  refine g_0_3 E hh tb373 (E.hn 0 0 (by decide)) dX7_ofMaid_97 ?_
  refine lv_iload_n hx hb dX7_ofMaid_100 rfl (lv_at hl 1 rfl) ?_
  refine x_ci E.hA hh (x_runV E hh (mX5_husband E.hI E.hn (by decide) hw) kX5_husband tb504 (E.hn 10 0 (by decide)) rv_10 ⟨by decide, by decide⟩ rfl hl.1 rfl (Nat.le_of_ble_eq_true rfl) dX7_ofMaid_101 ⟨Nat.zero_le _, Nat.zero_le _⟩) (fun r13 S13 H locs hw hh => ?_)
  exact x_iret E hh hw dX7_ofMaid_104
theorem kX7_ofMaid : kI yX7_ofMaid cX7_ofMaid 3 (some .int) 2 := ⟨tb497, ts15, tb1, tb498, by decide, by decide, by decide +kernel⟩
theorem mX7_ofMaid {l : Launch} {D : va_G} {ad : Nat → Nat → Nat} {cs : Nat → ClassId} {P : Nat → Nat → Prop} {sz tU : Nat} {adK adV : Nat → Nat} {x1 : Int32} {x2 : Int32} {S : St} {K : Int32 → St → Prop} (hI : wI ad P) (hn : ∀ kd i, i < cnA kd → P kd i) (hw : wpX7_ofMaid x1 x2 S K) : MI l yX7_ofMaid cX7_ofMaid 3 (some .int) 2 82 D ad cs P sz tU adK adV [.ref (ad 0 0), .int x1, .int x2] S K :=
  Met_of (by decide) (Nat.le_of_ble_eq_true rfl) hI hn (fun p e R s m args below meth c ls E hl hh => bX7_ofMaid E  hw hh (lv_sub hl [0, 1, 2] rfl))
def wpX7_ofMan (x1 : Int32) (x2 : Int32) (S : St) (K : Int32 → St → Prop) : Prop := if x2 = 5 then ((vp_in x1 4 ∧ K (S.1 11 0 x1.toNatClampNeg) S)) else ((vp_in x1 4 ∧ K (S.1 12 0 x1.toNatClampNeg) S))
set_option maxRecDepth 4000 in
theorem bX7_ofMan {p : Program} {l : Launch} {e : Env} {R : Room} {s : State} {m : MethodId} {args : Array Value} {below : List Frame} {meth : Method} {c : Code} {D : va_G} {ad : Nat → Nat → Nat} {cs : Nat → ClassId} {P : Nat → Nat → Prop} {sz tU : Nat} {adK adV : Nat → Nat} {K : Int32 → St → Prop} {x1 : Int32} {x2 : Int32} {S : St} {H : Heap} {locs : List Loc} {ls : Array Slot} (E : Ex p s m args meth c R RX7 cX7_ofMan 3 (some .int) 1 60 D ad cs P (wA ad P) tU adK adV cnA) (hw : wpX7_ofMan x1 x2 S K) (hh : wH D ad cs P (wA ad P) s.heap sz S H locs) (hl : lv_has ls 3 [(0, .ref (ad 0 0)), (1, .int x1), (2, .int x2)]) : W p l e R s m args below meth c H locs 0 0 (MQ below (va_Qi K (QX D ad cs P sz) (wA ad P)) args s 0 0 (wA ad P)) (F0 m 0 ls []) := by
  have hx := E.hx
  have hb := E.hb
  refine lv_iload_n hx hb dX7_ofMan_0 rfl (lv_at hl 2 rfl) ?_
  refine lv_iconst (v := 5) hx hb dX7_ofMan_1 (by decide) ?_
  refine lv_icmp_ne (tgt := 17) hx hb dX7_ofMan_2 (by decide) (fun c1 => ?_) (fun c1 => ?_)
  · have hw := ifF hw c1
    refine lv_aload_n hx hb dX7_ofMan_17 rfl (lv_at hl 0 rfl) ?_
    refine g_0_3 E hh tb373 (E.hn 0 0 (by decide)) dX7_ofMan_18 ?_
    refine g_10_7 E hh tb330 (E.hn 10 0 (by decide)) dX7_ofMan_21 ?_
    refine lv_iload_n hx hb dX7_ofMan_24 rfl (lv_at hl 1 rfl) ?_
    obtain ⟨hi2, hw⟩ := hw
    refine x_iald E hh (E.hn 12 0 (by decide)) ly_12 hi2 dX7_ofMan_25 ?_
    exact x_iret E hh hw dX7_ofMan_26
  · have hw := ifT hw c1
    refine lv_aload_n hx hb dX7_ofMan_5 rfl (lv_at hl 0 rfl) ?_
    refine g_0_3 E hh tb373 (E.hn 0 0 (by decide)) dX7_ofMan_6 ?_
    refine g_10_6 E hh tb327 (E.hn 10 0 (by decide)) dX7_ofMan_9 ?_
    refine lv_iload_n hx hb dX7_ofMan_12 rfl (lv_at hl 1 rfl) ?_
    obtain ⟨hi3, hw⟩ := hw
    refine x_iald E hh (E.hn 11 0 (by decide)) ly_11 hi3 dX7_ofMan_13 ?_
    refine lv_goto (tgt := 26) hx hb dX7_ofMan_14 (by decide) ?_
    exact x_iret E hh hw dX7_ofMan_26
theorem kX7_ofMan : kI yX7_ofMan cX7_ofMan 3 (some .int) 2 := ⟨tb507, ts16, tb1, tb508, by decide, by decide, by decide +kernel⟩
theorem mX7_ofMan {l : Launch} {D : va_G} {ad : Nat → Nat → Nat} {cs : Nat → ClassId} {P : Nat → Nat → Prop} {sz tU : Nat} {adK adV : Nat → Nat} {x1 : Int32} {x2 : Int32} {S : St} {K : Int32 → St → Prop} (hI : wI ad P) (hn : ∀ kd i, i < cnA kd → P kd i) (hw : wpX7_ofMan x1 x2 S K) : MI l yX7_ofMan cX7_ofMan 3 (some .int) 1 60 D ad cs P sz tU adK adV [.ref (ad 0 0), .int x1, .int x2] S K :=
  Met_of (by decide) (Nat.le_of_ble_eq_true rfl) hI hn (fun p e R s m args below meth c ls E hl hh => bX7_ofMan E  hw hh (lv_sub hl [0, 1, 2] rfl))
def wpX7_of (x1 : Int32) (x2 : Int32) (S : St) (K : Int32 → St → Prop) : Prop := wpX7_within x2 0 4 S (fun r1 S1 => if r1 = 0 then (wpX7_within x2 5 6 S1 (fun r3 S3 => if r3 = 0 then (K (-2) S3) else (wpX7_isMan x1 S3 (fun r5 S5 => if r5 = 0 then (K (-2) S5) else (wpX7_ofMan x1 x2 S5 (fun r7 S7 => K r7 S7)))))) else (wpX7_isMaid x1 S1 (fun r8 S8 => if r8 = 0 then (K (-2) S8) else (wpX7_ofMaid x1 x2 S8 (fun r10 S10 => K r10 S10)))))
set_option maxRecDepth 4000 in
theorem bX7_of {p : Program} {l : Launch} {e : Env} {R : Room} {s : State} {m : MethodId} {args : Array Value} {below : List Frame} {meth : Method} {c : Code} {D : va_G} {ad : Nat → Nat → Nat} {cs : Nat → ClassId} {P : Nat → Nat → Prop} {sz tU : Nat} {adK adV : Nat → Nat} {K : Int32 → St → Prop} {x1 : Int32} {x2 : Int32} {S : St} {H : Heap} {locs : List Loc} {ls : Array Slot} (E : Ex p s m args meth c R RX7 cX7_of 3 (some .int) 3 104 D ad cs P (wA ad P) tU adK adV cnA) (hw : wpX7_of x1 x2 S K) (hh : wH D ad cs P (wA ad P) s.heap sz S H locs) (hl : lv_has ls 3 [(0, .ref (ad 0 0)), (1, .int x1), (2, .int x2)]) : W p l e R s m args below meth c H locs 0 0 (MQ below (va_Qi K (QX D ad cs P sz) (wA ad P)) args s 0 0 (wA ad P)) (F0 m 0 ls []) := by
  have hx := E.hx
  have hb := E.hb
  refine lv_iload_n hx hb dX7_of_0 rfl (lv_at hl 2 rfl) ?_
  refine lv_iconst (v := 0) hx hb dX7_of_1 (by decide) ?_
  refine lv_iconst (v := 4) hx hb dX7_of_2 (by decide) ?_
  refine x_ci E.hA hh (x_runS E hh (mX7_within E.hI (fun _ _ h => absurd h (Nat.not_lt_zero _)) hw) kX7_within tb405 ⟨by decide, by decide⟩ rfl hl.1 rfl (Nat.le_of_ble_eq_true rfl) dX7_of_3 ⟨Nat.zero_le _, Nat.zero_le _⟩) (fun r1 S1 H locs hw hh => ?_)
  have hq1 := hw.2
  have hw := hw.1
  refine lv_if_eq (tgt := 29) hx hb dX7_of_6 (by decide) (fun c2 => ?_) (fun c2 => ?_)
  · have hw := ifT hw c2
    refine lv_iload_n hx hb dX7_of_29 rfl (lv_at hl 2 rfl) ?_
    refine lv_iconst (v := 5) hx hb dX7_of_30 (by decide) ?_
    refine lv_bipush (v := 6) hx hb dX7_of_31 (by decide) ?_
    refine x_ci E.hA hh (x_runS E hh (mX7_within E.hI (fun _ _ h => absurd h (Nat.not_lt_zero _)) hw) kX7_within tb405 ⟨by decide, by decide⟩ rfl hl.1 rfl (Nat.le_of_ble_eq_true rfl) dX7_of_33 ⟨Nat.zero_le _, Nat.zero_le _⟩) (fun r3 S3 H locs hw hh => ?_)
    have hq3 := hw.2
    have hw := hw.1
    refine lv_if_eq (tgt := 59) hx hb dX7_of_36 (by decide) (fun c4 => ?_) (fun c4 => ?_)
    · have hw := ifT hw c4
      refine lv_bipush (v := (-2)) hx hb dX7_of_59 (by decide) ?_
      exact x_iret E hh hw dX7_of_61
    · have hw := ifF hw c4
      refine lv_aload_n hx hb dX7_of_39 rfl (lv_at hl 0 rfl) ?_
      refine lv_iload_n hx hb dX7_of_40 rfl (lv_at hl 1 rfl) ?_
      refine x_ci E.hA hh (x_runV E hh (mX7_isMan E.hI E.hn hw) kX7_isMan tb420 (E.hn 0 0 (by decide)) rv_0 ⟨by decide, by decide⟩ rfl hl.1 rfl (Nat.le_of_ble_eq_true rfl) dX7_of_41 ⟨Nat.zero_le _, Nat.zero_le _⟩) (fun r5 S5 H locs hw hh => ?_)
      have hq5 := hw.2
      have hw := hw.1
      refine lv_if_eq (tgt := 56) hx hb dX7_of_44 (by decide) (fun c6 => ?_) (fun c6 => ?_)
      · have hw := ifT hw c6
        refine lv_bipush (v := (-2)) hx hb dX7_of_56 (by decide) ?_
        exact x_iret E hh hw dX7_of_58
      · have hw := ifF hw c6
        refine lv_aload_n hx hb dX7_of_47 rfl (lv_at hl 0 rfl) ?_
        refine lv_iload_n hx hb dX7_of_48 rfl (lv_at hl 1 rfl) ?_
        refine lv_iload_n hx hb dX7_of_49 rfl (lv_at hl 2 rfl) ?_
        refine x_ci E.hA hh (x_runV E hh (mX7_ofMan E.hI E.hn hw) kX7_ofMan tb505 (E.hn 0 0 (by decide)) rv_0 ⟨by decide, by decide⟩ rfl hl.1 rfl (Nat.le_of_ble_eq_true rfl) dX7_of_50 ⟨Nat.zero_le _, Nat.zero_le _⟩) (fun r7 S7 H locs hw hh => ?_)
        refine lv_goto (tgt := 58) hx hb dX7_of_53 (by decide) ?_
        exact x_iret E hh hw dX7_of_58
  · have hw := ifF hw c2
    refine lv_aload_n hx hb dX7_of_9 rfl (lv_at hl 0 rfl) ?_
    refine lv_iload_n hx hb dX7_of_10 rfl (lv_at hl 1 rfl) ?_
    refine x_ci E.hA hh (x_runV E hh (mX7_isMaid E.hI E.hn hw) kX7_isMaid tb424 (E.hn 0 0 (by decide)) rv_0 ⟨by decide, by decide⟩ rfl hl.1 rfl (Nat.le_of_ble_eq_true rfl) dX7_of_11 ⟨Nat.zero_le _, Nat.zero_le _⟩) (fun r8 S8 H locs hw hh => ?_)
    have hq8 := hw.2
    have hw := hw.1
    refine lv_if_eq (tgt := 26) hx hb dX7_of_14 (by decide) (fun c9 => ?_) (fun c9 => ?_)
    · have hw := ifT hw c9
      refine lv_bipush (v := (-2)) hx hb dX7_of_26 (by decide) ?_
      exact x_iret E hh hw dX7_of_28
    · have hw := ifF hw c9
      refine lv_aload_n hx hb dX7_of_17 rfl (lv_at hl 0 rfl) ?_
      refine lv_iload_n hx hb dX7_of_18 rfl (lv_at hl 1 rfl) ?_
      refine lv_iload_n hx hb dX7_of_19 rfl (lv_at hl 2 rfl) ?_
      refine x_ci E.hA hh (x_runV E hh (mX7_ofMaid E.hI E.hn hw) kX7_ofMaid tb495 (E.hn 0 0 (by decide)) rv_0 ⟨by decide, by decide⟩ rfl hl.1 rfl (Nat.le_of_ble_eq_true rfl) dX7_of_20 ⟨Nat.zero_le _, Nat.zero_le _⟩) (fun r10 S10 H locs hw hh => ?_)
      refine lv_goto (tgt := 28) hx hb dX7_of_23 (by decide) ?_
      exact x_iret E hh hw dX7_of_28
theorem kX7_of : kI yX7_of cX7_of 3 (some .int) 2 := ⟨tb492, tb493, tb1, tb494, by decide, by decide, by decide +kernel⟩
theorem mX7_of {l : Launch} {D : va_G} {ad : Nat → Nat → Nat} {cs : Nat → ClassId} {P : Nat → Nat → Prop} {sz tU : Nat} {adK adV : Nat → Nat} {x1 : Int32} {x2 : Int32} {S : St} {K : Int32 → St → Prop} (hI : wI ad P) (hn : ∀ kd i, i < cnA kd → P kd i) (hw : wpX7_of x1 x2 S K) : MI l yX7_of cX7_of 3 (some .int) 3 104 D ad cs P sz tU adK adV [.ref (ad 0 0), .int x1, .int x2] S K :=
  Met_of (by decide) (Nat.le_of_ble_eq_true rfl) hI hn (fun p e R s m args below meth c ls E hl hh => bX7_of E  hw hh (lv_sub hl [0, 1, 2] rfl))
def wpX7_feed (x1 : Int32) (S : St) (K : Int32 → St → Prop) : Prop := wpX7_within x1 0 255 S (fun r1 S1 => if r1 = 0 then (K (-2) S1) else (wpX2_append x1 S1 (fun r3 S3 => if r3 = 0 then (K (-4) S3) else (K (S3.1 1 0 2) S3))))
set_option maxRecDepth 4000 in
theorem bX7_feed {p : Program} {l : Launch} {e : Env} {R : Room} {s : State} {m : MethodId} {args : Array Value} {below : List Frame} {meth : Method} {c : Code} {D : va_G} {ad : Nat → Nat → Nat} {cs : Nat → ClassId} {P : Nat → Nat → Prop} {sz tU : Nat} {adK adV : Nat → Nat} {K : Int32 → St → Prop} {x1 : Int32} {S : St} {H : Heap} {locs : List Loc} {ls : Array Slot} (E : Ex p s m args meth c R RX7 cX7_feed 2 (some .int) 2 82 D ad cs P (wA ad P) tU adK adV cnA) (hw : wpX7_feed x1 S K) (hh : wH D ad cs P (wA ad P) s.heap sz S H locs) (hl : lv_has ls 2 [(0, .ref (ad 0 0)), (1, .int x1)]) : W p l e R s m args below meth c H locs 0 0 (MQ below (va_Qi K (QX D ad cs P sz) (wA ad P)) args s 0 0 (wA ad P)) (F0 m 0 ls []) := by
  have hx := E.hx
  have hb := E.hb
  refine lv_iload_n hx hb dX7_feed_0 rfl (lv_at hl 1 rfl) ?_
  refine lv_iconst (v := 0) hx hb dX7_feed_1 (by decide) ?_
  refine lv_sipush (v := 255) hx hb dX7_feed_2 (by decide) ?_
  refine x_ci E.hA hh (x_runS E hh (mX7_within E.hI (fun _ _ h => absurd h (Nat.not_lt_zero _)) hw) kX7_within tb405 ⟨by decide, by decide⟩ rfl hl.1 rfl (Nat.le_of_ble_eq_true rfl) dX7_feed_5 ⟨Nat.zero_le _, Nat.zero_le _⟩) (fun r1 S1 H locs hw hh => ?_)
  have hq1 := hw.2
  have hw := hw.1
  refine lv_if_ne (tgt := 14) hx hb dX7_feed_8 (by decide) (fun c2 => ?_) (fun c2 => ?_)
  · have hw := ifF hw c2
    refine lv_aload_n hx hb dX7_feed_14 rfl (lv_at hl 0 rfl) ?_
    refine g_0_0 E hh tb370 (E.hn 0 0 (by decide)) dX7_feed_15 ?_
    refine lv_iload_n hx hb dX7_feed_18 rfl (lv_at hl 1 rfl) ?_
    refine x_ci E.hA hh (x_runV E hh (mX2_append E.hI (fun kd i h => E.hn kd i (Nat.lt_of_lt_of_le h (cnBA kd))) hw) kX2_append tb213 (E.hn 1 0 (by decide)) rv_1 ⟨by decide, by decide⟩ rfl hl.1 rfl (Nat.le_of_ble_eq_true rfl) dX7_feed_19 ⟨Nat.zero_le _, Nat.zero_le _⟩) (fun r3 S3 H locs hw hh => ?_)
    have hq3 := hw.2
    have hw := hw.1
    refine lv_if_eq (tgt := 35) hx hb dX7_feed_22 (by decide) (fun c4 => ?_) (fun c4 => ?_)
    · have hw := ifT hw c4
      refine lv_bipush (v := (-4)) hx hb dX7_feed_35 (by decide) ?_
      exact x_iret E hh hw dX7_feed_37
    · have hw := ifF hw c4
      refine lv_aload_n hx hb dX7_feed_25 rfl (lv_at hl 0 rfl) ?_
      refine g_0_0 E hh tb370 (E.hn 0 0 (by decide)) dX7_feed_26 ?_
      refine g_1_2 E hh tb36 (E.hn 1 0 (by decide)) dX7_feed_29 ?_
      refine lv_goto (tgt := 37) hx hb dX7_feed_32 (by decide) ?_
      exact x_iret E hh hw dX7_feed_37
  · have hw := ifT hw c2
    refine lv_bipush (v := (-2)) hx hb dX7_feed_11 (by decide) ?_
    exact x_iret E hh hw dX7_feed_13
theorem kX7_feed : kI yX7_feed cX7_feed 2 (some .int) 1 := ⟨tb510, tb511, tb1, tb512, by decide, by decide, by decide +kernel⟩
theorem mX7_feed {l : Launch} {D : va_G} {ad : Nat → Nat → Nat} {cs : Nat → ClassId} {P : Nat → Nat → Prop} {sz tU : Nat} {adK adV : Nat → Nat} {x1 : Int32} {S : St} {K : Int32 → St → Prop} (hI : wI ad P) (hn : ∀ kd i, i < cnA kd → P kd i) (hw : wpX7_feed x1 S K) : MI l yX7_feed cX7_feed 2 (some .int) 2 82 D ad cs P sz tU adK adV [.ref (ad 0 0), .int x1] S K :=
  Met_of (by decide) (Nat.le_of_ble_eq_true rfl) hI hn (fun p e R s m args below meth c ls E hl hh => bX7_feed E  hw hh (lv_sub hl [0, 1] rfl))
def wpX7_text (S : St) (K : Int32 → St → Prop) : Prop := if (S.1 0 0 2) < 6 then (wpX2_read S (fun r2 S2 => (∀ S3, S3 = su S2 1 0 2 0 → if r2 = (-1) then ((vp_in (S3.1 0 0 2) 6 ∧ wpX3_adopt ((S3.1 0 0 2).toNatClampNeg) S3 (fun S6 => (∀ S7, S7 = su S6 0 0 2 ((S6.1 0 0 2) + 1) → K ((S7.1 0 0 2) - 1) S7)))) else (K ((-100) - r2) S3)))) else (K (-4) S)
set_option maxRecDepth 4000 in
theorem bX7_text {p : Program} {l : Launch} {e : Env} {R : Room} {s : State} {m : MethodId} {args : Array Value} {below : List Frame} {meth : Method} {c : Code} {D : va_G} {ad : Nat → Nat → Nat} {cs : Nat → ClassId} {P : Nat → Nat → Prop} {sz tU : Nat} {adK adV : Nat → Nat} {K : Int32 → St → Prop} {S : St} {H : Heap} {locs : List Loc} {ls : Array Slot} (E : Ex p s m args meth c R RX7 cX7_text 2 (some .int) 72 1796 D ad cs P (wA ad P) tU adK adV cnA) (hw : wpX7_text S K) (hh : wH D ad cs P (wA ad P) s.heap sz S H locs) (hl : lv_has ls 2 [(0, .ref (ad 0 0))]) : W p l e R s m args below meth c H locs 0 0 (MQ below (va_Qi K (QX D ad cs P sz) (wA ad P)) args s 0 0 (wA ad P)) (F0 m 0 ls []) := by
  have hx := E.hx
  have hb := E.hb
  refine lv_aload_n hx hb dX7_text_0 rfl (lv_at hl 0 rfl) ?_
  refine g_0_2 E hh tb372 (E.hn 0 0 (by decide)) dX7_text_1 ?_
  refine lv_bipush (v := 6) hx hb dX7_text_4 (by decide) ?_
  refine lv_icmp_lt (tgt := 12) hx hb dX7_text_6 (by decide) (fun c1 => ?_) (fun c1 => ?_)
  · have hw := ifT hw c1
    refine lv_aload_n hx hb dX7_text_12 rfl (lv_at hl 0 rfl) ?_
    refine g_0_0 E hh tb370 (E.hn 0 0 (by decide)) dX7_text_13 ?_
    refine x_ci E.hA hh (x_runV E hh (mX2_read E.hI (fun kd i h => E.hn kd i (Nat.lt_of_lt_of_le h (cnBA kd))) hw) kX2_read tb217 (E.hn 1 0 (by decide)) rv_1 ⟨by decide, by decide⟩ rfl hl.1 rfl (Nat.le_of_ble_eq_true rfl) dX7_text_16 ⟨Nat.zero_le _, Nat.zero_le _⟩) (fun r2 S2 H locs hw hh => ?_)
    refine lv_istore_n (lv' := [(1, .int r2), (0, .ref (ad 0 0))]) hx hb dX7_text_19 rfl hl (by decide) rfl (fun ls hl => ?_)
    refine lv_aload_n hx hb dX7_text_20 rfl (lv_at hl 1 rfl) ?_
    refine g_0_0 E hh tb370 (E.hn 0 0 (by decide)) dX7_text_21 ?_
    refine lv_iconst (v := 0) hx hb dX7_text_24 (by decide) ?_
    refine p_1_2 E hh tb36 (E.hn 1 0 (by decide)) dX7_text_25 (fun S3 H locs e3 hh => ?_)
    have hw := hw S3 e3
    refine lv_iload_n hx hb dX7_text_28 rfl (lv_at hl 0 rfl) ?_
    refine lv_iconst (v := (-1)) hx hb dX7_text_29 (by decide) ?_
    refine lv_icmp_eq (tgt := 38) hx hb dX7_text_30 (by decide) (fun c4 => ?_) (fun c4 => ?_)
    · have hw := ifT hw c4
      refine lv_aload_n hx hb dX7_text_38 rfl (lv_at hl 1 rfl) ?_
      refine g_0_1 E hh tb371 (E.hn 0 0 (by decide)) dX7_text_39 ?_
      refine lv_aload_n hx hb dX7_text_42 rfl (lv_at hl 1 rfl) ?_
      refine g_0_2 E hh tb372 (E.hn 0 0 (by decide)) dX7_text_43 ?_
      obtain ⟨hi5, hw⟩ := hw
      refine x_aald (to := 6) E hh (E.hn 5 0 (by decide)) (fun _ _ => rfl) rfl hi5 dX7_text_46 ?_
      refine lv_aload_n hx hb dX7_text_47 rfl (lv_at hl 1 rfl) ?_
      refine g_0_0 E hh tb370 (E.hn 0 0 (by decide)) dX7_text_48 ?_
      refine g_1_0 E hh tb32 (E.hn 1 0 (by decide)) dX7_text_51 ?_
      refine lv_aload_n hx hb dX7_text_54 rfl (lv_at hl 1 rfl) ?_
      refine g_0_0 E hh tb370 (E.hn 0 0 (by decide)) dX7_text_55 ?_
      refine g_1_1 E hh tb34 (E.hn 1 0 (by decide)) dX7_text_58 ?_
      refine x_cv E.hA hh (x_runV E hh (mX3_adopt E.hI (fun kd i h => E.hn kd i (Nat.lt_of_lt_of_le h (cnBA kd))) (vp_lt hi5) hw) kX3_adopt tb290 (E.hn 6 ((S3.1 0 0 2).toNatClampNeg) (vp_lt hi5)) rv_6 ⟨by decide, by decide⟩ rfl hl.1 rfl (Nat.le_of_ble_eq_true rfl) dX7_text_61 ⟨Nat.zero_le _, Nat.zero_le _⟩) (fun S6 H locs hw hh => ?_)
      refine lv_aload_n hx hb dX7_text_64 rfl (lv_at hl 1 rfl) ?_
      refine lv_dup hx hb dX7_text_65 rfl ?_
      refine g_0_2 E hh tb372 (E.hn 0 0 (by decide)) dX7_text_66 ?_
      refine lv_iconst (v := 1) hx hb dX7_text_69 (by decide) ?_
      refine lv_iadd hx hb dX7_text_70 ?_
      refine p_0_2 E hh tb372 (E.hn 0 0 (by decide)) dX7_text_71 (fun S7 H locs e7 hh => ?_)
      have hw := hw S7 e7
      refine lv_aload_n hx hb dX7_text_74 rfl (lv_at hl 1 rfl) ?_
      refine g_0_2 E hh tb372 (E.hn 0 0 (by decide)) dX7_text_75 ?_
      refine lv_iconst (v := 1) hx hb dX7_text_78 (by decide) ?_
      refine lv_isub hx hb dX7_text_79 ?_
      exact x_iret E hh hw dX7_text_80
    · have hw := ifF hw c4
      refine lv_bipush (v := (-100)) hx hb dX7_text_33 (by decide) ?_
      refine lv_iload_n hx hb dX7_text_35 rfl (lv_at hl 0 rfl) ?_
      refine lv_isub hx hb dX7_text_36 ?_
      exact x_iret E hh hw dX7_text_37
  · have hw := ifF hw c1
    refine lv_bipush (v := (-4)) hx hb dX7_text_9 (by decide) ?_
    exact x_iret E hh hw dX7_text_11
theorem kX7_text : kI yX7_text cX7_text 2 (some .int) 0 := ⟨tb514, tb515, tb1, tb516, by decide, by decide, by decide +kernel⟩
theorem mX7_text {l : Launch} {D : va_G} {ad : Nat → Nat → Nat} {cs : Nat → ClassId} {P : Nat → Nat → Prop} {sz tU : Nat} {adK adV : Nat → Nat} {S : St} {K : Int32 → St → Prop} (hI : wI ad P) (hn : ∀ kd i, i < cnA kd → P kd i) (hw : wpX7_text S K) : MI l yX7_text cX7_text 2 (some .int) 72 1796 D ad cs P sz tU adK adV [.ref (ad 0 0)] S K :=
  Met_of (by decide) (Nat.le_of_ble_eq_true rfl) hI hn (fun p e R s m args below meth c ls E hl hh => bX7_text E  hw hh (lv_sub hl [0] rfl))
def wpX7_force (x1 : Int32) (S : St) (K : Int32 → St → Prop) : Prop := wpX7_within x1 0 ((S.1 0 0 2) - 1) S (fun r1 S1 => if r1 = 0 then (K (-2) S1) else (((S1.1 10 0 3).toNatClampNeg < 6 ∧ (vp_in x1 6 ∧ (∀ S5, S5 = su S1 10 0 3 x1 → K (nI ((S1.1 10 0 3).toNatClampNeg)) S5)))))
set_option maxRecDepth 4000 in
theorem bX7_force {p : Program} {l : Launch} {e : Env} {R : Room} {s : State} {m : MethodId} {args : Array Value} {below : List Frame} {meth : Method} {c : Code} {D : va_G} {ad : Nat → Nat → Nat} {cs : Nat → ClassId} {P : Nat → Nat → Prop} {sz tU : Nat} {adK adV : Nat → Nat} {K : Int32 → St → Prop} {x1 : Int32} {S : St} {H : Heap} {locs : List Loc} {ls : Array Slot} (E : Ex p s m args meth c R RX7 cX7_force 3 (some .int) 2 82 D ad cs P (wA ad P) tU adK adV cnA) (hw : wpX7_force x1 S K) (hh : wH D ad cs P (wA ad P) s.heap sz S H locs) (hl : lv_has ls 3 [(0, .ref (ad 0 0)), (1, .int x1)]) : W p l e R s m args below meth c H locs 0 0 (MQ below (va_Qi K (QX D ad cs P sz) (wA ad P)) args s 0 0 (wA ad P)) (F0 m 0 ls []) := by
  have hx := E.hx
  have hb := E.hb
  refine lv_iload_n hx hb dX7_force_0 rfl (lv_at hl 1 rfl) ?_
  refine lv_iconst (v := 0) hx hb dX7_force_1 (by decide) ?_
  refine lv_aload_n hx hb dX7_force_2 rfl (lv_at hl 0 rfl) ?_
  refine g_0_2 E hh tb372 (E.hn 0 0 (by decide)) dX7_force_3 ?_
  refine lv_iconst (v := 1) hx hb dX7_force_6 (by decide) ?_
  refine lv_isub hx hb dX7_force_7 ?_
  refine x_ci E.hA hh (x_runS E hh (mX7_within E.hI (fun _ _ h => absurd h (Nat.not_lt_zero _)) hw) kX7_within tb405 ⟨by decide, by decide⟩ rfl hl.1 rfl (Nat.le_of_ble_eq_true rfl) dX7_force_8 ⟨Nat.zero_le _, Nat.zero_le _⟩) (fun r1 S1 H locs hw hh => ?_)
  have hq1 := hw.2
  have hw := hw.1
  refine lv_if_ne (tgt := 17) hx hb dX7_force_11 (by decide) (fun c2 => ?_) (fun c2 => ?_)
  · have hw := ifF hw c2
    refine lv_aload_n hx hb dX7_force_17 rfl (lv_at hl 0 rfl) ?_
    refine g_0_3 E hh tb373 (E.hn 0 0 (by decide)) dX7_force_18 ?_
    obtain ⟨hl3, hw⟩ := hw
    refine g_10_3 E hh tb320 (E.hn 10 0 (by decide)) dX7_force_21 ?_
    refine g_6_0 E hh tb133 (E.hn 6 ((S1.1 10 0 3).toNatClampNeg) hl3) dX7_force_24 ?_
    refine lv_istore_n (lv' := [(2, .int (nI ((S1.1 10 0 3).toNatClampNeg))), (0, .ref (ad 0 0)), (1, .int x1)]) hx hb dX7_force_27 rfl hl (by decide) rfl (fun ls hl => ?_)
    refine lv_aload_n hx hb dX7_force_28 rfl (lv_at hl 1 rfl) ?_
    refine g_0_3 E hh tb373 (E.hn 0 0 (by decide)) dX7_force_29 ?_
    refine lv_aload_n hx hb dX7_force_32 rfl (lv_at hl 1 rfl) ?_
    refine g_0_1 E hh tb371 (E.hn 0 0 (by decide)) dX7_force_33 ?_
    refine lv_iload_n hx hb dX7_force_36 rfl (lv_at hl 2 rfl) ?_
    obtain ⟨hi4, hw⟩ := hw
    refine x_aald (to := 6) E hh (E.hn 5 0 (by decide)) (fun _ _ => rfl) rfl hi4 dX7_force_37 ?_
    refine p_10_3 E hh tb320 (E.hn 10 0 (by decide)) dX7_force_38 (fun S5 H locs e5 hh => ?_)
    have hw := hw S5 e5
    refine lv_iload_n hx hb dX7_force_41 rfl (lv_at hl 0 rfl) ?_
    exact x_iret E hh hw dX7_force_42
  · have hw := ifT hw c2
    refine lv_bipush (v := (-2)) hx hb dX7_force_14 (by decide) ?_
    exact x_iret E hh hw dX7_force_16
theorem kX7_force : kI yX7_force cX7_force 3 (some .int) 1 := ⟨tb518, tb519, tb1, tb520, by decide, by decide, by decide +kernel⟩
theorem mX7_force {l : Launch} {D : va_G} {ad : Nat → Nat → Nat} {cs : Nat → ClassId} {P : Nat → Nat → Prop} {sz tU : Nat} {adK adV : Nat → Nat} {x1 : Int32} {S : St} {K : Int32 → St → Prop} (hI : wI ad P) (hn : ∀ kd i, i < cnA kd → P kd i) (hw : wpX7_force x1 S K) : MI l yX7_force cX7_force 3 (some .int) 2 82 D ad cs P sz tU adK adV [.ref (ad 0 0), .int x1] S K :=
  Met_of (by decide) (Nat.le_of_ble_eq_true rfl) hI hn (fun p e R s m args below meth c ls E hl hh => bX7_force E  hw hh (lv_sub hl [0, 1] rfl))
def wpX7_ask (x1 : Int32) (x2 : Int32) (S : St) (K : Int32 → St → Prop) : Prop := wpX7_arePair x1 x2 S (fun r1 S1 => if r1 = 0 then (K (-2) S1) else (wpX5_mayAsk 0 x1 x2 S1 (fun r3 S3 => if r3 = 0 then (K (-3) S3) else (wpX5_asking 0 x1 x2 S3 (fun r5 S5 => if r5 = 0 then (K 0 S5) else (K 1 S5))))))
set_option maxRecDepth 4000 in
theorem bX7_ask {p : Program} {l : Launch} {e : Env} {R : Room} {s : State} {m : MethodId} {args : Array Value} {below : List Frame} {meth : Method} {c : Code} {D : va_G} {ad : Nat → Nat → Nat} {cs : Nat → ClassId} {P : Nat → Nat → Prop} {sz tU : Nat} {adK adV : Nat → Nat} {K : Int32 → St → Prop} {x1 : Int32} {x2 : Int32} {S : St} {H : Heap} {locs : List Loc} {ls : Array Slot} (E : Ex p s m args meth c R RX7 cX7_ask 3 (some .int) 6 175 D ad cs P (wA ad P) tU adK adV cnA) (hw : wpX7_ask x1 x2 S K) (hh : wH D ad cs P (wA ad P) s.heap sz S H locs) (hl : lv_has ls 3 [(0, .ref (ad 0 0)), (1, .int x1), (2, .int x2)]) : W p l e R s m args below meth c H locs 0 0 (MQ below (va_Qi K (QX D ad cs P sz) (wA ad P)) args s 0 0 (wA ad P)) (F0 m 0 ls []) := by
  have hx := E.hx
  have hb := E.hb
  refine lv_aload_n hx hb dX7_ask_0 rfl (lv_at hl 0 rfl) ?_
  refine lv_iload_n hx hb dX7_ask_1 rfl (lv_at hl 1 rfl) ?_
  refine lv_iload_n hx hb dX7_ask_2 rfl (lv_at hl 2 rfl) ?_
  refine x_ci E.hA hh (x_runV E hh (mX7_arePair E.hI E.hn hw) kX7_arePair tb416 (E.hn 0 0 (by decide)) rv_0 ⟨by decide, by decide⟩ rfl hl.1 rfl (Nat.le_of_ble_eq_true rfl) dX7_ask_3 ⟨Nat.zero_le _, Nat.zero_le _⟩) (fun r1 S1 H locs hw hh => ?_)
  have hq1 := hw.2
  have hw := hw.1
  refine lv_if_ne (tgt := 12) hx hb dX7_ask_6 (by decide) (fun c2 => ?_) (fun c2 => ?_)
  · have hw := ifF hw c2
    refine lv_aload_n hx hb dX7_ask_12 rfl (lv_at hl 0 rfl) ?_
    refine g_0_3 E hh tb373 (E.hn 0 0 (by decide)) dX7_ask_13 ?_
    refine lv_iload_n hx hb dX7_ask_16 rfl (lv_at hl 1 rfl) ?_
    refine lv_iload_n hx hb dX7_ask_17 rfl (lv_at hl 2 rfl) ?_
    refine x_ci E.hA hh (x_runV E hh (mX5_mayAsk E.hI E.hn (by decide) hw) kX5_mayAsk tb446 (E.hn 10 0 (by decide)) rv_10 ⟨by decide, by decide⟩ rfl hl.1 rfl (Nat.le_of_ble_eq_true rfl) dX7_ask_18 ⟨Nat.zero_le _, Nat.zero_le _⟩) (fun r3 S3 H locs hw hh => ?_)
    have hq3 := hw.2
    have hw := hw.1
    refine lv_if_ne (tgt := 27) hx hb dX7_ask_21 (by decide) (fun c4 => ?_) (fun c4 => ?_)
    · have hw := ifF hw c4
      refine lv_aload_n hx hb dX7_ask_27 rfl (lv_at hl 0 rfl) ?_
      refine g_0_3 E hh tb373 (E.hn 0 0 (by decide)) dX7_ask_28 ?_
      refine lv_iload_n hx hb dX7_ask_31 rfl (lv_at hl 1 rfl) ?_
      refine lv_iload_n hx hb dX7_ask_32 rfl (lv_at hl 2 rfl) ?_
      refine x_ci E.hA hh (x_runV E hh (mX5_asking E.hI E.hn (by decide) hw) kX5_asking tb525 (E.hn 10 0 (by decide)) rv_10 ⟨by decide, by decide⟩ rfl hl.1 rfl (Nat.le_of_ble_eq_true rfl) dX7_ask_33 ⟨Nat.zero_le _, Nat.zero_le _⟩) (fun r5 S5 H locs hw hh => ?_)
      have hq5 := hw.2
      have hw := hw.1
      refine lv_if_eq (tgt := 43) hx hb dX7_ask_36 (by decide) (fun c6 => ?_) (fun c6 => ?_)
      · have hw := ifT hw c6
        refine lv_iconst (v := 0) hx hb dX7_ask_43 (by decide) ?_
        exact x_iret E hh hw dX7_ask_44
      · have hw := ifF hw c6
        refine lv_iconst (v := 1) hx hb dX7_ask_39 (by decide) ?_
        refine lv_goto (tgt := 44) hx hb dX7_ask_40 (by decide) ?_
        exact x_iret E hh hw dX7_ask_44
    · have hw := ifT hw c4
      refine lv_bipush (v := (-3)) hx hb dX7_ask_24 (by decide) ?_
      exact x_iret E hh hw dX7_ask_26
  · have hw := ifT hw c2
    refine lv_bipush (v := (-2)) hx hb dX7_ask_9 (by decide) ?_
    exact x_iret E hh hw dX7_ask_11
theorem kX7_ask : kI yX7_ask cX7_ask 3 (some .int) 2 := ⟨tb522, tb523, tb1, tb524, by decide, by decide, by decide +kernel⟩
theorem mX7_ask {l : Launch} {D : va_G} {ad : Nat → Nat → Nat} {cs : Nat → ClassId} {P : Nat → Nat → Prop} {sz tU : Nat} {adK adV : Nat → Nat} {x1 : Int32} {x2 : Int32} {S : St} {K : Int32 → St → Prop} (hI : wI ad P) (hn : ∀ kd i, i < cnA kd → P kd i) (hw : wpX7_ask x1 x2 S K) : MI l yX7_ask cX7_ask 3 (some .int) 6 175 D ad cs P sz tU adK adV [.ref (ad 0 0), .int x1, .int x2] S K :=
  Met_of (by decide) (Nat.le_of_ble_eq_true rfl) hI hn (fun p e R s m args below meth c ls E hl hh => bX7_ask E  hw hh (lv_sub hl [0, 1, 2] rfl))
def wpX7_part (x1 : Int32) (S : St) (K : Int32 → St → Prop) : Prop := wpX7_isMan x1 S (fun r1 S1 => if r1 = 0 then (K (-2) S1) else ((vp_in x1 4 ∧ if (S1.1 12 0 x1.toNatClampNeg) = (-1) then (K (-3) S1) else (wpX7_replace 12 0 4 x1 (-1) S1 (fun r5 S5 => K r5 S5)))))
set_option maxRecDepth 4000 in
theorem bX7_part {p : Program} {l : Launch} {e : Env} {R : Room} {s : State} {m : MethodId} {args : Array Value} {below : List Frame} {meth : Method} {c : Code} {D : va_G} {ad : Nat → Nat → Nat} {cs : Nat → ClassId} {P : Nat → Nat → Prop} {sz tU : Nat} {adK adV : Nat → Nat} {K : Int32 → St → Prop} {x1 : Int32} {S : St} {H : Heap} {locs : List Loc} {ls : Array Slot} (E : Ex p s m args meth c R RX7 cX7_part 2 (some .int) 3 103 D ad cs P (wA ad P) tU adK adV cnA) (hw : wpX7_part x1 S K) (hh : wH D ad cs P (wA ad P) s.heap sz S H locs) (hl : lv_has ls 2 [(0, .ref (ad 0 0)), (1, .int x1)]) : W p l e R s m args below meth c H locs 0 0 (MQ below (va_Qi K (QX D ad cs P sz) (wA ad P)) args s 0 0 (wA ad P)) (F0 m 0 ls []) := by
  have hx := E.hx
  have hb := E.hb
  refine lv_aload_n hx hb dX7_part_0 rfl (lv_at hl 0 rfl) ?_
  refine lv_iload_n hx hb dX7_part_1 rfl (lv_at hl 1 rfl) ?_
  refine x_ci E.hA hh (x_runV E hh (mX7_isMan E.hI E.hn hw) kX7_isMan tb420 (E.hn 0 0 (by decide)) rv_0 ⟨by decide, by decide⟩ rfl hl.1 rfl (Nat.le_of_ble_eq_true rfl) dX7_part_2 ⟨Nat.zero_le _, Nat.zero_le _⟩) (fun r1 S1 H locs hw hh => ?_)
  have hq1 := hw.2
  have hw := hw.1
  refine lv_if_ne (tgt := 11) hx hb dX7_part_5 (by decide) (fun c2 => ?_) (fun c2 => ?_)
  · have hw := ifF hw c2
    refine lv_aload_n hx hb dX7_part_11 rfl (lv_at hl 0 rfl) ?_
    refine g_0_3 E hh tb373 (E.hn 0 0 (by decide)) dX7_part_12 ?_
    refine g_10_7 E hh tb330 (E.hn 10 0 (by decide)) dX7_part_15 ?_
    refine lv_iload_n hx hb dX7_part_18 rfl (lv_at hl 1 rfl) ?_
    obtain ⟨hi3, hw⟩ := hw
    refine x_iald E hh (E.hn 12 0 (by decide)) ly_12 hi3 dX7_part_19 ?_
    refine lv_iconst (v := (-1)) hx hb dX7_part_20 (by decide) ?_
    refine lv_icmp_ne (tgt := 29) hx hb dX7_part_21 (by decide) (fun c4 => ?_) (fun c4 => ?_)
    · have hw := ifF hw c4
      refine lv_aload_n hx hb dX7_part_29 rfl (lv_at hl 0 rfl) ?_
      refine g_0_3 E hh tb373 (E.hn 0 0 (by decide)) dX7_part_30 ?_
      refine g_10_7 E hh tb330 (E.hn 10 0 (by decide)) dX7_part_33 ?_
      refine lv_iload_n hx hb dX7_part_36 rfl (lv_at hl 1 rfl) ?_
      refine lv_iconst (v := (-1)) hx hb dX7_part_37 (by decide) ?_
      refine x_ci E.hA hh (x_runS E hh (mX7_replace E.hI (fun _ _ h => absurd h (Nat.not_lt_zero _)) (E.hn 12 0 (by decide)) ly_12 hw) kX7_replace tb431 ⟨by decide, by decide⟩ rfl hl.1 rfl (Nat.le_of_ble_eq_true rfl) dX7_part_38 ⟨Nat.zero_le _, Nat.zero_le _⟩) (fun r5 S5 H locs hw hh => ?_)
      exact x_iret E hh hw dX7_part_41
    · have hw := ifT hw c4
      refine lv_bipush (v := (-3)) hx hb dX7_part_24 (by decide) ?_
      refine lv_goto (tgt := 41) hx hb dX7_part_26 (by decide) ?_
      exact x_iret E hh hw dX7_part_41
  · have hw := ifT hw c2
    refine lv_bipush (v := (-2)) hx hb dX7_part_8 (by decide) ?_
    exact x_iret E hh hw dX7_part_10
theorem kX7_part : kI yX7_part cX7_part 2 (some .int) 1 := ⟨tb536, tb537, tb1, tb538, by decide, by decide, by decide +kernel⟩
theorem mX7_part {l : Launch} {D : va_G} {ad : Nat → Nat → Nat} {cs : Nat → ClassId} {P : Nat → Nat → Prop} {sz tU : Nat} {adK adV : Nat → Nat} {x1 : Int32} {S : St} {K : Int32 → St → Prop} (hI : wI ad P) (hn : ∀ kd i, i < cnA kd → P kd i) (hw : wpX7_part x1 S K) : MI l yX7_part cX7_part 2 (some .int) 3 103 D ad cs P sz tU adK adV [.ref (ad 0 0), .int x1] S K :=
  Met_of (by decide) (Nat.le_of_ble_eq_true rfl) hI hn (fun p e R s m args below meth c ls E hl hh => bX7_part E  hw hh (lv_sub hl [0, 1] rfl))
def wpX7_way (x1 : Int32) (x2 : Int32) (x3 : Int32) (x4 : Int32) (S : St) (K : Int32 → St → Prop) : Prop := wpX7_arePair x1 x2 S (fun r1 S1 => if r1 = 0 then (K (-2) S1) else (wpX7_within x3 0 1 S1 (fun r3 S3 => if r3 = 0 then (K (-2) S3) else (wpX7_within x4 0 5 S3 (fun r5 S5 => if r5 = 0 then (K (-2) S5) else (wpX5_resemble 1 0 S5 (fun S7 => wpX6_seek 1 x1 x2 x3 S7 (fun S8 => if (S8.1 26 0 1) = 0 then (K (-1) S8) else ((if x4 = 0 then (K (S8.1 26 0 2) S8) else (if x4 = 1 then (K (S8.1 26 0 3) S8) else (if (S8.1 26 0 2) ≤ (x4 - 2) then (K (-1) S8) else ((vp_in (x4 - 2) 4 ∧ K (S8.1 27 0 (x4 - 2).toNatClampNeg) S8))))))))))))))
set_option maxRecDepth 4000 in
theorem bX7_way {p : Program} {l : Launch} {e : Env} {R : Room} {s : State} {m : MethodId} {args : Array Value} {below : List Frame} {meth : Method} {c : Code} {D : va_G} {ad : Nat → Nat → Nat} {cs : Nat → ClassId} {P : Nat → Nat → Prop} {sz tU : Nat} {adK adV : Nat → Nat} {K : Int32 → St → Prop} {x1 : Int32} {x2 : Int32} {x3 : Int32} {x4 : Int32} {S : St} {H : Heap} {locs : List Loc} {ls : Array Slot} (E : Ex p s m args meth c R RX7 cX7_way 5 (some .int) 15 446 D ad cs P (wA ad P) tU adK adV cnA) (hw : wpX7_way x1 x2 x3 x4 S K) (hh : wH D ad cs P (wA ad P) s.heap sz S H locs) (hl : lv_has ls 5 [(0, .ref (ad 0 0)), (1, .int x1), (2, .int x2), (3, .int x3), (4, .int x4)]) : W p l e R s m args below meth c H locs 0 0 (MQ below (va_Qi K (QX D ad cs P sz) (wA ad P)) args s 0 0 (wA ad P)) (F0 m 0 ls []) := by
  have hx := E.hx
  have hb := E.hb
  refine lv_aload_n hx hb dX7_way_0 rfl (lv_at hl 0 rfl) ?_
  refine lv_iload_n hx hb dX7_way_1 rfl (lv_at hl 1 rfl) ?_
  refine lv_iload_n hx hb dX7_way_2 rfl (lv_at hl 2 rfl) ?_
  refine x_ci E.hA hh (x_runV E hh (mX7_arePair E.hI E.hn hw) kX7_arePair tb416 (E.hn 0 0 (by decide)) rv_0 ⟨by decide, by decide⟩ rfl hl.1 rfl (Nat.le_of_ble_eq_true rfl) dX7_way_3 ⟨Nat.zero_le _, Nat.zero_le _⟩) (fun r1 S1 H locs hw hh => ?_)
  have hq1 := hw.2
  have hw := hw.1
  refine lv_if_eq (tgt := 28) hx hb dX7_way_6 (by decide) (fun c2 => ?_) (fun c2 => ?_)
  · have hw := ifT hw c2
    refine lv_bipush (v := (-2)) hx hb dX7_way_28 (by decide) ?_
    exact x_iret E hh hw dX7_way_30
  · have hw := ifF hw c2
    refine lv_iload_n hx hb dX7_way_9 rfl (lv_at hl 3 rfl) ?_
    refine lv_iconst (v := 0) hx hb dX7_way_10 (by decide) ?_
    refine lv_iconst (v := 1) hx hb dX7_way_11 (by decide) ?_
    refine x_ci E.hA hh (x_runS E hh (mX7_within E.hI (fun _ _ h => absurd h (Nat.not_lt_zero _)) hw) kX7_within tb405 ⟨by decide, by decide⟩ rfl hl.1 rfl (Nat.le_of_ble_eq_true rfl) dX7_way_12 ⟨Nat.zero_le _, Nat.zero_le _⟩) (fun r3 S3 H locs hw hh => ?_)
    have hq3 := hw.2
    have hw := hw.1
    refine lv_if_eq (tgt := 28) hx hb dX7_way_15 (by decide) (fun c4 => ?_) (fun c4 => ?_)
    · have hw := ifT hw c4
      refine lv_bipush (v := (-2)) hx hb dX7_way_28 (by decide) ?_
      exact x_iret E hh hw dX7_way_30
    · have hw := ifF hw c4
      refine lv_iload hx hb dX7_way_18 (lv_at hl 4 rfl) ?_
      refine lv_iconst (v := 0) hx hb dX7_way_20 (by decide) ?_
      refine lv_iconst (v := 5) hx hb dX7_way_21 (by decide) ?_
      refine x_ci E.hA hh (x_runS E hh (mX7_within E.hI (fun _ _ h => absurd h (Nat.not_lt_zero _)) hw) kX7_within tb405 ⟨by decide, by decide⟩ rfl hl.1 rfl (Nat.le_of_ble_eq_true rfl) dX7_way_22 ⟨Nat.zero_le _, Nat.zero_le _⟩) (fun r5 S5 H locs hw hh => ?_)
      have hq5 := hw.2
      have hw := hw.1
      refine lv_if_ne (tgt := 31) hx hb dX7_way_25 (by decide) (fun c6 => ?_) (fun c6 => ?_)
      · have hw := ifF hw c6
        refine lv_aload_n hx hb dX7_way_31 rfl (lv_at hl 0 rfl) ?_
        refine g_0_4 E hh tb374 (E.hn 0 0 (by decide)) dX7_way_32 ?_
        refine lv_aload_n hx hb dX7_way_35 rfl (lv_at hl 0 rfl) ?_
        refine g_0_3 E hh tb373 (E.hn 0 0 (by decide)) dX7_way_36 ?_
        refine x_cv E.hA hh (x_runV E hh (mX5_resemble E.hI E.hn (by decide) (by decide) hw) kX5_resemble tb543 (E.hn 10 1 (by decide)) rv_10 ⟨by decide, by decide⟩ rfl hl.1 rfl (Nat.le_of_ble_eq_true rfl) dX7_way_39 ⟨Nat.zero_le _, Nat.zero_le _⟩) (fun S7 H locs hw hh => ?_)
        refine lv_aload_n hx hb dX7_way_42 rfl (lv_at hl 0 rfl) ?_
        refine g_0_8 E hh tb378 (E.hn 0 0 (by decide)) dX7_way_43 ?_
        refine lv_aload_n hx hb dX7_way_46 rfl (lv_at hl 0 rfl) ?_
        refine g_0_4 E hh tb374 (E.hn 0 0 (by decide)) dX7_way_47 ?_
        refine lv_iload_n hx hb dX7_way_50 rfl (lv_at hl 1 rfl) ?_
        refine lv_iload_n hx hb dX7_way_51 rfl (lv_at hl 2 rfl) ?_
        refine lv_iload_n hx hb dX7_way_52 rfl (lv_at hl 3 rfl) ?_
        refine x_cv E.hA hh (x_runV E hh (mX6_seek E.hI E.hn (by decide) hw) kX6_seek tb548 (E.hn 26 0 (by decide)) rv_26 ⟨by decide, by decide⟩ rfl hl.1 rfl (Nat.le_of_ble_eq_true rfl) dX7_way_53 ⟨Nat.zero_le _, Nat.zero_le _⟩) (fun S8 H locs hw hh => ?_)
        refine lv_aload_n hx hb dX7_way_56 rfl (lv_at hl 0 rfl) ?_
        refine g_0_8 E hh tb378 (E.hn 0 0 (by decide)) dX7_way_57 ?_
        refine g_26_1 E hh tb108 (E.hn 26 0 (by decide)) dX7_way_60 ?_
        refine lv_if_ne (tgt := 68) hx hb dX7_way_63 (by decide) (fun c9 => ?_) (fun c9 => ?_)
        · have hw := ifF hw c9
          refine lv_iload hx hb dX7_way_68 (lv_at hl 4 rfl) ?_
          by_cases c10 : x4 = 0
          · have hw := ifT hw c10
            refine lv_lookup (off := 26) (tgt := 96) hx hb dX7_way_70 (by decide) (by rw [c10] <;> rfl) (by decide) ?_
            refine lv_aload_n hx hb dX7_way_96 rfl (lv_at hl 0 rfl) ?_
            refine g_0_8 E hh tb378 (E.hn 0 0 (by decide)) dX7_way_97 ?_
            refine g_26_2 E hh tb110 (E.hn 26 0 (by decide)) dX7_way_100 ?_
            exact x_iret E hh hw dX7_way_103
          have hw := ifF hw c10
          by_cases c11 : x4 = 1
          · have hw := ifT hw c11
            refine lv_lookup (off := 34) (tgt := 104) hx hb dX7_way_70 (by decide) (by rw [c11] <;> rfl) (by decide) ?_
            refine lv_aload_n hx hb dX7_way_104 rfl (lv_at hl 0 rfl) ?_
            refine g_0_8 E hh tb378 (E.hn 0 0 (by decide)) dX7_way_105 ?_
            refine g_26_3 E hh tb112 (E.hn 26 0 (by decide)) dX7_way_108 ?_
            exact x_iret E hh hw dX7_way_111
          have hw := ifF hw c11
          refine lv_lookup (off := 42) (tgt := 112) hx hb dX7_way_70 (by decide) (by show Op.lookupswitch.offset [(0, 26), (1, 34)] _ _ = _; rw [lv_osw (a := 0) c10 (by decide), lv_osw (a := 1) c11 (by decide)] <;> rfl) (by decide) ?_
          refine lv_iload hx hb dX7_way_112 (lv_at hl 4 rfl) ?_
          refine lv_iconst (v := 2) hx hb dX7_way_114 (by decide) ?_
          refine lv_isub hx hb dX7_way_115 ?_
          refine lv_aload_n hx hb dX7_way_116 rfl (lv_at hl 0 rfl) ?_
          refine g_0_8 E hh tb378 (E.hn 0 0 (by decide)) dX7_way_117 ?_
          refine g_26_2 E hh tb110 (E.hn 26 0 (by decide)) dX7_way_120 ?_
          refine lv_icmp_ge (tgt := 141) hx hb dX7_way_123 (by decide) (fun c12 => ?_) (fun c12 => ?_)
          · have hw := ifT hw c12
            refine lv_iconst (v := (-1)) hx hb dX7_way_141 (by decide) ?_
            exact x_iret E hh hw dX7_way_142
          · have hw := ifF hw c12
            refine lv_aload_n hx hb dX7_way_126 rfl (lv_at hl 0 rfl) ?_
            refine g_0_8 E hh tb378 (E.hn 0 0 (by decide)) dX7_way_127 ?_
            refine g_26_0 E hh tb106 (E.hn 26 0 (by decide)) dX7_way_130 ?_
            refine lv_iload hx hb dX7_way_133 (lv_at hl 4 rfl) ?_
            refine lv_iconst (v := 2) hx hb dX7_way_135 (by decide) ?_
            refine lv_isub hx hb dX7_way_136 ?_
            obtain ⟨hi13, hw⟩ := hw
            refine x_iald E hh (E.hn 27 0 (by decide)) ly_27 hi13 dX7_way_137 ?_
            refine lv_goto (tgt := 142) hx hb dX7_way_138 (by decide) ?_
            exact x_iret E hh hw dX7_way_142
        · have hw := ifT hw c9
          refine lv_iconst (v := (-1)) hx hb dX7_way_66 (by decide) ?_
          exact x_iret E hh hw dX7_way_67
      · have hw := ifT hw c6
        refine lv_bipush (v := (-2)) hx hb dX7_way_28 (by decide) ?_
        exact x_iret E hh hw dX7_way_30
theorem kX7_way : kI yX7_way cX7_way 5 (some .int) 4 := ⟨tb540, tb541, tb1, tb542, by decide, by decide, by decide +kernel⟩
theorem mX7_way {l : Launch} {D : va_G} {ad : Nat → Nat → Nat} {cs : Nat → ClassId} {P : Nat → Nat → Prop} {sz tU : Nat} {adK adV : Nat → Nat} {x1 : Int32} {x2 : Int32} {x3 : Int32} {x4 : Int32} {S : St} {K : Int32 → St → Prop} (hI : wI ad P) (hn : ∀ kd i, i < cnA kd → P kd i) (hw : wpX7_way x1 x2 x3 x4 S K) : MI l yX7_way cX7_way 5 (some .int) 15 446 D ad cs P sz tU adK adV [.ref (ad 0 0), .int x1, .int x2, .int x3, .int x4] S K :=
  Met_of (by decide) (Nat.le_of_ble_eq_true rfl) hI hn (fun p e R s m args below meth c ls E hl hh => bX7_way E  hw hh (lv_sub hl [0, 1, 2, 3, 4] rfl))
def wbX7_mistake_86 (R15 : Int32 → Int32 → St → Prop) (K : Int32 → St → Prop) (x1 : Int32) (x2 : Int32) (x3 : Int32) (S : St) : Prop := R15 x2 (x3 + 1) S
set_option maxRecDepth 4000 in
theorem bX7_mistake_86 {p : Program} {l : Launch} {e : Env} {R : Room} {s : State} {m : MethodId} {args : Array Value} {below : List Frame} {meth : Method} {c : Code} {D : va_G} {ad : Nat → Nat → Nat} {cs : Nat → ClassId} {P : Nat → Nat → Prop} {sz tU : Nat} {adK adV : Nat → Nat} {R15 : Int32 → Int32 → St → Prop} {K : Int32 → St → Prop} {x1 : Int32} {x2 : Int32} {x3 : Int32} {S : St} {H : Heap} {locs : List Loc} {ls : Array Slot} (E : Ex p s m args meth c R RX7 cX7_mistake 4 (some .int) 5 152 D ad cs P (wA ad P) tU adK adV cnA) (hR15 : ∀ (z2 : Int32) (z3 : Int32) (S : St) (H : Heap) (locs : List Loc) (ls : Array Slot), R15 z2 z3 S → wH D ad cs P (wA ad P) s.heap sz S H locs → lv_has ls 4 [(0, .ref (ad 0 0)), (1, .int x1), (2, .int z2), (3, .int z3)] → W p l e R s m args below meth c H locs 0 0 (MQ below (va_Qi K (QX D ad cs P sz) (wA ad P)) args s 0 0 (wA ad P)) (F0 m 15 ls [])) (hw : wbX7_mistake_86 R15 K x1 x2 x3 S) (hh : wH D ad cs P (wA ad P) s.heap sz S H locs) (hl : lv_has ls 4 [(0, .ref (ad 0 0)), (1, .int x1), (2, .int x2), (3, .int x3)]) : W p l e R s m args below meth c H locs 0 0 (MQ below (va_Qi K (QX D ad cs P sz) (wA ad P)) args s 0 0 (wA ad P)) (F0 m 86 ls []) := by
  have hx := E.hx
  have hb := E.hb
  refine lv_iinc (k := 3) (v := x3 + 1) (lv' := [(3, .int (x3 + 1)), (0, .ref (ad 0 0)), (1, .int x1), (2, .int x2)]) hx hb dX7_mistake_86 hl rfl rfl (by decide) rfl (fun ls hl => ?_)
  refine lv_goto (tgt := 15) hx hb dX7_mistake_89 (by decide) ?_
  exact hR15 x2 (x3 + 1) S _ _ _ hw hh (lv_sub hl [1, 2, 3, 0] rfl)
def wbX7_mistake_84 (R15 : Int32 → Int32 → St → Prop) (K : Int32 → St → Prop) (x1 : Int32) (x3 : Int32) (S : St) : Prop := wbX7_mistake_86 R15 K x1 x3 x3 S
set_option maxRecDepth 4000 in
theorem bX7_mistake_84 {p : Program} {l : Launch} {e : Env} {R : Room} {s : State} {m : MethodId} {args : Array Value} {below : List Frame} {meth : Method} {c : Code} {D : va_G} {ad : Nat → Nat → Nat} {cs : Nat → ClassId} {P : Nat → Nat → Prop} {sz tU : Nat} {adK adV : Nat → Nat} {R15 : Int32 → Int32 → St → Prop} {K : Int32 → St → Prop} {x1 : Int32} {x3 : Int32} {S : St} {H : Heap} {locs : List Loc} {ls : Array Slot} (E : Ex p s m args meth c R RX7 cX7_mistake 4 (some .int) 5 152 D ad cs P (wA ad P) tU adK adV cnA) (hR15 : ∀ (z2 : Int32) (z3 : Int32) (S : St) (H : Heap) (locs : List Loc) (ls : Array Slot), R15 z2 z3 S → wH D ad cs P (wA ad P) s.heap sz S H locs → lv_has ls 4 [(0, .ref (ad 0 0)), (1, .int x1), (2, .int z2), (3, .int z3)] → W p l e R s m args below meth c H locs 0 0 (MQ below (va_Qi K (QX D ad cs P sz) (wA ad P)) args s 0 0 (wA ad P)) (F0 m 15 ls [])) (hw : wbX7_mistake_84 R15 K x1 x3 S) (hh : wH D ad cs P (wA ad P) s.heap sz S H locs) (hl : lv_has ls 4 [(0, .ref (ad 0 0)), (1, .int x1), (3, .int x3)]) : W p l e R s m args below meth c H locs 0 0 (MQ below (va_Qi K (QX D ad cs P sz) (wA ad P)) args s 0 0 (wA ad P)) (F0 m 84 ls []) := by
  have hx := E.hx
  have hb := E.hb
  refine lv_iload_n hx hb dX7_mistake_84 rfl (lv_at hl 2 rfl) ?_
  refine lv_istore_n (lv' := [(2, .int x3), (0, .ref (ad 0 0)), (1, .int x1), (3, .int x3)]) hx hb dX7_mistake_85 rfl hl (by decide) rfl (fun ls hl => ?_)
  exact bX7_mistake_86 E hR15 hw hh (lv_sub hl [1, 2, 0, 3] rfl)
def wbX7_mistake_15 (K : Int32 → St → Prop) (x1 : Int32) : Nat → Int32 → Int32 → St → Prop
  | 0, _, _, _ => False
  | n + 1, x2, x3, S => if (S.1 10 0 1) ≤ x3 then (K x2 S) else (wpX5_mayAsk 0 x1 x3 S (fun r4 S4 => if r4 = 0 then (wbX7_mistake_86 (fun yx2 yx3 S9 => wbX7_mistake_15 K x1 n yx2 yx3 S9) K x1 x2 x3 S4) else (wpX5_saysNo 0 x1 x3 S4 (fun r6 S6 => if r6 = 0 then (if x2 = (-1) then (wbX7_mistake_84 (fun yx2 yx3 S9 => wbX7_mistake_15 K x1 n yx2 yx3 S9) K x1 x3 S6) else (wpX5_at x1 x3 S6 (fun r9 S9 => (vp_in r9 16 ∧ wpX5_at x1 x2 S9 (fun r11 S11 => (vp_in r11 16 ∧ if (S11.1 15 0 r11.toNatClampNeg) ≤ (S9.1 15 0 r9.toNatClampNeg) then (wbX7_mistake_86 (fun yx2 yx3 S9 => wbX7_mistake_15 K x1 n yx2 yx3 S9) K x1 x2 x3 S11) else (wbX7_mistake_84 (fun yx2 yx3 S9 => wbX7_mistake_15 K x1 n yx2 yx3 S9) K x1 x3 S11))))))) else (wbX7_mistake_86 (fun yx2 yx3 S9 => wbX7_mistake_15 K x1 n yx2 yx3 S9) K x1 x2 x3 S6)))))
set_option maxRecDepth 4000 in
theorem bX7_mistake_15 {p : Program} {l : Launch} {e : Env} {R : Room} {s : State} {m : MethodId} {args : Array Value} {below : List Frame} {meth : Method} {c : Code} {D : va_G} {ad : Nat → Nat → Nat} {cs : Nat → ClassId} {P : Nat → Nat → Prop} {sz tU : Nat} {adK adV : Nat → Nat} {K : Int32 → St → Prop} {x1 : Int32} (E : Ex p s m args meth c R RX7 cX7_mistake 4 (some .int) 5 152 D ad cs P (wA ad P) tU adK adV cnA) : ∀ (n : Nat) (x2 : Int32) (x3 : Int32) (S : St) (H : Heap) (locs : List Loc) (ls : Array Slot), wbX7_mistake_15 K x1 n x2 x3 S → wH D ad cs P (wA ad P) s.heap sz S H locs → lv_has ls 4 [(0, .ref (ad 0 0)), (1, .int x1), (2, .int x2), (3, .int x3)] → W p l e R s m args below meth c H locs 0 0 (MQ below (va_Qi K (QX D ad cs P sz) (wA ad P)) args s 0 0 (wA ad P)) (F0 m 15 ls []) := by
  have hx := E.hx
  have hb := E.hb
  intro n
  induction n with
  | zero => intro x2 x3 S H locs ls hw hh hl; exact hw.elim
  | succ n ih =>
    intro x2 x3 S H locs ls hw hh hl
    refine lv_iload_n hx hb dX7_mistake_15 rfl (lv_at hl 3 rfl) ?_
    refine lv_aload_n hx hb dX7_mistake_16 rfl (lv_at hl 0 rfl) ?_
    refine g_0_3 E hh tb373 (E.hn 0 0 (by decide)) dX7_mistake_17 ?_
    refine g_10_1 E hh tb313 (E.hn 10 0 (by decide)) dX7_mistake_20 ?_
    refine lv_icmp_ge (tgt := 92) hx hb dX7_mistake_23 (by decide) (fun c3 => ?_) (fun c3 => ?_)
    · have hw := ifT hw c3
      refine lv_iload_n hx hb dX7_mistake_92 rfl (lv_at hl 2 rfl) ?_
      exact x_iret E hh hw dX7_mistake_93
    · have hw := ifF hw c3
      refine lv_aload_n hx hb dX7_mistake_26 rfl (lv_at hl 0 rfl) ?_
      refine g_0_3 E hh tb373 (E.hn 0 0 (by decide)) dX7_mistake_27 ?_
      refine lv_iload_n hx hb dX7_mistake_30 rfl (lv_at hl 1 rfl) ?_
      refine lv_iload_n hx hb dX7_mistake_31 rfl (lv_at hl 3 rfl) ?_
      refine x_ci E.hA hh (x_runV E hh (mX5_mayAsk E.hI E.hn (by decide) hw) kX5_mayAsk tb446 (E.hn 10 0 (by decide)) rv_10 ⟨by decide, by decide⟩ rfl hl.1 rfl (Nat.le_of_ble_eq_true rfl) dX7_mistake_32 ⟨Nat.zero_le _, Nat.zero_le _⟩) (fun r4 S4 H locs hw hh => ?_)
      have hq4 := hw.2
      have hw := hw.1
      refine lv_if_eq (tgt := 86) hx hb dX7_mistake_35 (by decide) (fun c5 => ?_) (fun c5 => ?_)
      · have hw := ifT hw c5
        exact bX7_mistake_86 E ih hw hh (lv_sub hl [0, 1, 2, 3] rfl)
      · have hw := ifF hw c5
        refine lv_aload_n hx hb dX7_mistake_38 rfl (lv_at hl 0 rfl) ?_
        refine g_0_3 E hh tb373 (E.hn 0 0 (by decide)) dX7_mistake_39 ?_
        refine lv_iload_n hx hb dX7_mistake_42 rfl (lv_at hl 1 rfl) ?_
        refine lv_iload_n hx hb dX7_mistake_43 rfl (lv_at hl 3 rfl) ?_
        refine x_ci E.hA hh (x_runV E hh (mX5_saysNo E.hI E.hn (by decide) hw) kX5_saysNo tb457 (E.hn 10 0 (by decide)) rv_10 ⟨by decide, by decide⟩ rfl hl.1 rfl (Nat.le_of_ble_eq_true rfl) dX7_mistake_44 ⟨Nat.zero_le _, Nat.zero_le _⟩) (fun r6 S6 H locs hw hh => ?_)
        have hq6 := hw.2
        have hw := hw.1
        refine lv_if_ne (tgt := 86) hx hb dX7_mistake_47 (by decide) (fun c7 => ?_) (fun c7 => ?_)
        · have hw := ifF hw c7
          exact bX7_mistake_86 E ih hw hh (lv_sub hl [0, 1, 2, 3] rfl)
        · have hw := ifT hw c7
          refine lv_iload_n hx hb dX7_mistake_50 rfl (lv_at hl 2 rfl) ?_
          refine lv_iconst (v := (-1)) hx hb dX7_mistake_51 (by decide) ?_
          refine lv_icmp_eq (tgt := 84) hx hb dX7_mistake_52 (by decide) (fun c8 => ?_) (fun c8 => ?_)
          · have hw := ifT hw c8
            exact bX7_mistake_84 E ih hw hh (lv_sub hl [0, 1, 3] rfl)
          · have hw := ifF hw c8
            refine lv_aload_n hx hb dX7_mistake_55 rfl (lv_at hl 0 rfl) ?_
            refine g_0_3 E hh tb373 (E.hn 0 0 (by decide)) dX7_mistake_56 ?_
            refine g_10_10 E hh tb336 (E.hn 10 0 (by decide)) dX7_mistake_59 ?_
            refine lv_iload_n hx hb dX7_mistake_62 rfl (lv_at hl 1 rfl) ?_
            refine lv_iload_n hx hb dX7_mistake_63 rfl (lv_at hl 3 rfl) ?_
            refine x_ci E.hA hh (x_runS E hh (mX5_at E.hI (fun _ _ h => absurd h (Nat.not_lt_zero _)) hw) kX5_at tb428 ⟨by decide, by decide⟩ rfl hl.1 rfl (Nat.le_of_ble_eq_true rfl) dX7_mistake_64 ⟨Nat.zero_le _, Nat.zero_le _⟩) (fun r9 S9 H locs hw hh => ?_)
            obtain ⟨hi10, hw⟩ := hw
            refine x_iald E hh (E.hn 15 0 (by decide)) ly_15 hi10 dX7_mistake_67 ?_
            refine lv_aload_n hx hb dX7_mistake_68 rfl (lv_at hl 0 rfl) ?_
            refine g_0_3 E hh tb373 (E.hn 0 0 (by decide)) dX7_mistake_69 ?_
            refine g_10_10 E hh tb336 (E.hn 10 0 (by decide)) dX7_mistake_72 ?_
            refine lv_iload_n hx hb dX7_mistake_75 rfl (lv_at hl 1 rfl) ?_
            refine lv_iload_n hx hb dX7_mistake_76 rfl (lv_at hl 2 rfl) ?_
            refine x_ci E.hA hh (x_runS E hh (mX5_at E.hI (fun _ _ h => absurd h (Nat.not_lt_zero _)) hw) kX5_at tb428 ⟨by decide, by decide⟩ rfl hl.1 rfl (Nat.le_of_ble_eq_true rfl) dX7_mistake_77 ⟨Nat.zero_le _, Nat.zero_le _⟩) (fun r11 S11 H locs hw hh => ?_)
            obtain ⟨hi12, hw⟩ := hw
            refine x_iald E hh (E.hn 15 0 (by decide)) ly_15 hi12 dX7_mistake_80 ?_
            refine lv_icmp_ge (tgt := 86) hx hb dX7_mistake_81 (by decide) (fun c13 => ?_) (fun c13 => ?_)
            · have hw := ifT hw c13
              exact bX7_mistake_86 E ih hw hh (lv_sub hl [0, 1, 2, 3] rfl)
            · have hw := ifF hw c13
              exact bX7_mistake_84 E ih hw hh (lv_sub hl [0, 1, 3] rfl)
def wpX7_mistake (x1 : Int32) (S : St) (K : Int32 → St → Prop) : Prop := wpX7_isMan x1 S (fun r1 S1 => if r1 = 0 then (K (-2) S1) else (∃ k, wbX7_mistake_15 K x1 k (-1) 0 S1))
set_option maxRecDepth 4000 in
theorem bX7_mistake {p : Program} {l : Launch} {e : Env} {R : Room} {s : State} {m : MethodId} {args : Array Value} {below : List Frame} {meth : Method} {c : Code} {D : va_G} {ad : Nat → Nat → Nat} {cs : Nat → ClassId} {P : Nat → Nat → Prop} {sz tU : Nat} {adK adV : Nat → Nat} {K : Int32 → St → Prop} {x1 : Int32} {S : St} {H : Heap} {locs : List Loc} {ls : Array Slot} (E : Ex p s m args meth c R RX7 cX7_mistake 4 (some .int) 5 152 D ad cs P (wA ad P) tU adK adV cnA) (hw : wpX7_mistake x1 S K) (hh : wH D ad cs P (wA ad P) s.heap sz S H locs) (hl : lv_has ls 4 [(0, .ref (ad 0 0)), (1, .int x1)]) : W p l e R s m args below meth c H locs 0 0 (MQ below (va_Qi K (QX D ad cs P sz) (wA ad P)) args s 0 0 (wA ad P)) (F0 m 0 ls []) := by
  have hx := E.hx
  have hb := E.hb
  refine lv_aload_n hx hb dX7_mistake_0 rfl (lv_at hl 0 rfl) ?_
  refine lv_iload_n hx hb dX7_mistake_1 rfl (lv_at hl 1 rfl) ?_
  refine x_ci E.hA hh (x_runV E hh (mX7_isMan E.hI E.hn hw) kX7_isMan tb420 (E.hn 0 0 (by decide)) rv_0 ⟨by decide, by decide⟩ rfl hl.1 rfl (Nat.le_of_ble_eq_true rfl) dX7_mistake_2 ⟨Nat.zero_le _, Nat.zero_le _⟩) (fun r1 S1 H locs hw hh => ?_)
  have hq1 := hw.2
  have hw := hw.1
  refine lv_if_ne (tgt := 11) hx hb dX7_mistake_5 (by decide) (fun c2 => ?_) (fun c2 => ?_)
  · have hw := ifF hw c2
    refine lv_iconst (v := (-1)) hx hb dX7_mistake_11 (by decide) ?_
    refine lv_istore_n (lv' := [(2, .int (-1)), (0, .ref (ad 0 0)), (1, .int x1)]) hx hb dX7_mistake_12 rfl hl (by decide) rfl (fun ls hl => ?_)
    refine lv_iconst (v := 0) hx hb dX7_mistake_13 (by decide) ?_
    refine lv_istore_n (lv' := [(3, .int 0), (2, .int (-1)), (0, .ref (ad 0 0)), (1, .int x1)]) hx hb dX7_mistake_14 rfl hl (by decide) rfl (fun ls hl => ?_)
    obtain ⟨k, hw⟩ := hw
    exact bX7_mistake_15 E k (-1) 0 S1 _ _ _ hw hh (lv_sub hl [2, 3, 1, 0] rfl)
  · have hw := ifT hw c2
    refine lv_bipush (v := (-2)) hx hb dX7_mistake_8 (by decide) ?_
    exact x_iret E hh hw dX7_mistake_10
theorem kX7_mistake : kI yX7_mistake cX7_mistake 4 (some .int) 1 := ⟨tb569, tb570, tb1, tb571, by decide, by decide, by decide +kernel⟩
theorem mX7_mistake {l : Launch} {D : va_G} {ad : Nat → Nat → Nat} {cs : Nat → ClassId} {P : Nat → Nat → Prop} {sz tU : Nat} {adK adV : Nat → Nat} {x1 : Int32} {S : St} {K : Int32 → St → Prop} (hI : wI ad P) (hn : ∀ kd i, i < cnA kd → P kd i) (hw : wpX7_mistake x1 S K) : MI l yX7_mistake cX7_mistake 4 (some .int) 5 152 D ad cs P sz tU adK adV [.ref (ad 0 0), .int x1] S K :=
  Met_of (by decide) (Nat.le_of_ble_eq_true rfl) hI hn (fun p e R s m args below meth c ls E hl hh => bX7_mistake E  hw hh (lv_sub hl [0, 1] rfl))
def wbX7_refusesFromNowOn_10 (K : Int32 → St → Prop) (x1 : Int32) (x2 : Int32) : Nat → Int32 → St → Prop
  | 0, _, _ => False
  | n + 1, x3, S => if 9 < x3 then (K 1 S) else ((vp_in x1 4 ∧ ∀ S3, S3 = su S 11 1 x1.toNatClampNeg x3 → wpX5_saysNo 1 x1 x2 S3 (fun r4 S4 => if r4 = 0 then (K 0 S4) else (wbX7_refusesFromNowOn_10 K x1 x2 n (x3 + 1) S4))))
set_option maxRecDepth 4000 in
theorem bX7_refusesFromNowOn_10 {p : Program} {l : Launch} {e : Env} {R : Room} {s : State} {m : MethodId} {args : Array Value} {below : List Frame} {meth : Method} {c : Code} {D : va_G} {ad : Nat → Nat → Nat} {cs : Nat → ClassId} {P : Nat → Nat → Prop} {sz tU : Nat} {adK adV : Nat → Nat} {K : Int32 → St → Prop} {x1 : Int32} {x2 : Int32} (E : Ex p s m args meth c R RX7 cX7_refusesFromNowOn 4 (some .boolean) 5 152 D ad cs P (wA ad P) tU adK adV cnA) : ∀ (n : Nat) (x3 : Int32) (S : St) (H : Heap) (locs : List Loc) (ls : Array Slot), wbX7_refusesFromNowOn_10 K x1 x2 n x3 S → wH D ad cs P (wA ad P) s.heap sz S H locs → lv_has ls 4 [(0, .ref (ad 0 0)), (1, .int x1), (2, .int x2), (3, .int x3)] → W p l e R s m args below meth c H locs 0 0 (MQ below (va_Qi (fun r S => K r S ∧ narrow .boolean (.int r) = .int r) (QX D ad cs P sz) (wA ad P)) args s 0 0 (wA ad P)) (F0 m 10 ls []) := by
  have hx := E.hx
  have hb := E.hb
  intro n
  induction n with
  | zero => intro x3 S H locs ls hw hh hl; exact hw.elim
  | succ n ih =>
    intro x3 S H locs ls hw hh hl
    refine lv_iload_n hx hb dX7_refusesFromNowOn_10 rfl (lv_at hl 3 rfl) ?_
    refine lv_bipush (v := 9) hx hb dX7_refusesFromNowOn_11 (by decide) ?_
    refine lv_icmp_gt (tgt := 46) hx hb dX7_refusesFromNowOn_13 (by decide) (fun c2 => ?_) (fun c2 => ?_)
    · have hw := ifT hw c2
      refine lv_iconst (v := 1) hx hb dX7_refusesFromNowOn_46 (by decide) ?_
      exact x_zret E hh hw rfl dX7_refusesFromNowOn_47
    · have hw := ifF hw c2
      refine lv_aload_n hx hb dX7_refusesFromNowOn_16 rfl (lv_at hl 0 rfl) ?_
      refine g_0_4 E hh tb374 (E.hn 0 0 (by decide)) dX7_refusesFromNowOn_17 ?_
      refine g_10_6 E hh tb327 (E.hn 10 1 (by decide)) dX7_refusesFromNowOn_20 ?_
      refine lv_iload_n hx hb dX7_refusesFromNowOn_23 rfl (lv_at hl 1 rfl) ?_
      refine lv_iload_n hx hb dX7_refusesFromNowOn_24 rfl (lv_at hl 3 rfl) ?_
      obtain ⟨hi3, hw⟩ := hw
      refine x_iast E hh (E.hn 11 1 (by decide)) ly_11 hi3 dX7_refusesFromNowOn_25 (fun S3 H locs e3 hh => ?_)
      have hw := hw S3 e3
      refine lv_aload_n hx hb dX7_refusesFromNowOn_26 rfl (lv_at hl 0 rfl) ?_
      refine g_0_4 E hh tb374 (E.hn 0 0 (by decide)) dX7_refusesFromNowOn_27 ?_
      refine lv_iload_n hx hb dX7_refusesFromNowOn_30 rfl (lv_at hl 1 rfl) ?_
      refine lv_iload_n hx hb dX7_refusesFromNowOn_31 rfl (lv_at hl 2 rfl) ?_
      refine x_ci E.hA hh (x_runV E hh (mX5_saysNo E.hI E.hn (by decide) hw) kX5_saysNo tb457 (E.hn 10 1 (by decide)) rv_10 ⟨by decide, by decide⟩ rfl hl.1 rfl (Nat.le_of_ble_eq_true rfl) dX7_refusesFromNowOn_32 ⟨Nat.zero_le _, Nat.zero_le _⟩) (fun r4 S4 H locs hw hh => ?_)
      have hq4 := hw.2
      have hw := hw.1
      refine lv_if_ne (tgt := 40) hx hb dX7_refusesFromNowOn_35 (by decide) (fun c5 => ?_) (fun c5 => ?_)
      · have hw := ifF hw c5
        refine lv_iinc (k := 3) (v := x3 + 1) (lv' := [(3, .int (x3 + 1)), (0, .ref (ad 0 0)), (1, .int x1), (2, .int x2)]) hx hb dX7_refusesFromNowOn_40 hl rfl rfl (by decide) rfl (fun ls hl => ?_)
        refine lv_goto (tgt := 10) hx hb dX7_refusesFromNowOn_43 (by decide) ?_
        exact ih (x3 + 1) S4 _ _ _ hw hh (lv_sub hl [1, 2, 3, 0] rfl)
      · have hw := ifT hw c5
        refine lv_iconst (v := 0) hx hb dX7_refusesFromNowOn_38 (by decide) ?_
        exact x_zret E hh hw rfl dX7_refusesFromNowOn_39
def wpX7_refusesFromNowOn (x1 : Int32) (x2 : Int32) (S : St) (K : Int32 → St → Prop) : Prop := (vp_in x1 4 ∧ ∃ k, wbX7_refusesFromNowOn_10 K x1 x2 k (S.1 11 0 x1.toNatClampNeg) S)
set_option maxRecDepth 4000 in
theorem bX7_refusesFromNowOn {p : Program} {l : Launch} {e : Env} {R : Room} {s : State} {m : MethodId} {args : Array Value} {below : List Frame} {meth : Method} {c : Code} {D : va_G} {ad : Nat → Nat → Nat} {cs : Nat → ClassId} {P : Nat → Nat → Prop} {sz tU : Nat} {adK adV : Nat → Nat} {K : Int32 → St → Prop} {x1 : Int32} {x2 : Int32} {S : St} {H : Heap} {locs : List Loc} {ls : Array Slot} (E : Ex p s m args meth c R RX7 cX7_refusesFromNowOn 4 (some .boolean) 5 152 D ad cs P (wA ad P) tU adK adV cnA) (hw : wpX7_refusesFromNowOn x1 x2 S K) (hh : wH D ad cs P (wA ad P) s.heap sz S H locs) (hl : lv_has ls 4 [(0, .ref (ad 0 0)), (1, .int x1), (2, .int x2)]) : W p l e R s m args below meth c H locs 0 0 (MQ below (va_Qi (fun r S => K r S ∧ narrow .boolean (.int r) = .int r) (QX D ad cs P sz) (wA ad P)) args s 0 0 (wA ad P)) (F0 m 0 ls []) := by
  have hx := E.hx
  have hb := E.hb
  refine lv_aload_n hx hb dX7_refusesFromNowOn_0 rfl (lv_at hl 0 rfl) ?_
  refine g_0_3 E hh tb373 (E.hn 0 0 (by decide)) dX7_refusesFromNowOn_1 ?_
  refine g_10_6 E hh tb327 (E.hn 10 0 (by decide)) dX7_refusesFromNowOn_4 ?_
  refine lv_iload_n hx hb dX7_refusesFromNowOn_7 rfl (lv_at hl 1 rfl) ?_
  obtain ⟨hi1, hw⟩ := hw
  refine x_iald E hh (E.hn 11 0 (by decide)) ly_11 hi1 dX7_refusesFromNowOn_8 ?_
  refine lv_istore_n (lv' := [(3, .int (S.1 11 0 x1.toNatClampNeg)), (0, .ref (ad 0 0)), (1, .int x1), (2, .int x2)]) hx hb dX7_refusesFromNowOn_9 rfl hl (by decide) rfl (fun ls hl => ?_)
  obtain ⟨k, hw⟩ := hw
  exact bX7_refusesFromNowOn_10 E k (S.1 11 0 x1.toNatClampNeg) S _ _ _ hw hh (lv_sub hl [1, 2, 3, 0] rfl)
theorem kX7_refusesFromNowOn : kI yX7_refusesFromNowOn cX7_refusesFromNowOn 4 (some .boolean) 2 := ⟨tb578, ts20, tb1, tb579, by decide, by decide, by decide +kernel⟩
theorem mX7_refusesFromNowOn {l : Launch} {D : va_G} {ad : Nat → Nat → Nat} {cs : Nat → ClassId} {P : Nat → Nat → Prop} {sz tU : Nat} {adK adV : Nat → Nat} {x1 : Int32} {x2 : Int32} {S : St} {K : Int32 → St → Prop} (hI : wI ad P) (hn : ∀ kd i, i < cnA kd → P kd i) (hw : wpX7_refusesFromNowOn x1 x2 S K) : MI l yX7_refusesFromNowOn cX7_refusesFromNowOn 4 (some .boolean) 5 152 D ad cs P sz tU adK adV [.ref (ad 0 0), .int x1, .int x2] S (fun r S => K r S ∧ narrow .boolean (.int r) = .int r) :=
  Met_of (by decide) (Nat.le_of_ble_eq_true rfl) hI hn (fun p e R s m args below meth c ls E hl hh => bX7_refusesFromNowOn E  hw hh (lv_sub hl [0, 1, 2] rfl))
def wbX7_sure_64 (R26 : Int32 → Int32 → St → Prop) (K : Int32 → St → Prop) (x1 : Int32) (x2 : Int32) (x3 : Int32) (S : St) : Prop := R26 x2 (x3 + 1) S
set_option maxRecDepth 4000 in
theorem bX7_sure_64 {p : Program} {l : Launch} {e : Env} {R : Room} {s : State} {m : MethodId} {args : Array Value} {below : List Frame} {meth : Method} {c : Code} {D : va_G} {ad : Nat → Nat → Nat} {cs : Nat → ClassId} {P : Nat → Nat → Prop} {sz tU : Nat} {adK adV : Nat → Nat} {R26 : Int32 → Int32 → St → Prop} {K : Int32 → St → Prop} {x1 : Int32} {x2 : Int32} {x3 : Int32} {S : St} {H : Heap} {locs : List Loc} {ls : Array Slot} (E : Ex p s m args meth c R RX7 cX7_sure 4 (some .int) 6 175 D ad cs P (wA ad P) tU adK adV cnA) (hR26 : ∀ (z2 : Int32) (z3 : Int32) (S : St) (H : Heap) (locs : List Loc) (ls : Array Slot), R26 z2 z3 S → wH D ad cs P (wA ad P) s.heap sz S H locs → lv_has ls 4 [(0, .ref (ad 0 0)), (1, .int x1), (2, .int z2), (3, .int z3)] → W p l e R s m args below meth c H locs 0 0 (MQ below (va_Qi K (QX D ad cs P sz) (wA ad P)) args s 0 0 (wA ad P)) (F0 m 26 ls [])) (hw : wbX7_sure_64 R26 K x1 x2 x3 S) (hh : wH D ad cs P (wA ad P) s.heap sz S H locs) (hl : lv_has ls 4 [(0, .ref (ad 0 0)), (1, .int x1), (2, .int x2), (3, .int x3)]) : W p l e R s m args below meth c H locs 0 0 (MQ below (va_Qi K (QX D ad cs P sz) (wA ad P)) args s 0 0 (wA ad P)) (F0 m 64 ls []) := by
  have hx := E.hx
  have hb := E.hb
  refine lv_iinc (k := 3) (v := x3 + 1) (lv' := [(3, .int (x3 + 1)), (0, .ref (ad 0 0)), (1, .int x1), (2, .int x2)]) hx hb dX7_sure_64 hl rfl rfl (by decide) rfl (fun ls hl => ?_)
  refine lv_goto (tgt := 26) hx hb dX7_sure_67 (by decide) ?_
  exact hR26 x2 (x3 + 1) S _ _ _ hw hh (lv_sub hl [1, 2, 3, 0] rfl)
def wbX7_sure_26 (K : Int32 → St → Prop) (x1 : Int32) : Nat → Int32 → Int32 → St → Prop
  | 0, _, _, _ => False
  | n + 1, x2, x3, S => if (S.1 10 0 1) ≤ x3 then (K x2 S) else (wpX5_mayAsk 0 x1 x3 S (fun r5 S5 => if r5 = 0 then (wbX7_sure_64 (fun yx2 yx3 S9 => wbX7_sure_26 K x1 n yx2 yx3 S9) K x1 x2 x3 S5) else (wpX7_refusesFromNowOn x1 x3 S5 (fun r7 S7 => if r7 = 0 then (wbX7_sure_64 (fun yx2 yx3 S9 => wbX7_sure_26 K x1 n yx2 yx3 S9) K x1 x2 x3 S7) else (wbX7_sure_64 (fun yx2 yx3 S9 => wbX7_sure_26 K x1 n yx2 yx3 S9) K x1 (x2 ||| (1 <<< (x3 &&& 31))) x3 S7)))))
set_option maxRecDepth 4000 in
theorem bX7_sure_26 {p : Program} {l : Launch} {e : Env} {R : Room} {s : State} {m : MethodId} {args : Array Value} {below : List Frame} {meth : Method} {c : Code} {D : va_G} {ad : Nat → Nat → Nat} {cs : Nat → ClassId} {P : Nat → Nat → Prop} {sz tU : Nat} {adK adV : Nat → Nat} {K : Int32 → St → Prop} {x1 : Int32} (E : Ex p s m args meth c R RX7 cX7_sure 4 (some .int) 6 175 D ad cs P (wA ad P) tU adK adV cnA) : ∀ (n : Nat) (x2 : Int32) (x3 : Int32) (S : St) (H : Heap) (locs : List Loc) (ls : Array Slot), wbX7_sure_26 K x1 n x2 x3 S → wH D ad cs P (wA ad P) s.heap sz S H locs → lv_has ls 4 [(0, .ref (ad 0 0)), (1, .int x1), (2, .int x2), (3, .int x3)] → W p l e R s m args below meth c H locs 0 0 (MQ below (va_Qi K (QX D ad cs P sz) (wA ad P)) args s 0 0 (wA ad P)) (F0 m 26 ls []) := by
  have hx := E.hx
  have hb := E.hb
  intro n
  induction n with
  | zero => intro x2 x3 S H locs ls hw hh hl; exact hw.elim
  | succ n ih =>
    intro x2 x3 S H locs ls hw hh hl
    refine lv_iload_n hx hb dX7_sure_26 rfl (lv_at hl 3 rfl) ?_
    refine lv_aload_n hx hb dX7_sure_27 rfl (lv_at hl 0 rfl) ?_
    refine g_0_3 E hh tb373 (E.hn 0 0 (by decide)) dX7_sure_28 ?_
    refine g_10_1 E hh tb313 (E.hn 10 0 (by decide)) dX7_sure_31 ?_
    refine lv_icmp_ge (tgt := 70) hx hb dX7_sure_34 (by decide) (fun c4 => ?_) (fun c4 => ?_)
    · have hw := ifT hw c4
      refine lv_iload_n hx hb dX7_sure_70 rfl (lv_at hl 2 rfl) ?_
      exact x_iret E hh hw dX7_sure_71
    · have hw := ifF hw c4
      refine lv_aload_n hx hb dX7_sure_37 rfl (lv_at hl 0 rfl) ?_
      refine g_0_3 E hh tb373 (E.hn 0 0 (by decide)) dX7_sure_38 ?_
      refine lv_iload_n hx hb dX7_sure_41 rfl (lv_at hl 1 rfl) ?_
      refine lv_iload_n hx hb dX7_sure_42 rfl (lv_at hl 3 rfl) ?_
      refine x_ci E.hA hh (x_runV E hh (mX5_mayAsk E.hI E.hn (by decide) hw) kX5_mayAsk tb446 (E.hn 10 0 (by decide)) rv_10 ⟨by decide, by decide⟩ rfl hl.1 rfl (Nat.le_of_ble_eq_true rfl) dX7_sure_43 ⟨Nat.zero_le _, Nat.zero_le _⟩) (fun r5 S5 H locs hw hh => ?_)
      have hq5 := hw.2
      have hw := hw.1
      refine lv_if_eq (tgt := 64) hx hb dX7_sure_46 (by decide) (fun c6 => ?_) (fun c6 => ?_)
      · have hw := ifT hw c6
        exact bX7_sure_64 E ih hw hh (lv_sub hl [0, 1, 2, 3] rfl)
      · have hw := ifF hw c6
        refine lv_aload_n hx hb dX7_sure_49 rfl (lv_at hl 0 rfl) ?_
        refine lv_iload_n hx hb dX7_sure_50 rfl (lv_at hl 1 rfl) ?_
        refine lv_iload_n hx hb dX7_sure_51 rfl (lv_at hl 3 rfl) ?_
        refine x_ci E.hA hh (x_runV E hh (mX7_refusesFromNowOn E.hI E.hn hw) kX7_refusesFromNowOn tb576 (E.hn 0 0 (by decide)) rv_0 ⟨by decide, by decide⟩ rfl hl.1 rfl (Nat.le_of_ble_eq_true rfl) dX7_sure_52 ⟨Nat.zero_le _, Nat.zero_le _⟩) (fun r7 S7 H locs hw hh => ?_)
        have hq7 := hw.2
        have hw := hw.1
        refine lv_if_eq (tgt := 64) hx hb dX7_sure_55 (by decide) (fun c8 => ?_) (fun c8 => ?_)
        · have hw := ifT hw c8
          exact bX7_sure_64 E ih hw hh (lv_sub hl [0, 1, 2, 3] rfl)
        · have hw := ifF hw c8
          refine lv_iload_n hx hb dX7_sure_58 rfl (lv_at hl 2 rfl) ?_
          refine lv_iconst (v := 1) hx hb dX7_sure_59 (by decide) ?_
          refine lv_iload_n hx hb dX7_sure_60 rfl (lv_at hl 3 rfl) ?_
          refine lv_ishl hx hb dX7_sure_61 ?_
          refine lv_ior hx hb dX7_sure_62 ?_
          refine lv_istore_n (lv' := [(2, .int (x2 ||| (1 <<< (x3 &&& 31)))), (0, .ref (ad 0 0)), (1, .int x1), (3, .int x3)]) hx hb dX7_sure_63 rfl hl (by decide) rfl (fun ls hl => ?_)
          exact bX7_sure_64 E ih hw hh (lv_sub hl [1, 2, 0, 3] rfl)
def wpX7_sure (x1 : Int32) (S : St) (K : Int32 → St → Prop) : Prop := wpX7_isMan x1 S (fun r1 S1 => if r1 = 0 then (K (-2) S1) else (wpX5_resemble 1 0 S1 (fun S3 => ∃ k, wbX7_sure_26 K x1 k 0 0 S3)))
set_option maxRecDepth 4000 in
theorem bX7_sure {p : Program} {l : Launch} {e : Env} {R : Room} {s : State} {m : MethodId} {args : Array Value} {below : List Frame} {meth : Method} {c : Code} {D : va_G} {ad : Nat → Nat → Nat} {cs : Nat → ClassId} {P : Nat → Nat → Prop} {sz tU : Nat} {adK adV : Nat → Nat} {K : Int32 → St → Prop} {x1 : Int32} {S : St} {H : Heap} {locs : List Loc} {ls : Array Slot} (E : Ex p s m args meth c R RX7 cX7_sure 4 (some .int) 6 175 D ad cs P (wA ad P) tU adK adV cnA) (hw : wpX7_sure x1 S K) (hh : wH D ad cs P (wA ad P) s.heap sz S H locs) (hl : lv_has ls 4 [(0, .ref (ad 0 0)), (1, .int x1)]) : W p l e R s m args below meth c H locs 0 0 (MQ below (va_Qi K (QX D ad cs P sz) (wA ad P)) args s 0 0 (wA ad P)) (F0 m 0 ls []) := by
  have hx := E.hx
  have hb := E.hb
  refine lv_aload_n hx hb dX7_sure_0 rfl (lv_at hl 0 rfl) ?_
  refine lv_iload_n hx hb dX7_sure_1 rfl (lv_at hl 1 rfl) ?_
  refine x_ci E.hA hh (x_runV E hh (mX7_isMan E.hI E.hn hw) kX7_isMan tb420 (E.hn 0 0 (by decide)) rv_0 ⟨by decide, by decide⟩ rfl hl.1 rfl (Nat.le_of_ble_eq_true rfl) dX7_sure_2 ⟨Nat.zero_le _, Nat.zero_le _⟩) (fun r1 S1 H locs hw hh => ?_)
  have hq1 := hw.2
  have hw := hw.1
  refine lv_if_ne (tgt := 11) hx hb dX7_sure_5 (by decide) (fun c2 => ?_) (fun c2 => ?_)
  · have hw := ifF hw c2
    refine lv_aload_n hx hb dX7_sure_11 rfl (lv_at hl 0 rfl) ?_
    refine g_0_4 E hh tb374 (E.hn 0 0 (by decide)) dX7_sure_12 ?_
    refine lv_aload_n hx hb dX7_sure_15 rfl (lv_at hl 0 rfl) ?_
    refine g_0_3 E hh tb373 (E.hn 0 0 (by decide)) dX7_sure_16 ?_
    refine x_cv E.hA hh (x_runV E hh (mX5_resemble E.hI E.hn (by decide) (by decide) hw) kX5_resemble tb543 (E.hn 10 1 (by decide)) rv_10 ⟨by decide, by decide⟩ rfl hl.1 rfl (Nat.le_of_ble_eq_true rfl) dX7_sure_19 ⟨Nat.zero_le _, Nat.zero_le _⟩) (fun S3 H locs hw hh => ?_)
    refine lv_iconst (v := 0) hx hb dX7_sure_22 (by decide) ?_
    refine lv_istore_n (lv' := [(2, .int 0), (0, .ref (ad 0 0)), (1, .int x1)]) hx hb dX7_sure_23 rfl hl (by decide) rfl (fun ls hl => ?_)
    refine lv_iconst (v := 0) hx hb dX7_sure_24 (by decide) ?_
    refine lv_istore_n (lv' := [(3, .int 0), (2, .int 0), (0, .ref (ad 0 0)), (1, .int x1)]) hx hb dX7_sure_25 rfl hl (by decide) rfl (fun ls hl => ?_)
    obtain ⟨k, hw⟩ := hw
    exact bX7_sure_26 E k 0 0 S3 _ _ _ hw hh (lv_sub hl [2, 3, 1, 0] rfl)
  · have hw := ifT hw c2
    refine lv_bipush (v := (-2)) hx hb dX7_sure_8 (by decide) ?_
    exact x_iret E hh hw dX7_sure_10
theorem kX7_sure : kI yX7_sure cX7_sure 4 (some .int) 1 := ⟨tb573, tb574, tb1, tb575, by decide, by decide, by decide +kernel⟩
theorem mX7_sure {l : Launch} {D : va_G} {ad : Nat → Nat → Nat} {cs : Nat → ClassId} {P : Nat → Nat → Prop} {sz tU : Nat} {adK adV : Nat → Nat} {x1 : Int32} {S : St} {K : Int32 → St → Prop} (hI : wI ad P) (hn : ∀ kd i, i < cnA kd → P kd i) (hw : wpX7_sure x1 S K) : MI l yX7_sure cX7_sure 4 (some .int) 6 175 D ad cs P sz tU adK adV [.ref (ad 0 0), .int x1] S K :=
  Met_of (by decide) (Nat.le_of_ble_eq_true rfl) hI hn (fun p e R s m args below meth c ls E hl hh => bX7_sure E  hw hh (lv_sub hl [0, 1] rfl))
def wpX7_pairings (x1 : Int32) (S : St) (K : Int32 → St → Prop) : Prop := wpX7_within x1 0 1 S (fun r1 S1 => if r1 = 0 then (K (-2) S1) else (wpX1_tryAll 0 S1 (fun S3 => (vp_in x1 2 ∧ K (S3.1 19 0 x1.toNatClampNeg) S3))))
set_option maxRecDepth 4000 in
theorem bX7_pairings {p : Program} {l : Launch} {e : Env} {R : Room} {s : State} {m : MethodId} {args : Array Value} {below : List Frame} {meth : Method} {c : Code} {D : va_G} {ad : Nat → Nat → Nat} {cs : Nat → ClassId} {P : Nat → Nat → Prop} {sz tU : Nat} {adK adV : Nat → Nat} {K : Int32 → St → Prop} {x1 : Int32} {S : St} {H : Heap} {locs : List Loc} {ls : Array Slot} (E : Ex p s m args meth c R RX7 cX7_pairings 2 (some .int) 13 354 D ad cs P (wA ad P) tU adK adV cnA) (hw : wpX7_pairings x1 S K) (hh : wH D ad cs P (wA ad P) s.heap sz S H locs) (hl : lv_has ls 2 [(0, .ref (ad 0 0)), (1, .int x1)]) : W p l e R s m args below meth c H locs 0 0 (MQ below (va_Qi K (QX D ad cs P sz) (wA ad P)) args s 0 0 (wA ad P)) (F0 m 0 ls []) := by
  have hx := E.hx
  have hb := E.hb
  refine lv_iload_n hx hb dX7_pairings_0 rfl (lv_at hl 1 rfl) ?_
  refine lv_iconst (v := 0) hx hb dX7_pairings_1 (by decide) ?_
  refine lv_iconst (v := 1) hx hb dX7_pairings_2 (by decide) ?_
  refine x_ci E.hA hh (x_runS E hh (mX7_within E.hI (fun _ _ h => absurd h (Nat.not_lt_zero _)) hw) kX7_within tb405 ⟨by decide, by decide⟩ rfl hl.1 rfl (Nat.le_of_ble_eq_true rfl) dX7_pairings_3 ⟨Nat.zero_le _, Nat.zero_le _⟩) (fun r1 S1 H locs hw hh => ?_)
  have hq1 := hw.2
  have hw := hw.1
  refine lv_if_ne (tgt := 12) hx hb dX7_pairings_6 (by decide) (fun c2 => ?_) (fun c2 => ?_)
  · have hw := ifF hw c2
    refine lv_aload_n hx hb dX7_pairings_12 rfl (lv_at hl 0 rfl) ?_
    refine g_0_7 E hh tb377 (E.hn 0 0 (by decide)) dX7_pairings_13 ?_
    refine lv_aload_n hx hb dX7_pairings_16 rfl (lv_at hl 0 rfl) ?_
    refine g_0_3 E hh tb373 (E.hn 0 0 (by decide)) dX7_pairings_17 ?_
    refine x_cv E.hA hh (x_runV E hh (mX1_tryAll E.hI E.hn (by decide) hw) kX1_tryAll tb584 (E.hn 18 0 (by decide)) rv_18 ⟨by decide, by decide⟩ rfl hl.1 rfl (Nat.le_of_ble_eq_true rfl) dX7_pairings_20 ⟨Nat.zero_le _, Nat.zero_le _⟩) (fun S3 H locs hw hh => ?_)
    refine lv_aload_n hx hb dX7_pairings_23 rfl (lv_at hl 0 rfl) ?_
    refine g_0_7 E hh tb377 (E.hn 0 0 (by decide)) dX7_pairings_24 ?_
    refine g_18_0 E hh tb75 (E.hn 18 0 (by decide)) dX7_pairings_27 ?_
    refine lv_iload_n hx hb dX7_pairings_30 rfl (lv_at hl 1 rfl) ?_
    obtain ⟨hi4, hw⟩ := hw
    refine x_iald E hh (E.hn 19 0 (by decide)) ly_19 hi4 dX7_pairings_31 ?_
    exact x_iret E hh hw dX7_pairings_32
  · have hw := ifT hw c2
    refine lv_bipush (v := (-2)) hx hb dX7_pairings_9 (by decide) ?_
    exact x_iret E hh hw dX7_pairings_11
theorem kX7_pairings : kI yX7_pairings cX7_pairings 2 (some .int) 1 := ⟨tb581, tb582, tb1, tb583, by decide, by decide, by decide +kernel⟩
theorem mX7_pairings {l : Launch} {D : va_G} {ad : Nat → Nat → Nat} {cs : Nat → ClassId} {P : Nat → Nat → Prop} {sz tU : Nat} {adK adV : Nat → Nat} {x1 : Int32} {S : St} {K : Int32 → St → Prop} (hI : wI ad P) (hn : ∀ kd i, i < cnA kd → P kd i) (hw : wpX7_pairings x1 S K) : MI l yX7_pairings cX7_pairings 2 (some .int) 13 354 D ad cs P sz tU adK adV [.ref (ad 0 0), .int x1] S K :=
  Met_of (by decide) (Nat.le_of_ble_eq_true rfl) hI hn (fun p e R s m args below meth c ls E hl hh => bX7_pairings E  hw hh (lv_sub hl [0, 1] rfl))
def wbX7_best_25 (K : Int32 → St → Prop) (x1 : Int32) (x2 : Int32) (S : St) : Prop := wpX1_tryAll 0 S (fun S6 => (vp_in x1 2 ∧ if (S6.1 19 0 x1.toNatClampNeg) = 0 then (K (-3) S6) else (if x2 = (-1) then ((vp_in x1 2 ∧ K (S6.1 20 0 x1.toNatClampNeg) S6)) else (wpX1_bestMaid x1 x2 S6 (fun r10 S10 => K r10 S10)))))
set_option maxRecDepth 4000 in
theorem bX7_best_25 {p : Program} {l : Launch} {e : Env} {R : Room} {s : State} {m : MethodId} {args : Array Value} {below : List Frame} {meth : Method} {c : Code} {D : va_G} {ad : Nat → Nat → Nat} {cs : Nat → ClassId} {P : Nat → Nat → Prop} {sz tU : Nat} {adK adV : Nat → Nat} {K : Int32 → St → Prop} {x1 : Int32} {x2 : Int32} {S : St} {H : Heap} {locs : List Loc} {ls : Array Slot} (E : Ex p s m args meth c R RX7 cX7_best 3 (some .int) 13 354 D ad cs P (wA ad P) tU adK adV cnA) (hw : wbX7_best_25 K x1 x2 S) (hh : wH D ad cs P (wA ad P) s.heap sz S H locs) (hl : lv_has ls 3 [(0, .ref (ad 0 0)), (1, .int x1), (2, .int x2)]) : W p l e R s m args below meth c H locs 0 0 (MQ below (va_Qi K (QX D ad cs P sz) (wA ad P)) args s 0 0 (wA ad P)) (F0 m 25 ls []) := by
  have hx := E.hx
  have hb := E.hb
  refine lv_aload_n hx hb dX7_best_25 rfl (lv_at hl 0 rfl) ?_
  refine g_0_7 E hh tb377 (E.hn 0 0 (by decide)) dX7_best_26 ?_
  refine lv_aload_n hx hb dX7_best_29 rfl (lv_at hl 0 rfl) ?_
  refine g_0_3 E hh tb373 (E.hn 0 0 (by decide)) dX7_best_30 ?_
  refine x_cv E.hA hh (x_runV E hh (mX1_tryAll E.hI E.hn (by decide) hw) kX1_tryAll tb584 (E.hn 18 0 (by decide)) rv_18 ⟨by decide, by decide⟩ rfl hl.1 rfl (Nat.le_of_ble_eq_true rfl) dX7_best_33 ⟨Nat.zero_le _, Nat.zero_le _⟩) (fun S6 H locs hw hh => ?_)
  refine lv_aload_n hx hb dX7_best_36 rfl (lv_at hl 0 rfl) ?_
  refine g_0_7 E hh tb377 (E.hn 0 0 (by decide)) dX7_best_37 ?_
  refine g_18_0 E hh tb75 (E.hn 18 0 (by decide)) dX7_best_40 ?_
  refine lv_iload_n hx hb dX7_best_43 rfl (lv_at hl 1 rfl) ?_
  obtain ⟨hi7, hw⟩ := hw
  refine x_iald E hh (E.hn 19 0 (by decide)) ly_19 hi7 dX7_best_44 ?_
  refine lv_if_ne (tgt := 51) hx hb dX7_best_45 (by decide) (fun c8 => ?_) (fun c8 => ?_)
  · have hw := ifF hw c8
    refine lv_iload_n hx hb dX7_best_51 rfl (lv_at hl 2 rfl) ?_
    refine lv_iconst (v := (-1)) hx hb dX7_best_52 (by decide) ?_
    refine lv_icmp_ne (tgt := 68) hx hb dX7_best_53 (by decide) (fun c9 => ?_) (fun c9 => ?_)
    · have hw := ifF hw c9
      refine lv_aload_n hx hb dX7_best_68 rfl (lv_at hl 0 rfl) ?_
      refine g_0_7 E hh tb377 (E.hn 0 0 (by decide)) dX7_best_69 ?_
      refine lv_iload_n hx hb dX7_best_72 rfl (lv_at hl 1 rfl) ?_
      refine lv_iload_n hx hb dX7_best_73 rfl (lv_at hl 2 rfl) ?_
      refine x_ci E.hA hh (x_runV E hh (mX1_bestMaid E.hI E.hn hw) kX1_bestMaid tb613 (E.hn 18 0 (by decide)) rv_18 ⟨by decide, by decide⟩ rfl hl.1 rfl (Nat.le_of_ble_eq_true rfl) dX7_best_74 ⟨Nat.zero_le _, Nat.zero_le _⟩) (fun r10 S10 H locs hw hh => ?_)
      exact x_iret E hh hw dX7_best_77
    · have hw := ifT hw c9
      refine lv_aload_n hx hb dX7_best_56 rfl (lv_at hl 0 rfl) ?_
      refine g_0_7 E hh tb377 (E.hn 0 0 (by decide)) dX7_best_57 ?_
      refine g_18_1 E hh tb77 (E.hn 18 0 (by decide)) dX7_best_60 ?_
      refine lv_iload_n hx hb dX7_best_63 rfl (lv_at hl 1 rfl) ?_
      obtain ⟨hi11, hw⟩ := hw
      refine x_iald E hh (E.hn 20 0 (by decide)) ly_20 hi11 dX7_best_64 ?_
      refine lv_goto (tgt := 77) hx hb dX7_best_65 (by decide) ?_
      exact x_iret E hh hw dX7_best_77
  · have hw := ifT hw c8
    refine lv_bipush (v := (-3)) hx hb dX7_best_48 (by decide) ?_
    exact x_iret E hh hw dX7_best_50
def wpX7_best (x1 : Int32) (x2 : Int32) (S : St) (K : Int32 → St → Prop) : Prop := wpX7_within x1 0 1 S (fun r1 S1 => if r1 = 0 then (K (-2) S1) else (if x2 = (-1) then (wbX7_best_25 K x1 x2 S1) else (wpX7_isMan x2 S1 (fun r4 S4 => if r4 = 0 then (K (-2) S4) else (wbX7_best_25 K x1 x2 S4)))))
set_option maxRecDepth 4000 in
theorem bX7_best {p : Program} {l : Launch} {e : Env} {R : Room} {s : State} {m : MethodId} {args : Array Value} {below : List Frame} {meth : Method} {c : Code} {D : va_G} {ad : Nat → Nat → Nat} {cs : Nat → ClassId} {P : Nat → Nat → Prop} {sz tU : Nat} {adK adV : Nat → Nat} {K : Int32 → St → Prop} {x1 : Int32} {x2 : Int32} {S : St} {H : Heap} {locs : List Loc} {ls : Array Slot} (E : Ex p s m args meth c R RX7 cX7_best 3 (some .int) 13 354 D ad cs P (wA ad P) tU adK adV cnA) (hw : wpX7_best x1 x2 S K) (hh : wH D ad cs P (wA ad P) s.heap sz S H locs) (hl : lv_has ls 3 [(0, .ref (ad 0 0)), (1, .int x1), (2, .int x2)]) : W p l e R s m args below meth c H locs 0 0 (MQ below (va_Qi K (QX D ad cs P sz) (wA ad P)) args s 0 0 (wA ad P)) (F0 m 0 ls []) := by
  have hx := E.hx
  have hb := E.hb
  refine lv_iload_n hx hb dX7_best_0 rfl (lv_at hl 1 rfl) ?_
  refine lv_iconst (v := 0) hx hb dX7_best_1 (by decide) ?_
  refine lv_iconst (v := 1) hx hb dX7_best_2 (by decide) ?_
  refine x_ci E.hA hh (x_runS E hh (mX7_within E.hI (fun _ _ h => absurd h (Nat.not_lt_zero _)) hw) kX7_within tb405 ⟨by decide, by decide⟩ rfl hl.1 rfl (Nat.le_of_ble_eq_true rfl) dX7_best_3 ⟨Nat.zero_le _, Nat.zero_le _⟩) (fun r1 S1 H locs hw hh => ?_)
  have hq1 := hw.2
  have hw := hw.1
  refine lv_if_eq (tgt := 22) hx hb dX7_best_6 (by decide) (fun c2 => ?_) (fun c2 => ?_)
  · have hw := ifT hw c2
    refine lv_bipush (v := (-2)) hx hb dX7_best_22 (by decide) ?_
    exact x_iret E hh hw dX7_best_24
  · have hw := ifF hw c2
    refine lv_iload_n hx hb dX7_best_9 rfl (lv_at hl 2 rfl) ?_
    refine lv_iconst (v := (-1)) hx hb dX7_best_10 (by decide) ?_
    refine lv_icmp_eq (tgt := 25) hx hb dX7_best_11 (by decide) (fun c3 => ?_) (fun c3 => ?_)
    · have hw := ifT hw c3
      exact bX7_best_25 E hw hh (lv_sub hl [0, 1, 2] rfl)
    · have hw := ifF hw c3
      refine lv_aload_n hx hb dX7_best_14 rfl (lv_at hl 0 rfl) ?_
      refine lv_iload_n hx hb dX7_best_15 rfl (lv_at hl 2 rfl) ?_
      refine x_ci E.hA hh (x_runV E hh (mX7_isMan E.hI E.hn hw) kX7_isMan tb420 (E.hn 0 0 (by decide)) rv_0 ⟨by decide, by decide⟩ rfl hl.1 rfl (Nat.le_of_ble_eq_true rfl) dX7_best_16 ⟨Nat.zero_le _, Nat.zero_le _⟩) (fun r4 S4 H locs hw hh => ?_)
      have hq4 := hw.2
      have hw := hw.1
      refine lv_if_ne (tgt := 25) hx hb dX7_best_19 (by decide) (fun c5 => ?_) (fun c5 => ?_)
      · have hw := ifF hw c5
        exact bX7_best_25 E hw hh (lv_sub hl [0, 1, 2] rfl)
      · have hw := ifT hw c5
        refine lv_bipush (v := (-2)) hx hb dX7_best_22 (by decide) ?_
        exact x_iret E hh hw dX7_best_24
theorem kX7_best : kI yX7_best cX7_best 3 (some .int) 2 := ⟨tb610, tb611, tb1, tb612, by decide, by decide, by decide +kernel⟩
theorem mX7_best {l : Launch} {D : va_G} {ad : Nat → Nat → Nat} {cs : Nat → ClassId} {P : Nat → Nat → Prop} {sz tU : Nat} {adK adV : Nat → Nat} {x1 : Int32} {x2 : Int32} {S : St} {K : Int32 → St → Prop} (hI : wI ad P) (hn : ∀ kd i, i < cnA kd → P kd i) (hw : wpX7_best x1 x2 S K) : MI l yX7_best cX7_best 3 (some .int) 13 354 D ad cs P sz tU adK adV [.ref (ad 0 0), .int x1, .int x2] S K :=
  Met_of (by decide) (Nat.le_of_ble_eq_true rfl) hI hn (fun p e R s m args below meth c ls E hl hh => bX7_best E  hw hh (lv_sub hl [0, 1, 2] rfl))
def wpX7_row (x1 : Int32) (S : St) (K : Int32 → St → Prop) : Prop := wpX7_isSheet x1 S (fun r1 S1 => if r1 = 0 then (K (-2) S1) else ((vp_in x1 4 ∧ wpX4_isMissing x1.toNatClampNeg S1 (fun r4 S4 => if r4 = 0 then (if (S4.1 30 x1.toNatClampNeg 1) = (S4.1 10 0 0) then (wpX1_rank 0 x1.toNatClampNeg S4 (fun r7 S7 => K r7 S7)) else (K (-2) S4)) else (K (-11) S4)))))
set_option maxRecDepth 4000 in
theorem bX7_row {p : Program} {l : Launch} {e : Env} {R : Room} {s : State} {m : MethodId} {args : Array Value} {below : List Frame} {meth : Method} {c : Code} {D : va_G} {ad : Nat → Nat → Nat} {cs : Nat → ClassId} {P : Nat → Nat → Prop} {sz tU : Nat} {adK adV : Nat → Nat} {K : Int32 → St → Prop} {x1 : Int32} {S : St} {H : Heap} {locs : List Loc} {ls : Array Slot} (E : Ex p s m args meth c R RX7 cX7_row 3 (some .int) 7 201 D ad cs P (wA ad P) tU adK adV cnA) (hw : wpX7_row x1 S K) (hh : wH D ad cs P (wA ad P) s.heap sz S H locs) (hl : lv_has ls 3 [(0, .ref (ad 0 0)), (1, .int x1)]) : W p l e R s m args below meth c H locs 0 0 (MQ below (va_Qi K (QX D ad cs P sz) (wA ad P)) args s 0 0 (wA ad P)) (F0 m 0 ls []) := by
  have hx := E.hx
  have hb := E.hb
  refine lv_iload_n hx hb dX7_row_0 rfl (lv_at hl 1 rfl) ?_
  refine x_ci E.hA hh (x_runS E hh (mX7_isSheet E.hI (fun _ _ h => absurd h (Nat.not_lt_zero _)) hw) kX7_isSheet tb621 ⟨by decide, by decide⟩ rfl hl.1 rfl (Nat.le_of_ble_eq_true rfl) dX7_row_1 ⟨Nat.zero_le _, Nat.zero_le _⟩) (fun r1 S1 H locs hw hh => ?_)
  have hq1 := hw.2
  have hw := hw.1
  refine lv_if_ne (tgt := 10) hx hb dX7_row_4 (by decide) (fun c2 => ?_) (fun c2 => ?_)
  · have hw := ifF hw c2
    refine lv_aload_n hx hb dX7_row_10 rfl (lv_at hl 0 rfl) ?_
    refine g_0_9 E hh tb379 (E.hn 0 0 (by decide)) dX7_row_11 ?_
    refine lv_iload_n hx hb dX7_row_14 rfl (lv_at hl 1 rfl) ?_
    obtain ⟨hi3, hw⟩ := hw
    refine x_aald (to := 30) E hh (E.hn 29 0 (by decide)) (fun _ _ => rfl) rfl hi3 dX7_row_15 ?_
    refine lv_astore_n (lv' := [(2, .ref (ad 30 x1.toNatClampNeg)), (0, .ref (ad 0 0)), (1, .int x1)]) hx hb dX7_row_16 rfl hl (by decide) rfl (fun ls hl => ?_)
    refine lv_aload_n hx hb dX7_row_17 rfl (lv_at hl 0 rfl) ?_
    refine x_ci E.hA hh (x_runV E hh (mX4_isMissing E.hI E.hn (vp_lt hi3) hw) kX4_isMissing tb624 (E.hn 30 x1.toNatClampNeg (vp_lt hi3)) rv_30 ⟨by decide, by decide⟩ rfl hl.1 rfl (Nat.le_of_ble_eq_true rfl) dX7_row_18 ⟨Nat.zero_le _, Nat.zero_le _⟩) (fun r4 S4 H locs hw hh => ?_)
    have hq4 := hw.2
    have hw := hw.1
    refine lv_if_eq (tgt := 27) hx hb dX7_row_21 (by decide) (fun c5 => ?_) (fun c5 => ?_)
    · have hw := ifT hw c5
      refine lv_aload_n hx hb dX7_row_27 rfl (lv_at hl 0 rfl) ?_
      refine g_30_1 E hh tb154 (E.hn 30 x1.toNatClampNeg (vp_lt hi3)) dX7_row_28 ?_
      refine lv_aload_n hx hb dX7_row_31 rfl (lv_at hl 1 rfl) ?_
      refine g_0_3 E hh tb373 (E.hn 0 0 (by decide)) dX7_row_32 ?_
      refine g_10_0 E hh tb310 (E.hn 10 0 (by decide)) dX7_row_35 ?_
      refine lv_icmp_ne (tgt := 59) hx hb dX7_row_38 (by decide) (fun c6 => ?_) (fun c6 => ?_)
      · have hw := ifF hw c6
        refine lv_bipush (v := (-2)) hx hb dX7_row_59 (by decide) ?_
        exact x_iret E hh hw dX7_row_61
      · have hw := ifT hw c6
        refine lv_aload_n hx hb dX7_row_41 rfl (lv_at hl 1 rfl) ?_
        refine g_0_7 E hh tb377 (E.hn 0 0 (by decide)) dX7_row_42 ?_
        refine lv_aload_n hx hb dX7_row_45 rfl (lv_at hl 1 rfl) ?_
        refine g_0_3 E hh tb373 (E.hn 0 0 (by decide)) dX7_row_46 ?_
        refine lv_aload_n hx hb dX7_row_49 rfl (lv_at hl 0 rfl) ?_
        refine g_30_2 E hh tb156 (E.hn 30 x1.toNatClampNeg (vp_lt hi3)) dX7_row_50 ?_
        refine x_ci E.hA hh (x_runV E hh (mX1_rank E.hI E.hn (by decide) (E.hn 31 x1.toNatClampNeg (vp_lt hi3)) hw) kX1_rank tb628 (E.hn 18 0 (by decide)) rv_18 ⟨by decide, by decide⟩ rfl hl.1 rfl (Nat.le_of_ble_eq_true rfl) dX7_row_53 ⟨Nat.zero_le _, Nat.zero_le _⟩) (fun r7 S7 H locs hw hh => ?_)
        refine lv_goto (tgt := 61) hx hb dX7_row_56 (by decide) ?_
        exact x_iret E hh hw dX7_row_61
    · have hw := ifF hw c5
      refine lv_bipush (v := (-11)) hx hb dX7_row_24 (by decide) ?_
      exact x_iret E hh hw dX7_row_26
  · have hw := ifT hw c2
    refine lv_bipush (v := (-2)) hx hb dX7_row_7 (by decide) ?_
    exact x_iret E hh hw dX7_row_9
theorem kX7_row : kI yX7_row cX7_row 3 (some .int) 1 := ⟨tb618, tb619, tb1, tb620, by decide, by decide, by decide +kernel⟩
theorem mX7_row {l : Launch} {D : va_G} {ad : Nat → Nat → Nat} {cs : Nat → ClassId} {P : Nat → Nat → Prop} {sz tU : Nat} {adK adV : Nat → Nat} {x1 : Int32} {S : St} {K : Int32 → St → Prop} (hI : wI ad P) (hn : ∀ kd i, i < cnA kd → P kd i) (hw : wpX7_row x1 S K) : MI l yX7_row cX7_row 3 (some .int) 7 201 D ad cs P sz tU adK adV [.ref (ad 0 0), .int x1] S K :=
  Met_of (by decide) (Nat.le_of_ble_eq_true rfl) hI hn (fun p e R s m args below meth c ls E hl hh => bX7_row E  hw hh (lv_sub hl [0, 1] rfl))
def wbX7_passRound_37 (R2 : Int32 → St → Prop) (K : St → Prop) (x1 : Int32) (S : St) : Prop := R2 (x1 + 1) S
set_option maxRecDepth 4000 in
theorem bX7_passRound_37 {p : Program} {l : Launch} {e : Env} {R : Room} {s : State} {m : MethodId} {args : Array Value} {below : List Frame} {meth : Method} {c : Code} {D : va_G} {ad : Nat → Nat → Nat} {cs : Nat → ClassId} {P : Nat → Nat → Prop} {sz tU : Nat} {adK adV : Nat → Nat} {R2 : Int32 → St → Prop} {K : St → Prop} {x1 : Int32} {S : St} {H : Heap} {locs : List Loc} {ls : Array Slot} (E : Ex p s m args meth c R RX7 cX7_passRound 3 none 6 175 D ad cs P (wA ad P) tU adK adV cnA) (hR2 : ∀ (z1 : Int32) (S : St) (H : Heap) (locs : List Loc) (ls : Array Slot), R2 z1 S → wH D ad cs P (wA ad P) s.heap sz S H locs → lv_has ls 3 [(0, .ref (ad 0 0)), (1, .int z1)] → W p l e R s m args below meth c H locs 0 0 (MQ below (va_Qv K (QX D ad cs P sz) (wA ad P)) args s 0 0 (wA ad P)) (F0 m 2 ls [])) (hw : wbX7_passRound_37 R2 K x1 S) (hh : wH D ad cs P (wA ad P) s.heap sz S H locs) (hl : lv_has ls 3 [(0, .ref (ad 0 0)), (1, .int x1)]) : W p l e R s m args below meth c H locs 0 0 (MQ below (va_Qv K (QX D ad cs P sz) (wA ad P)) args s 0 0 (wA ad P)) (F0 m 37 ls []) := by
  have hx := E.hx
  have hb := E.hb
  refine lv_iinc (k := 1) (v := x1 + 1) (lv' := [(1, .int (x1 + 1)), (0, .ref (ad 0 0))]) hx hb dX7_passRound_37 hl rfl rfl (by decide) rfl (fun ls hl => ?_)
  refine lv_goto (tgt := 2) hx hb dX7_passRound_40 (by decide) ?_
  exact hR2 (x1 + 1) S _ _ _ hw hh (lv_sub hl [1, 0] rfl)
def wbX7_passRound_2 (K : St → Prop) : Nat → Int32 → St → Prop
  | 0, _, _ => False
  | n + 1, x1, S => if (S.1 10 1 0) ≤ x1 then (K S) else (wpX5_choice 1 x1 S (fun r2 S2 => if r2 = (-1) then (wbX7_passRound_37 (fun yx1 S9 => wbX7_passRound_2 K n yx1 S9) K x1 S2) else (wpX5_asking 1 x1 r2 S2 (fun r4 S4 => wbX7_passRound_37 (fun yx1 S9 => wbX7_passRound_2 K n yx1 S9) K x1 S4))))
set_option maxRecDepth 4000 in
theorem bX7_passRound_2 {p : Program} {l : Launch} {e : Env} {R : Room} {s : State} {m : MethodId} {args : Array Value} {below : List Frame} {meth : Method} {c : Code} {D : va_G} {ad : Nat → Nat → Nat} {cs : Nat → ClassId} {P : Nat → Nat → Prop} {sz tU : Nat} {adK adV : Nat → Nat} {K : St → Prop} (E : Ex p s m args meth c R RX7 cX7_passRound 3 none 6 175 D ad cs P (wA ad P) tU adK adV cnA) : ∀ (n : Nat) (x1 : Int32) (S : St) (H : Heap) (locs : List Loc) (ls : Array Slot), wbX7_passRound_2 K n x1 S → wH D ad cs P (wA ad P) s.heap sz S H locs → lv_has ls 3 [(0, .ref (ad 0 0)), (1, .int x1)] → W p l e R s m args below meth c H locs 0 0 (MQ below (va_Qv K (QX D ad cs P sz) (wA ad P)) args s 0 0 (wA ad P)) (F0 m 2 ls []) := by
  have hx := E.hx
  have hb := E.hb
  intro n
  induction n with
  | zero => intro x1 S H locs ls hw hh hl; exact hw.elim
  | succ n ih =>
    intro x1 S H locs ls hw hh hl
    refine lv_iload_n hx hb dX7_passRound_2 rfl (lv_at hl 1 rfl) ?_
    refine lv_aload_n hx hb dX7_passRound_3 rfl (lv_at hl 0 rfl) ?_
    refine g_0_4 E hh tb374 (E.hn 0 0 (by decide)) dX7_passRound_4 ?_
    refine g_10_0 E hh tb310 (E.hn 10 1 (by decide)) dX7_passRound_7 ?_
    refine lv_icmp_ge (tgt := 43) hx hb dX7_passRound_10 (by decide) (fun c1 => ?_) (fun c1 => ?_)
    · have hw := ifT hw c1
      exact x_vret E hh hw dX7_passRound_43
    · have hw := ifF hw c1
      refine lv_aload_n hx hb dX7_passRound_13 rfl (lv_at hl 0 rfl) ?_
      refine g_0_4 E hh tb374 (E.hn 0 0 (by decide)) dX7_passRound_14 ?_
      refine lv_iload_n hx hb dX7_passRound_17 rfl (lv_at hl 1 rfl) ?_
      refine x_ci E.hA hh (x_runV E hh (mX5_choice E.hI E.hn (by decide) hw) kX5_choice tb640 (E.hn 10 1 (by decide)) rv_10 ⟨by decide, by decide⟩ rfl hl.1 rfl (Nat.le_of_ble_eq_true rfl) dX7_passRound_18 ⟨Nat.zero_le _, Nat.zero_le _⟩) (fun r2 S2 H locs hw hh => ?_)
      refine lv_istore_n (lv' := [(2, .int r2), (0, .ref (ad 0 0)), (1, .int x1)]) hx hb dX7_passRound_21 rfl hl (by decide) rfl (fun ls hl => ?_)
      refine lv_iload_n hx hb dX7_passRound_22 rfl (lv_at hl 0 rfl) ?_
      refine lv_iconst (v := (-1)) hx hb dX7_passRound_23 (by decide) ?_
      refine lv_icmp_eq (tgt := 37) hx hb dX7_passRound_24 (by decide) (fun c3 => ?_) (fun c3 => ?_)
      · have hw := ifT hw c3
        exact bX7_passRound_37 E ih hw hh (lv_sub hl [1, 2] rfl)
      · have hw := ifF hw c3
        refine lv_aload_n hx hb dX7_passRound_27 rfl (lv_at hl 1 rfl) ?_
        refine g_0_4 E hh tb374 (E.hn 0 0 (by decide)) dX7_passRound_28 ?_
        refine lv_iload_n hx hb dX7_passRound_31 rfl (lv_at hl 2 rfl) ?_
        refine lv_iload_n hx hb dX7_passRound_32 rfl (lv_at hl 0 rfl) ?_
        refine x_ci E.hA hh (x_runV E hh (mX5_asking E.hI E.hn (by decide) hw) kX5_asking tb525 (E.hn 10 1 (by decide)) rv_10 ⟨by decide, by decide⟩ rfl hl.1 rfl (Nat.le_of_ble_eq_true rfl) dX7_passRound_33 ⟨Nat.zero_le _, Nat.zero_le _⟩) (fun r4 S4 H locs hw hh => ?_)
        have hq4 := hw.2
        have hw := hw.1
        refine lv_pop hx hb dX7_passRound_36 rfl ?_
        exact bX7_passRound_37 E ih hw hh (lv_sub hl [1, 2] rfl)
def wpX7_passRound (S : St) (K : St → Prop) : Prop := ∃ k, wbX7_passRound_2 K k 0 S
set_option maxRecDepth 4000 in
theorem bX7_passRound {p : Program} {l : Launch} {e : Env} {R : Room} {s : State} {m : MethodId} {args : Array Value} {below : List Frame} {meth : Method} {c : Code} {D : va_G} {ad : Nat → Nat → Nat} {cs : Nat → ClassId} {P : Nat → Nat → Prop} {sz tU : Nat} {adK adV : Nat → Nat} {K : St → Prop} {S : St} {H : Heap} {locs : List Loc} {ls : Array Slot} (E : Ex p s m args meth c R RX7 cX7_passRound 3 none 6 175 D ad cs P (wA ad P) tU adK adV cnA) (hw : wpX7_passRound S K) (hh : wH D ad cs P (wA ad P) s.heap sz S H locs) (hl : lv_has ls 3 [(0, .ref (ad 0 0))]) : W p l e R s m args below meth c H locs 0 0 (MQ below (va_Qv K (QX D ad cs P sz) (wA ad P)) args s 0 0 (wA ad P)) (F0 m 0 ls []) := by
  have hx := E.hx
  have hb := E.hb
  refine lv_iconst (v := 0) hx hb dX7_passRound_0 (by decide) ?_
  refine lv_istore_n (lv' := [(1, .int 0), (0, .ref (ad 0 0))]) hx hb dX7_passRound_1 rfl hl (by decide) rfl (fun ls hl => ?_)
  obtain ⟨k, hw⟩ := hw
  exact bX7_passRound_2 E k 0 S _ _ _ hw hh (lv_sub hl [1, 0] rfl)
theorem kX7_passRound : kI yX7_passRound cX7_passRound 3 none 0 := ⟨tb638, ts25, tb1, tb639, by decide, by decide, by decide +kernel⟩
theorem mX7_passRound {l : Launch} {D : va_G} {ad : Nat → Nat → Nat} {cs : Nat → ClassId} {P : Nat → Nat → Prop} {sz tU : Nat} {adK adV : Nat → Nat} {S : St} {K : St → Prop} (hI : wI ad P) (hn : ∀ kd i, i < cnA kd → P kd i) (hw : wpX7_passRound S K) : MV l yX7_passRound cX7_passRound 3 none 6 175 D ad cs P sz tU adK adV [.ref (ad 0 0)] S K :=
  Met_of (by decide) (Nat.le_of_ble_eq_true rfl) hI hn (fun p e R s m args below meth c ls E hl hh => bX7_passRound E  hw hh (lv_sub hl [0] rfl))
def wbX7_year_36 (K : Int32 → St → Prop) (x1 : Int32) (x2 : Int32) : Nat → Int32 → St → Prop
  | 0, _, _ => False
  | n + 1, x3, S => if x1 ≤ x3 then ((if x2 = 0 then (wpX5_marriedMen 1 S (fun r8 S8 => K r8 S8)) else (if x2 = 1 then (K (S.1 10 1 4) S) else (if x2 = 2 then (K (S.1 10 1 5) S) else (wpX7_isMan (x2 - 3) S (fun r11 S11 => if r11 = 0 then (K (-1) S11) else ((vp_in (x2 - 3) 4 ∧ K (S11.1 12 1 (x2 - 3).toNatClampNeg) S11)))))))) else (wpX7_passRound S (fun S14 => wbX7_year_36 K x1 x2 n (x3 + 1) S14))
set_option maxRecDepth 4000 in
theorem bX7_year_36 {p : Program} {l : Launch} {e : Env} {R : Room} {s : State} {m : MethodId} {args : Array Value} {below : List Frame} {meth : Method} {c : Code} {D : va_G} {ad : Nat → Nat → Nat} {cs : Nat → ClassId} {P : Nat → Nat → Prop} {sz tU : Nat} {adK adV : Nat → Nat} {K : Int32 → St → Prop} {x1 : Int32} {x2 : Int32} (E : Ex p s m args meth c R RX7 cX7_year 4 (some .int) 7 197 D ad cs P (wA ad P) tU adK adV cnA) : ∀ (n : Nat) (x3 : Int32) (S : St) (H : Heap) (locs : List Loc) (ls : Array Slot), wbX7_year_36 K x1 x2 n x3 S → wH D ad cs P (wA ad P) s.heap sz S H locs → lv_has ls 4 [(0, .ref (ad 0 0)), (1, .int x1), (2, .int x2), (3, .int x3)] → W p l e R s m args below meth c H locs 0 0 (MQ below (va_Qi K (QX D ad cs P sz) (wA ad P)) args s 0 0 (wA ad P)) (F0 m 36 ls []) := by
  have hx := E.hx
  have hb := E.hb
  intro n
  induction n with
  | zero => intro x3 S H locs ls hw hh hl; exact hw.elim
  | succ n ih =>
    intro x3 S H locs ls hw hh hl
    refine lv_iload_n hx hb dX7_year_36 rfl (lv_at hl 3 rfl) ?_
    refine lv_iload_n hx hb dX7_year_37 rfl (lv_at hl 1 rfl) ?_
    refine lv_icmp_ge (tgt := 51) hx hb dX7_year_38 (by decide) (fun c6 => ?_) (fun c6 => ?_)
    · have hw := ifT hw c6
      refine lv_iload_n hx hb dX7_year_51 rfl (lv_at hl 2 rfl) ?_
      by_cases c7 : x2 = 0
      · have hw := ifT hw c7
        refine lv_tableIn (tgt := 80) hx hb dX7_year_52 (by rw [c7] <;> decide) (by rw [c7] <;> decide) (by rw [c7] <;> rfl) (by decide) ?_
        refine lv_aload_n hx hb dX7_year_80 rfl (lv_at hl 0 rfl) ?_
        refine g_0_4 E hh tb374 (E.hn 0 0 (by decide)) dX7_year_81 ?_
        refine x_ci E.hA hh (x_runV E hh (mX5_marriedMen E.hI E.hn (by decide) hw) kX5_marriedMen tb646 (E.hn 10 1 (by decide)) rv_10 ⟨by decide, by decide⟩ rfl hl.1 rfl (Nat.le_of_ble_eq_true rfl) dX7_year_84 ⟨Nat.zero_le _, Nat.zero_le _⟩) (fun r8 S8 H locs hw hh => ?_)
        exact x_iret E hh hw dX7_year_87
      have hw := ifF hw c7
      by_cases c9 : x2 = 1
      · have hw := ifT hw c9
        refine lv_tableIn (tgt := 88) hx hb dX7_year_52 (by rw [c9] <;> decide) (by rw [c9] <;> decide) (by rw [c9] <;> rfl) (by decide) ?_
        refine lv_aload_n hx hb dX7_year_88 rfl (lv_at hl 0 rfl) ?_
        refine g_0_4 E hh tb374 (E.hn 0 0 (by decide)) dX7_year_89 ?_
        refine g_10_4 E hh tb322 (E.hn 10 1 (by decide)) dX7_year_92 ?_
        exact x_iret E hh hw dX7_year_95
      have hw := ifF hw c9
      by_cases c10 : x2 = 2
      · have hw := ifT hw c10
        refine lv_tableIn (tgt := 96) hx hb dX7_year_52 (by rw [c10] <;> decide) (by rw [c10] <;> decide) (by rw [c10] <;> rfl) (by decide) ?_
        refine lv_aload_n hx hb dX7_year_96 rfl (lv_at hl 0 rfl) ?_
        refine g_0_4 E hh tb374 (E.hn 0 0 (by decide)) dX7_year_97 ?_
        refine g_10_5 E hh tb325 (E.hn 10 1 (by decide)) dX7_year_100 ?_
        exact x_iret E hh hw dX7_year_103
      have hw := ifF hw c10
      refine lv_tableOut (tgt := 104) hx hb dX7_year_52 (by have n0 := lv_neT c7 (a := 0) rfl; have n1 := lv_neT c9 (a := 1) rfl; have n2 := lv_neT c10 (a := 2) rfl; omega) (by decide) ?_
      refine lv_aload_n hx hb dX7_year_104 rfl (lv_at hl 0 rfl) ?_
      refine lv_iload_n hx hb dX7_year_105 rfl (lv_at hl 2 rfl) ?_
      refine lv_iconst (v := 3) hx hb dX7_year_106 (by decide) ?_
      refine lv_isub hx hb dX7_year_107 ?_
      refine x_ci E.hA hh (x_runV E hh (mX7_isMan E.hI E.hn hw) kX7_isMan tb420 (E.hn 0 0 (by decide)) rv_0 ⟨by decide, by decide⟩ rfl hl.1 rfl (Nat.le_of_ble_eq_true rfl) dX7_year_108 ⟨Nat.zero_le _, Nat.zero_le _⟩) (fun r11 S11 H locs hw hh => ?_)
      have hq11 := hw.2
      have hw := hw.1
      refine lv_if_eq (tgt := 128) hx hb dX7_year_111 (by decide) (fun c12 => ?_) (fun c12 => ?_)
      · have hw := ifT hw c12
        refine lv_iconst (v := (-1)) hx hb dX7_year_128 (by decide) ?_
        exact x_iret E hh hw dX7_year_129
      · have hw := ifF hw c12
        refine lv_aload_n hx hb dX7_year_114 rfl (lv_at hl 0 rfl) ?_
        refine g_0_4 E hh tb374 (E.hn 0 0 (by decide)) dX7_year_115 ?_
        refine g_10_7 E hh tb330 (E.hn 10 1 (by decide)) dX7_year_118 ?_
        refine lv_iload_n hx hb dX7_year_121 rfl (lv_at hl 2 rfl) ?_
        refine lv_iconst (v := 3) hx hb dX7_year_122 (by decide) ?_
        refine lv_isub hx hb dX7_year_123 ?_
        obtain ⟨hi13, hw⟩ := hw
        refine x_iald E hh (E.hn 12 1 (by decide)) ly_12 hi13 dX7_year_124 ?_
        refine lv_goto (tgt := 129) hx hb dX7_year_125 (by decide) ?_
        exact x_iret E hh hw dX7_year_129
    · have hw := ifF hw c6
      refine lv_aload_n hx hb dX7_year_41 rfl (lv_at hl 0 rfl) ?_
      refine x_cv E.hA hh (x_runV E hh (mX7_passRound E.hI E.hn hw) kX7_passRound tb636 (E.hn 0 0 (by decide)) rv_0 ⟨by decide, by decide⟩ rfl hl.1 rfl (Nat.le_of_ble_eq_true rfl) dX7_year_42 ⟨Nat.zero_le _, Nat.zero_le _⟩) (fun S14 H locs hw hh => ?_)
      refine lv_iinc (k := 3) (v := x3 + 1) (lv' := [(3, .int (x3 + 1)), (0, .ref (ad 0 0)), (1, .int x1), (2, .int x2)]) hx hb dX7_year_45 hl rfl rfl (by decide) rfl (fun ls hl => ?_)
      refine lv_goto (tgt := 36) hx hb dX7_year_48 (by decide) ?_
      exact ih (x3 + 1) S14 _ _ _ hw hh (lv_sub hl [1, 2, 3, 0] rfl)
def wpX7_year (x1 : Int32) (x2 : Int32) (S : St) (K : Int32 → St → Prop) : Prop := wpX7_within x1 0 12 S (fun r1 S1 => if r1 = 0 then (K (-2) S1) else (wpX7_within x2 0 6 S1 (fun r3 S3 => if r3 = 0 then (K (-2) S3) else (wpX5_resemble 1 0 S3 (fun S5 => ∃ k, wbX7_year_36 K x1 x2 k 0 S5)))))
set_option maxRecDepth 4000 in
theorem bX7_year {p : Program} {l : Launch} {e : Env} {R : Room} {s : State} {m : MethodId} {args : Array Value} {below : List Frame} {meth : Method} {c : Code} {D : va_G} {ad : Nat → Nat → Nat} {cs : Nat → ClassId} {P : Nat → Nat → Prop} {sz tU : Nat} {adK adV : Nat → Nat} {K : Int32 → St → Prop} {x1 : Int32} {x2 : Int32} {S : St} {H : Heap} {locs : List Loc} {ls : Array Slot} (E : Ex p s m args meth c R RX7 cX7_year 4 (some .int) 7 197 D ad cs P (wA ad P) tU adK adV cnA) (hw : wpX7_year x1 x2 S K) (hh : wH D ad cs P (wA ad P) s.heap sz S H locs) (hl : lv_has ls 4 [(0, .ref (ad 0 0)), (1, .int x1), (2, .int x2)]) : W p l e R s m args below meth c H locs 0 0 (MQ below (va_Qi K (QX D ad cs P sz) (wA ad P)) args s 0 0 (wA ad P)) (F0 m 0 ls []) := by
  have hx := E.hx
  have hb := E.hb
  refine lv_iload_n hx hb dX7_year_0 rfl (lv_at hl 1 rfl) ?_
  refine lv_iconst (v := 0) hx hb dX7_year_1 (by decide) ?_
  refine lv_bipush (v := 12) hx hb dX7_year_2 (by decide) ?_
  refine x_ci E.hA hh (x_runS E hh (mX7_within E.hI (fun _ _ h => absurd h (Nat.not_lt_zero _)) hw) kX7_within tb405 ⟨by decide, by decide⟩ rfl hl.1 rfl (Nat.le_of_ble_eq_true rfl) dX7_year_4 ⟨Nat.zero_le _, Nat.zero_le _⟩) (fun r1 S1 H locs hw hh => ?_)
  have hq1 := hw.2
  have hw := hw.1
  refine lv_if_eq (tgt := 20) hx hb dX7_year_7 (by decide) (fun c2 => ?_) (fun c2 => ?_)
  · have hw := ifT hw c2
    refine lv_bipush (v := (-2)) hx hb dX7_year_20 (by decide) ?_
    exact x_iret E hh hw dX7_year_22
  · have hw := ifF hw c2
    refine lv_iload_n hx hb dX7_year_10 rfl (lv_at hl 2 rfl) ?_
    refine lv_iconst (v := 0) hx hb dX7_year_11 (by decide) ?_
    refine lv_bipush (v := 6) hx hb dX7_year_12 (by decide) ?_
    refine x_ci E.hA hh (x_runS E hh (mX7_within E.hI (fun _ _ h => absurd h (Nat.not_lt_zero _)) hw) kX7_within tb405 ⟨by decide, by decide⟩ rfl hl.1 rfl (Nat.le_of_ble_eq_true rfl) dX7_year_14 ⟨Nat.zero_le _, Nat.zero_le _⟩) (fun r3 S3 H locs hw hh => ?_)
    have hq3 := hw.2
    have hw := hw.1
    refine lv_if_ne (tgt := 23) hx hb dX7_year_17 (by decide) (fun c4 => ?_) (fun c4 => ?_)
    · have hw := ifF hw c4
      refine lv_aload_n hx hb dX7_year_23 rfl (lv_at hl 0 rfl) ?_
      refine g_0_4 E hh tb374 (E.hn 0 0 (by decide)) dX7_year_24 ?_
      refine lv_aload_n hx hb dX7_year_27 rfl (lv_at hl 0 rfl) ?_
      refine g_0_3 E hh tb373 (E.hn 0 0 (by decide)) dX7_year_28 ?_
      refine x_cv E.hA hh (x_runV E hh (mX5_resemble E.hI E.hn (by decide) (by decide) hw) kX5_resemble tb543 (E.hn 10 1 (by decide)) rv_10 ⟨by decide, by decide⟩ rfl hl.1 rfl (Nat.le_of_ble_eq_true rfl) dX7_year_31 ⟨Nat.zero_le _, Nat.zero_le _⟩) (fun S5 H locs hw hh => ?_)
      refine lv_iconst (v := 0) hx hb dX7_year_34 (by decide) ?_
      refine lv_istore_n (lv' := [(3, .int 0), (0, .ref (ad 0 0)), (1, .int x1), (2, .int x2)]) hx hb dX7_year_35 rfl hl (by decide) rfl (fun ls hl => ?_)
      obtain ⟨k, hw⟩ := hw
      exact bX7_year_36 E k 0 S5 _ _ _ hw hh (lv_sub hl [1, 2, 3, 0] rfl)
    · have hw := ifT hw c4
      refine lv_bipush (v := (-2)) hx hb dX7_year_20 (by decide) ?_
      exact x_iret E hh hw dX7_year_22
theorem kX7_year : kI yX7_year cX7_year 4 (some .int) 2 := ⟨tb633, tb634, tb1, tb635, by decide, by decide, by decide +kernel⟩
theorem mX7_year {l : Launch} {D : va_G} {ad : Nat → Nat → Nat} {cs : Nat → ClassId} {P : Nat → Nat → Prop} {sz tU : Nat} {adK adV : Nat → Nat} {x1 : Int32} {x2 : Int32} {S : St} {K : Int32 → St → Prop} (hI : wI ad P) (hn : ∀ kd i, i < cnA kd → P kd i) (hw : wpX7_year x1 x2 S K) : MI l yX7_year cX7_year 4 (some .int) 7 197 D ad cs P sz tU adK adV [.ref (ad 0 0), .int x1, .int x2] S K :=
  Met_of (by decide) (Nat.le_of_ble_eq_true rfl) hI hn (fun p e R s m args below meth c ls E hl hh => bX7_year E  hw hh (lv_sub hl [0, 1, 2] rfl))
def wbX7_judge_207 (R65 : Int32 → Int32 → St → Prop) (K : Int32 → St → Prop) (x2 : Int32) (u3 : Nat) (x4 : Int32) (x5 : Int32) (v0 : Int32) (v1 : Int32) (v2 : Int32) (S : St) : Prop := wpX5_endAsking 1 v2 v1 v0 S (fun S26 => R65 x4 (x5 + 1) S26)
set_option maxRecDepth 4000 in
theorem bX7_judge_207 {p : Program} {l : Launch} {e : Env} {R : Room} {s : State} {m : MethodId} {args : Array Value} {below : List Frame} {meth : Method} {c : Code} {D : va_G} {ad : Nat → Nat → Nat} {cs : Nat → ClassId} {P : Nat → Nat → Prop} {sz tU : Nat} {adK adV : Nat → Nat} {R65 : Int32 → Int32 → St → Prop} {K : Int32 → St → Prop} {x2 : Int32} {u3 : Nat} {x4 : Int32} {x5 : Int32} {v0 : Int32} {v1 : Int32} {v2 : Int32} {S : St} {H : Heap} {locs : List Loc} {ls : Array Slot} (E : Ex p s m args meth c R RX7 cX7_judge 9 (some .int) 5 152 D ad cs P (wA ad P) tU adK adV cnA) (hu3 : u3 < 4) (hR65 : ∀ (z4 : Int32) (z5 : Int32) (S : St) (H : Heap) (locs : List Loc) (ls : Array Slot), R65 z4 z5 S → wH D ad cs P (wA ad P) s.heap sz S H locs → lv_has ls 9 [(0, .ref (ad 0 0)), (2, .int x2), (3, .ref (ad 30 u3)), (4, .int z4), (5, .int z5)] → W p l e R s m args below meth c H locs 0 0 (MQ below (va_Qi K (QX D ad cs P sz) (wA ad P)) args s 0 0 (wA ad P)) (F0 m 65 ls [])) (hw : wbX7_judge_207 R65 K x2 u3 x4 x5 v0 v1 v2 S) (hh : wH D ad cs P (wA ad P) s.heap sz S H locs) (hl : lv_has ls 9 [(0, .ref (ad 0 0)), (2, .int x2), (3, .ref (ad 30 u3)), (4, .int x4), (5, .int x5)]) : W p l e R s m args below meth c H locs 0 0 (MQ below (va_Qi K (QX D ad cs P sz) (wA ad P)) args s 0 0 (wA ad P)) (F0 m 207 ls [.int v0, .int v1, .int v2, .ref (ad 10 1)]) := by
  have hx := E.hx
  have hb := E.hb
  refine x_cv E.hA hh (x_runV E hh (mX5_endAsking E.hI E.hn (by decide) hw) kX5_endAsking tb654 (E.hn 10 1 (by decide)) rv_10 ⟨by decide, by decide⟩ rfl hl.1 rfl (Nat.le_of_ble_eq_true rfl) dX7_judge_207 ⟨Nat.zero_le _, Nat.zero_le _⟩) (fun S26 H locs hw hh => ?_)
  refine lv_iinc (k := 4) (v := x5 + 1) (lv' := [(5, .int (x5 + 1)), (0, .ref (ad 0 0)), (2, .int x2), (3, .ref (ad 30 u3)), (4, .int x4)]) hx hb dX7_judge_210 hl rfl rfl (by decide) rfl (fun ls hl => ?_)
  refine lv_goto (tgt := 65) hx hb dX7_judge_213 (by decide) ?_
  exact hR65 x4 (x5 + 1) S26 _ _ _ hw hh (lv_sub hl [1, 2, 3, 4, 0] rfl)
def wbX7_judge_188 (R65 : Int32 → Int32 → St → Prop) (K : Int32 → St → Prop) (x2 : Int32) (u3 : Nat) (x4 : Int32) (x5 : Int32) (x6 : Int32) (x7 : Int32) (x8 : Int32) (S : St) : Prop := if x8 = 1 then (wbX7_judge_207 R65 K x2 u3 x4 x5 1 x7 x6 S) else (wbX7_judge_207 R65 K x2 u3 x4 x5 0 x7 x6 S)
set_option maxRecDepth 4000 in
theorem bX7_judge_188 {p : Program} {l : Launch} {e : Env} {R : Room} {s : State} {m : MethodId} {args : Array Value} {below : List Frame} {meth : Method} {c : Code} {D : va_G} {ad : Nat → Nat → Nat} {cs : Nat → ClassId} {P : Nat → Nat → Prop} {sz tU : Nat} {adK adV : Nat → Nat} {R65 : Int32 → Int32 → St → Prop} {K : Int32 → St → Prop} {x2 : Int32} {u3 : Nat} {x4 : Int32} {x5 : Int32} {x6 : Int32} {x7 : Int32} {x8 : Int32} {S : St} {H : Heap} {locs : List Loc} {ls : Array Slot} (E : Ex p s m args meth c R RX7 cX7_judge 9 (some .int) 5 152 D ad cs P (wA ad P) tU adK adV cnA) (hu3 : u3 < 4) (hR65 : ∀ (z4 : Int32) (z5 : Int32) (S : St) (H : Heap) (locs : List Loc) (ls : Array Slot), R65 z4 z5 S → wH D ad cs P (wA ad P) s.heap sz S H locs → lv_has ls 9 [(0, .ref (ad 0 0)), (2, .int x2), (3, .ref (ad 30 u3)), (4, .int z4), (5, .int z5)] → W p l e R s m args below meth c H locs 0 0 (MQ below (va_Qi K (QX D ad cs P sz) (wA ad P)) args s 0 0 (wA ad P)) (F0 m 65 ls [])) (hw : wbX7_judge_188 R65 K x2 u3 x4 x5 x6 x7 x8 S) (hh : wH D ad cs P (wA ad P) s.heap sz S H locs) (hl : lv_has ls 9 [(0, .ref (ad 0 0)), (2, .int x2), (3, .ref (ad 30 u3)), (4, .int x4), (5, .int x5), (6, .int x6), (7, .int x7), (8, .int x8)]) : W p l e R s m args below meth c H locs 0 0 (MQ below (va_Qi K (QX D ad cs P sz) (wA ad P)) args s 0 0 (wA ad P)) (F0 m 188 ls []) := by
  have hx := E.hx
  have hb := E.hb
  refine lv_aload_n hx hb dX7_judge_188 rfl (lv_at hl 0 rfl) ?_
  refine g_0_4 E hh tb374 (E.hn 0 0 (by decide)) dX7_judge_189 ?_
  refine lv_iload hx hb dX7_judge_192 (lv_at hl 5 rfl) ?_
  refine lv_iload hx hb dX7_judge_194 (lv_at hl 6 rfl) ?_
  refine lv_iload hx hb dX7_judge_196 (lv_at hl 7 rfl) ?_
  refine lv_iconst (v := 1) hx hb dX7_judge_198 (by decide) ?_
  refine lv_icmp_ne (tgt := 206) hx hb dX7_judge_199 (by decide) (fun c25 => ?_) (fun c25 => ?_)
  · have hw := ifF hw c25
    refine lv_iconst (v := 0) hx hb dX7_judge_206 (by decide) ?_
    exact bX7_judge_207 E (hu3) hR65 hw hh (lv_sub hl [0, 1, 2, 3, 4] rfl)
  · have hw := ifT hw c25
    refine lv_iconst (v := 1) hx hb dX7_judge_202 (by decide) ?_
    refine lv_goto (tgt := 207) hx hb dX7_judge_203 (by decide) ?_
    exact bX7_judge_207 E (hu3) hR65 hw hh (lv_sub hl [0, 1, 2, 3, 4] rfl)
def wbX7_judge_182 (R65 : Int32 → Int32 → St → Prop) (K : Int32 → St → Prop) (x2 : Int32) (u3 : Nat) (x4 : Int32) (x5 : Int32) (x6 : Int32) (x7 : Int32) (x8 : Int32) (v0 : Int32) (v1 : Int32) (S : St) : Prop := if v1 = v0 then (wbX7_judge_188 R65 K x2 u3 (x4 + 1) x5 x6 x7 x8 S) else (wbX7_judge_188 R65 K x2 u3 x4 x5 x6 x7 x8 S)
set_option maxRecDepth 4000 in
theorem bX7_judge_182 {p : Program} {l : Launch} {e : Env} {R : Room} {s : State} {m : MethodId} {args : Array Value} {below : List Frame} {meth : Method} {c : Code} {D : va_G} {ad : Nat → Nat → Nat} {cs : Nat → ClassId} {P : Nat → Nat → Prop} {sz tU : Nat} {adK adV : Nat → Nat} {R65 : Int32 → Int32 → St → Prop} {K : Int32 → St → Prop} {x2 : Int32} {u3 : Nat} {x4 : Int32} {x5 : Int32} {x6 : Int32} {x7 : Int32} {x8 : Int32} {v0 : Int32} {v1 : Int32} {S : St} {H : Heap} {locs : List Loc} {ls : Array Slot} (E : Ex p s m args meth c R RX7 cX7_judge 9 (some .int) 5 152 D ad cs P (wA ad P) tU adK adV cnA) (hu3 : u3 < 4) (hR65 : ∀ (z4 : Int32) (z5 : Int32) (S : St) (H : Heap) (locs : List Loc) (ls : Array Slot), R65 z4 z5 S → wH D ad cs P (wA ad P) s.heap sz S H locs → lv_has ls 9 [(0, .ref (ad 0 0)), (2, .int x2), (3, .ref (ad 30 u3)), (4, .int z4), (5, .int z5)] → W p l e R s m args below meth c H locs 0 0 (MQ below (va_Qi K (QX D ad cs P sz) (wA ad P)) args s 0 0 (wA ad P)) (F0 m 65 ls [])) (hw : wbX7_judge_182 R65 K x2 u3 x4 x5 x6 x7 x8 v0 v1 S) (hh : wH D ad cs P (wA ad P) s.heap sz S H locs) (hl : lv_has ls 9 [(0, .ref (ad 0 0)), (2, .int x2), (3, .ref (ad 30 u3)), (4, .int x4), (5, .int x5), (6, .int x6), (7, .int x7), (8, .int x8)]) : W p l e R s m args below meth c H locs 0 0 (MQ below (va_Qi K (QX D ad cs P sz) (wA ad P)) args s 0 0 (wA ad P)) (F0 m 182 ls [.int v0, .int v1]) := by
  have hx := E.hx
  have hb := E.hb
  refine lv_icmp_ne (tgt := 188) hx hb dX7_judge_182 (by decide) (fun c24 => ?_) (fun c24 => ?_)
  · have hw := ifF hw c24
    exact bX7_judge_188 E (hu3) hR65 hw hh (lv_sub hl [0, 1, 2, 3, 4, 5, 6, 7] rfl)
  · have hw := ifT hw c24
    refine lv_iinc (k := 3) (v := x4 + 1) (lv' := [(4, .int (x4 + 1)), (0, .ref (ad 0 0)), (2, .int x2), (3, .ref (ad 30 u3)), (5, .int x5), (6, .int x6), (7, .int x7), (8, .int x8)]) hx hb dX7_judge_185 hl rfl rfl (by decide) rfl (fun ls hl => ?_)
    exact bX7_judge_188 E (hu3) hR65 hw hh (lv_sub hl [1, 2, 3, 0, 4, 5, 6, 7] rfl)
def wbX7_judge_148 (K : Int32 → St → Prop) (x2 : Int32) (x4 : Int32) (x5 : Int32) (S : St) : Prop := if x2 = 0 then (K x5 S) else (K x4 S)
set_option maxRecDepth 4000 in
theorem bX7_judge_148 {p : Program} {l : Launch} {e : Env} {R : Room} {s : State} {m : MethodId} {args : Array Value} {below : List Frame} {meth : Method} {c : Code} {D : va_G} {ad : Nat → Nat → Nat} {cs : Nat → ClassId} {P : Nat → Nat → Prop} {sz tU : Nat} {adK adV : Nat → Nat} {K : Int32 → St → Prop} {x2 : Int32} {x4 : Int32} {x5 : Int32} {S : St} {H : Heap} {locs : List Loc} {ls : Array Slot} (E : Ex p s m args meth c R RX7 cX7_judge 9 (some .int) 5 152 D ad cs P (wA ad P) tU adK adV cnA) (hw : wbX7_judge_148 K x2 x4 x5 S) (hh : wH D ad cs P (wA ad P) s.heap sz S H locs) (hl : lv_has ls 9 [(2, .int x2), (4, .int x4), (5, .int x5)]) : W p l e R s m args below meth c H locs 0 0 (MQ below (va_Qi K (QX D ad cs P sz) (wA ad P)) args s 0 0 (wA ad P)) (F0 m 148 ls []) := by
  have hx := E.hx
  have hb := E.hb
  refine lv_iload_n hx hb dX7_judge_148 rfl (lv_at hl 0 rfl) ?_
  refine lv_if_ne (tgt := 157) hx hb dX7_judge_149 (by decide) (fun c23 => ?_) (fun c23 => ?_)
  · have hw := ifF hw c23
    refine lv_iload hx hb dX7_judge_157 (lv_at hl 1 rfl) ?_
    exact x_iret E hh hw dX7_judge_159
  · have hw := ifT hw c23
    refine lv_iload hx hb dX7_judge_152 (lv_at hl 2 rfl) ?_
    refine lv_goto (tgt := 159) hx hb dX7_judge_154 (by decide) ?_
    exact x_iret E hh hw dX7_judge_159
def wbX7_judge_65 (K : Int32 → St → Prop) (x2 : Int32) (u3 : Nat) : Nat → Int32 → Int32 → St → Prop
  | 0, _, _, _ => False
  | n + 1, x4, x5, S => if (S.1 30 u3 1) ≤ (3 * x5) then (if x2 = 0 then (K (-1) S) else (K x4 S)) else ((vp_in (3 * x5) 40 ∧ (vp_in ((3 * x5) + 1) 40 ∧ (vp_in ((3 * x5) + 2) 40 ∧ wpX7_arePair (S.1 31 u3 (3 * x5).toNatClampNeg) (S.1 31 u3 ((3 * x5) + 1).toNatClampNeg) S (fun r15 S15 => if r15 = 0 then (wbX7_judge_148 K x2 x4 x5 S15) else (wpX7_within (S.1 31 u3 ((3 * x5) + 2).toNatClampNeg) 0 1 S15 (fun r17 S17 => if r17 = 0 then (wbX7_judge_148 K x2 x4 x5 S17) else (wpX5_mayAsk 1 (S.1 31 u3 (3 * x5).toNatClampNeg) (S.1 31 u3 ((3 * x5) + 1).toNatClampNeg) S17 (fun r19 S19 => if r19 = 0 then (wbX7_judge_148 K x2 x4 x5 S19) else (wpX5_saysNo 1 (S.1 31 u3 (3 * x5).toNatClampNeg) (S.1 31 u3 ((3 * x5) + 1).toNatClampNeg) S19 (fun r21 S21 => if (S.1 31 u3 ((3 * x5) + 2).toNatClampNeg) = 1 then (wbX7_judge_182 (fun yx4 yx5 S9 => wbX7_judge_65 K x2 u3 n yx4 yx5 S9) K x2 u3 x4 x5 (S.1 31 u3 (3 * x5).toNatClampNeg) (S.1 31 u3 ((3 * x5) + 1).toNatClampNeg) (S.1 31 u3 ((3 * x5) + 2).toNatClampNeg) 1 r21 S21) else (wbX7_judge_182 (fun yx4 yx5 S9 => wbX7_judge_65 K x2 u3 n yx4 yx5 S9) K x2 u3 x4 x5 (S.1 31 u3 (3 * x5).toNatClampNeg) (S.1 31 u3 ((3 * x5) + 1).toNatClampNeg) (S.1 31 u3 ((3 * x5) + 2).toNatClampNeg) 0 r21 S21))))))))))))
set_option maxRecDepth 4000 in
theorem bX7_judge_65 {p : Program} {l : Launch} {e : Env} {R : Room} {s : State} {m : MethodId} {args : Array Value} {below : List Frame} {meth : Method} {c : Code} {D : va_G} {ad : Nat → Nat → Nat} {cs : Nat → ClassId} {P : Nat → Nat → Prop} {sz tU : Nat} {adK adV : Nat → Nat} {K : Int32 → St → Prop} {x2 : Int32} {u3 : Nat} (E : Ex p s m args meth c R RX7 cX7_judge 9 (some .int) 5 152 D ad cs P (wA ad P) tU adK adV cnA) (hu3 : u3 < 4) : ∀ (n : Nat) (x4 : Int32) (x5 : Int32) (S : St) (H : Heap) (locs : List Loc) (ls : Array Slot), wbX7_judge_65 K x2 u3 n x4 x5 S → wH D ad cs P (wA ad P) s.heap sz S H locs → lv_has ls 9 [(0, .ref (ad 0 0)), (2, .int x2), (3, .ref (ad 30 u3)), (4, .int x4), (5, .int x5)] → W p l e R s m args below meth c H locs 0 0 (MQ below (va_Qi K (QX D ad cs P sz) (wA ad P)) args s 0 0 (wA ad P)) (F0 m 65 ls []) := by
  have hx := E.hx
  have hb := E.hb
  intro n
  induction n with
  | zero => intro x4 x5 S H locs ls hw hh hl; exact hw.elim
  | succ n ih =>
    intro x4 x5 S H locs ls hw hh hl
    refine lv_iconst (v := 3) hx hb dX7_judge_65 (by decide) ?_
    refine lv_iload hx hb dX7_judge_66 (lv_at hl 4 rfl) ?_
    refine lv_imul hx hb dX7_judge_68 ?_
    refine lv_aload_n hx hb dX7_judge_69 rfl (lv_at hl 2 rfl) ?_
    refine g_30_1 E hh tb154 (E.hn 30 u3 hu3) dX7_judge_70 ?_
    refine lv_icmp_ge (tgt := 216) hx hb dX7_judge_73 (by decide) (fun c10 => ?_) (fun c10 => ?_)
    · have hw := ifT hw c10
      refine lv_iload_n hx hb dX7_judge_216 rfl (lv_at hl 1 rfl) ?_
      refine lv_if_ne (tgt := 224) hx hb dX7_judge_217 (by decide) (fun c11 => ?_) (fun c11 => ?_)
      · have hw := ifF hw c11
        refine lv_iload hx hb dX7_judge_224 (lv_at hl 3 rfl) ?_
        exact x_iret E hh hw dX7_judge_226
      · have hw := ifT hw c11
        refine lv_iconst (v := (-1)) hx hb dX7_judge_220 (by decide) ?_
        refine lv_goto (tgt := 226) hx hb dX7_judge_221 (by decide) ?_
        exact x_iret E hh hw dX7_judge_226
    · have hw := ifF hw c10
      refine lv_aload_n hx hb dX7_judge_76 rfl (lv_at hl 2 rfl) ?_
      refine g_30_2 E hh tb156 (E.hn 30 u3 hu3) dX7_judge_77 ?_
      refine lv_iconst (v := 3) hx hb dX7_judge_80 (by decide) ?_
      refine lv_iload hx hb dX7_judge_81 (lv_at hl 4 rfl) ?_
      refine lv_imul hx hb dX7_judge_83 ?_
      obtain ⟨hi12, hw⟩ := hw
      refine x_iald E hh (E.hn 31 u3 hu3) ly_31 hi12 dX7_judge_84 ?_
      refine lv_istore (lv' := [(6, .int (S.1 31 u3 (3 * x5).toNatClampNeg)), (0, .ref (ad 0 0)), (2, .int x2), (3, .ref (ad 30 u3)), (4, .int x4), (5, .int x5)]) hx hb dX7_judge_85 hl (by decide) rfl (fun ls hl => ?_)
      refine lv_aload_n hx hb dX7_judge_87 rfl (lv_at hl 3 rfl) ?_
      refine g_30_2 E hh tb156 (E.hn 30 u3 hu3) dX7_judge_88 ?_
      refine lv_iconst (v := 3) hx hb dX7_judge_91 (by decide) ?_
      refine lv_iload hx hb dX7_judge_92 (lv_at hl 5 rfl) ?_
      refine lv_imul hx hb dX7_judge_94 ?_
      refine lv_iconst (v := 1) hx hb dX7_judge_95 (by decide) ?_
      refine lv_iadd hx hb dX7_judge_96 ?_
      obtain ⟨hi13, hw⟩ := hw
      refine x_iald E hh (E.hn 31 u3 hu3) ly_31 hi13 dX7_judge_97 ?_
      refine lv_istore (lv' := [(7, .int (S.1 31 u3 ((3 * x5) + 1).toNatClampNeg)), (6, .int (S.1 31 u3 (3 * x5).toNatClampNeg)), (0, .ref (ad 0 0)), (2, .int x2), (3, .ref (ad 30 u3)), (4, .int x4), (5, .int x5)]) hx hb dX7_judge_98 hl (by decide) rfl (fun ls hl => ?_)
      refine lv_aload_n hx hb dX7_judge_100 rfl (lv_at hl 4 rfl) ?_
      refine g_30_2 E hh tb156 (E.hn 30 u3 hu3) dX7_judge_101 ?_
      refine lv_iconst (v := 3) hx hb dX7_judge_104 (by decide) ?_
      refine lv_iload hx hb dX7_judge_105 (lv_at hl 6 rfl) ?_
      refine lv_imul hx hb dX7_judge_107 ?_
      refine lv_iconst (v := 2) hx hb dX7_judge_108 (by decide) ?_
      refine lv_iadd hx hb dX7_judge_109 ?_
      obtain ⟨hi14, hw⟩ := hw
      refine x_iald E hh (E.hn 31 u3 hu3) ly_31 hi14 dX7_judge_110 ?_
      refine lv_istore (lv' := [(8, .int (S.1 31 u3 ((3 * x5) + 2).toNatClampNeg)), (7, .int (S.1 31 u3 ((3 * x5) + 1).toNatClampNeg)), (6, .int (S.1 31 u3 (3 * x5).toNatClampNeg)), (0, .ref (ad 0 0)), (2, .int x2), (3, .ref (ad 30 u3)), (4, .int x4), (5, .int x5)]) hx hb dX7_judge_111 hl (by decide) rfl (fun ls hl => ?_)
      refine lv_aload_n hx hb dX7_judge_113 rfl (lv_at hl 3 rfl) ?_
      refine lv_iload hx hb dX7_judge_114 (lv_at hl 2 rfl) ?_
      refine lv_iload hx hb dX7_judge_116 (lv_at hl 1 rfl) ?_
      refine x_ci E.hA hh (x_runV E hh (mX7_arePair E.hI E.hn hw) kX7_arePair tb416 (E.hn 0 0 (by decide)) rv_0 ⟨by decide, by decide⟩ rfl hl.1 rfl (Nat.le_of_ble_eq_true rfl) dX7_judge_118 ⟨Nat.zero_le _, Nat.zero_le _⟩) (fun r15 S15 H locs hw hh => ?_)
      have hq15 := hw.2
      have hw := hw.1
      refine lv_if_eq (tgt := 148) hx hb dX7_judge_121 (by decide) (fun c16 => ?_) (fun c16 => ?_)
      · have hw := ifT hw c16
        exact bX7_judge_148 E hw hh (lv_sub hl [4, 6, 7] rfl)
      · have hw := ifF hw c16
        refine lv_iload hx hb dX7_judge_124 (lv_at hl 0 rfl) ?_
        refine lv_iconst (v := 0) hx hb dX7_judge_126 (by decide) ?_
        refine lv_iconst (v := 1) hx hb dX7_judge_127 (by decide) ?_
        refine x_ci E.hA hh (x_runS E hh (mX7_within E.hI (fun _ _ h => absurd h (Nat.not_lt_zero _)) hw) kX7_within tb405 ⟨by decide, by decide⟩ rfl hl.1 rfl (Nat.le_of_ble_eq_true rfl) dX7_judge_128 ⟨Nat.zero_le _, Nat.zero_le _⟩) (fun r17 S17 H locs hw hh => ?_)
        have hq17 := hw.2
        have hw := hw.1
        refine lv_if_eq (tgt := 148) hx hb dX7_judge_131 (by decide) (fun c18 => ?_) (fun c18 => ?_)
        · have hw := ifT hw c18
          exact bX7_judge_148 E hw hh (lv_sub hl [4, 6, 7] rfl)
        · have hw := ifF hw c18
          refine lv_aload_n hx hb dX7_judge_134 rfl (lv_at hl 3 rfl) ?_
          refine g_0_4 E hh tb374 (E.hn 0 0 (by decide)) dX7_judge_135 ?_
          refine lv_iload hx hb dX7_judge_138 (lv_at hl 2 rfl) ?_
          refine lv_iload hx hb dX7_judge_140 (lv_at hl 1 rfl) ?_
          refine x_ci E.hA hh (x_runV E hh (mX5_mayAsk E.hI E.hn (by decide) hw) kX5_mayAsk tb446 (E.hn 10 1 (by decide)) rv_10 ⟨by decide, by decide⟩ rfl hl.1 rfl (Nat.le_of_ble_eq_true rfl) dX7_judge_142 ⟨Nat.zero_le _, Nat.zero_le _⟩) (fun r19 S19 H locs hw hh => ?_)
          have hq19 := hw.2
          have hw := hw.1
          refine lv_if_ne (tgt := 160) hx hb dX7_judge_145 (by decide) (fun c20 => ?_) (fun c20 => ?_)
          · have hw := ifF hw c20
            refine lv_aload_n hx hb dX7_judge_160 rfl (lv_at hl 3 rfl) ?_
            refine g_0_4 E hh tb374 (E.hn 0 0 (by decide)) dX7_judge_161 ?_
            refine lv_iload hx hb dX7_judge_164 (lv_at hl 2 rfl) ?_
            refine lv_iload hx hb dX7_judge_166 (lv_at hl 1 rfl) ?_
            refine x_ci E.hA hh (x_runV E hh (mX5_saysNo E.hI E.hn (by decide) hw) kX5_saysNo tb457 (E.hn 10 1 (by decide)) rv_10 ⟨by decide, by decide⟩ rfl hl.1 rfl (Nat.le_of_ble_eq_true rfl) dX7_judge_168 ⟨Nat.zero_le _, Nat.zero_le _⟩) (fun r21 S21 H locs hw hh => ?_)
            have hq21 := hw.2
            have hw := hw.1
            refine lv_iload hx hb dX7_judge_171 (lv_at hl 0 rfl) ?_
            refine lv_iconst (v := 1) hx hb dX7_judge_173 (by decide) ?_
            refine lv_icmp_ne (tgt := 181) hx hb dX7_judge_174 (by decide) (fun c22 => ?_) (fun c22 => ?_)
            · have hw := ifF hw c22
              refine lv_iconst (v := 0) hx hb dX7_judge_181 (by decide) ?_
              exact bX7_judge_182 E (hu3) ih hw hh (lv_sub hl [3, 4, 5, 6, 7, 2, 1, 0] rfl)
            · have hw := ifT hw c22
              refine lv_iconst (v := 1) hx hb dX7_judge_177 (by decide) ?_
              refine lv_goto (tgt := 182) hx hb dX7_judge_178 (by decide) ?_
              exact bX7_judge_182 E (hu3) ih hw hh (lv_sub hl [3, 4, 5, 6, 7, 2, 1, 0] rfl)
          · have hw := ifT hw c20
            exact bX7_judge_148 E hw hh (lv_sub hl [4, 6, 7] rfl)
def wpX7_judge (x1 : Int32) (x2 : Int32) (S : St) (K : Int32 → St → Prop) : Prop := wpX7_isSheet x1 S (fun r1 S1 => if r1 = 0 then (K (-2) S1) else (wpX7_within x2 0 1 S1 (fun r3 S3 => if r3 = 0 then (K (-2) S3) else ((vp_in x1 4 ∧ wpX4_isMissing x1.toNatClampNeg S3 (fun r6 S6 => if r6 = 0 then (if ((S6.1 30 x1.toNatClampNeg 1) - (S6.1 30 x1.toNatClampNeg 1) / 3 * 3) = 0 then (wpX5_resemble 1 0 S6 (fun S9 => ∃ k, wbX7_judge_65 K x2 x1.toNatClampNeg k 0 0 S9)) else (K (-2) S6)) else (K (-11) S6)))))))
set_option maxRecDepth 4000 in
theorem bX7_judge {p : Program} {l : Launch} {e : Env} {R : Room} {s : State} {m : MethodId} {args : Array Value} {below : List Frame} {meth : Method} {c : Code} {D : va_G} {ad : Nat → Nat → Nat} {cs : Nat → ClassId} {P : Nat → Nat → Prop} {sz tU : Nat} {adK adV : Nat → Nat} {K : Int32 → St → Prop} {x1 : Int32} {x2 : Int32} {S : St} {H : Heap} {locs : List Loc} {ls : Array Slot} (E : Ex p s m args meth c R RX7 cX7_judge 9 (some .int) 5 152 D ad cs P (wA ad P) tU adK adV cnA) (hw : wpX7_judge x1 x2 S K) (hh : wH D ad cs P (wA ad P) s.heap sz S H locs) (hl : lv_has ls 9 [(0, .ref (ad 0 0)), (1, .int x1), (2, .int x2)]) : W p l e R s m args below meth c H locs 0 0 (MQ below (va_Qi K (QX D ad cs P sz) (wA ad P)) args s 0 0 (wA ad P)) (F0 m 0 ls []) := by
  have hx := E.hx
  have hb := E.hb
  refine lv_iload_n hx hb dX7_judge_0 rfl (lv_at hl 1 rfl) ?_
  refine x_ci E.hA hh (x_runS E hh (mX7_isSheet E.hI (fun _ _ h => absurd h (Nat.not_lt_zero _)) hw) kX7_isSheet tb621 ⟨by decide, by decide⟩ rfl hl.1 rfl (Nat.le_of_ble_eq_true rfl) dX7_judge_1 ⟨Nat.zero_le _, Nat.zero_le _⟩) (fun r1 S1 H locs hw hh => ?_)
  have hq1 := hw.2
  have hw := hw.1
  refine lv_if_eq (tgt := 16) hx hb dX7_judge_4 (by decide) (fun c2 => ?_) (fun c2 => ?_)
  · have hw := ifT hw c2
    refine lv_bipush (v := (-2)) hx hb dX7_judge_16 (by decide) ?_
    exact x_iret E hh hw dX7_judge_18
  · have hw := ifF hw c2
    refine lv_iload_n hx hb dX7_judge_7 rfl (lv_at hl 2 rfl) ?_
    refine lv_iconst (v := 0) hx hb dX7_judge_8 (by decide) ?_
    refine lv_iconst (v := 1) hx hb dX7_judge_9 (by decide) ?_
    refine x_ci E.hA hh (x_runS E hh (mX7_within E.hI (fun _ _ h => absurd h (Nat.not_lt_zero _)) hw) kX7_within tb405 ⟨by decide, by decide⟩ rfl hl.1 rfl (Nat.le_of_ble_eq_true rfl) dX7_judge_10 ⟨Nat.zero_le _, Nat.zero_le _⟩) (fun r3 S3 H locs hw hh => ?_)
    have hq3 := hw.2
    have hw := hw.1
    refine lv_if_ne (tgt := 19) hx hb dX7_judge_13 (by decide) (fun c4 => ?_) (fun c4 => ?_)
    · have hw := ifF hw c4
      refine lv_aload_n hx hb dX7_judge_19 rfl (lv_at hl 0 rfl) ?_
      refine g_0_9 E hh tb379 (E.hn 0 0 (by decide)) dX7_judge_20 ?_
      refine lv_iload_n hx hb dX7_judge_23 rfl (lv_at hl 1 rfl) ?_
      obtain ⟨hi5, hw⟩ := hw
      refine x_aald (to := 30) E hh (E.hn 29 0 (by decide)) (fun _ _ => rfl) rfl hi5 dX7_judge_24 ?_
      refine lv_astore_n (lv' := [(3, .ref (ad 30 x1.toNatClampNeg)), (0, .ref (ad 0 0)), (1, .int x1), (2, .int x2)]) hx hb dX7_judge_25 rfl hl (by decide) rfl (fun ls hl => ?_)
      refine lv_aload_n hx hb dX7_judge_26 rfl (lv_at hl 0 rfl) ?_
      refine x_ci E.hA hh (x_runV E hh (mX4_isMissing E.hI E.hn (vp_lt hi5) hw) kX4_isMissing tb624 (E.hn 30 x1.toNatClampNeg (vp_lt hi5)) rv_30 ⟨by decide, by decide⟩ rfl hl.1 rfl (Nat.le_of_ble_eq_true rfl) dX7_judge_27 ⟨Nat.zero_le _, Nat.zero_le _⟩) (fun r6 S6 H locs hw hh => ?_)
      have hq6 := hw.2
      have hw := hw.1
      refine lv_if_eq (tgt := 36) hx hb dX7_judge_30 (by decide) (fun c7 => ?_) (fun c7 => ?_)
      · have hw := ifT hw c7
        refine lv_aload_n hx hb dX7_judge_36 rfl (lv_at hl 0 rfl) ?_
        refine g_30_1 E hh tb154 (E.hn 30 x1.toNatClampNeg (vp_lt hi5)) dX7_judge_37 ?_
        refine lv_iconst (v := 3) hx hb dX7_judge_40 (by decide) ?_
        refine lv_irem hx hb dX7_judge_41 (by decide) ?_
        refine lv_if_eq (tgt := 48) hx hb dX7_judge_42 (by decide) (fun c8 => ?_) (fun c8 => ?_)
        · have hw := ifT hw c8
          refine lv_aload_n hx hb dX7_judge_48 rfl (lv_at hl 1 rfl) ?_
          refine g_0_4 E hh tb374 (E.hn 0 0 (by decide)) dX7_judge_49 ?_
          refine lv_aload_n hx hb dX7_judge_52 rfl (lv_at hl 1 rfl) ?_
          refine g_0_3 E hh tb373 (E.hn 0 0 (by decide)) dX7_judge_53 ?_
          refine x_cv E.hA hh (x_runV E hh (mX5_resemble E.hI E.hn (by decide) (by decide) hw) kX5_resemble tb543 (E.hn 10 1 (by decide)) rv_10 ⟨by decide, by decide⟩ rfl hl.1 rfl (Nat.le_of_ble_eq_true rfl) dX7_judge_56 ⟨Nat.zero_le _, Nat.zero_le _⟩) (fun S9 H locs hw hh => ?_)
          refine lv_iconst (v := 0) hx hb dX7_judge_59 (by decide) ?_
          refine lv_istore (lv' := [(4, .int 0), (3, .ref (ad 30 x1.toNatClampNeg)), (0, .ref (ad 0 0)), (1, .int x1), (2, .int x2)]) hx hb dX7_judge_60 hl (by decide) rfl (fun ls hl => ?_)
          refine lv_iconst (v := 0) hx hb dX7_judge_62 (by decide) ?_
          refine lv_istore (lv' := [(5, .int 0), (4, .int 0), (3, .ref (ad 30 x1.toNatClampNeg)), (0, .ref (ad 0 0)), (1, .int x1), (2, .int x2)]) hx hb dX7_judge_63 hl (by decide) rfl (fun ls hl => ?_)
          obtain ⟨k, hw⟩ := hw
          exact bX7_judge_65 E ((vp_lt hi5)) k 0 0 S9 _ _ _ hw hh (lv_sub hl [3, 5, 2, 1, 0] rfl)
        · have hw := ifF hw c8
          refine lv_bipush (v := (-2)) hx hb dX7_judge_45 (by decide) ?_
          exact x_iret E hh hw dX7_judge_47
      · have hw := ifF hw c7
        refine lv_bipush (v := (-11)) hx hb dX7_judge_33 (by decide) ?_
        exact x_iret E hh hw dX7_judge_35
    · have hw := ifT hw c4
      refine lv_bipush (v := (-2)) hx hb dX7_judge_16 (by decide) ?_
      exact x_iret E hh hw dX7_judge_18
theorem kX7_judge : kI yX7_judge cX7_judge 9 (some .int) 2 := ⟨tb651, tb652, tb1, tb653, by decide, by decide, by decide +kernel⟩
theorem mX7_judge {l : Launch} {D : va_G} {ad : Nat → Nat → Nat} {cs : Nat → ClassId} {P : Nat → Nat → Prop} {sz tU : Nat} {adK adV : Nat → Nat} {x1 : Int32} {x2 : Int32} {S : St} {K : Int32 → St → Prop} (hI : wI ad P) (hn : ∀ kd i, i < cnA kd → P kd i) (hw : wpX7_judge x1 x2 S K) : MI l yX7_judge cX7_judge 9 (some .int) 5 152 D ad cs P sz tU adK adV [.ref (ad 0 0), .int x1, .int x2] S K :=
  Met_of (by decide) (Nat.le_of_ble_eq_true rfl) hI hn (fun p e R s m args below meth c ls E hl hh => bX7_judge E  hw hh (lv_sub hl [0, 1, 2] rfl))
def wpX7_drawn (x1 : Int32) (S : St) (K : Int32 → St → Prop) : Prop := wpX5_resemble 1 0 S (fun S1 => wpX5_drawHers 1 x1 S1 (fun S2 => wpX1_tryAll 1 S2 (fun S3 => (vp_in 1 2 ∧ K (S3.1 19 0 (1 : Int32).toNatClampNeg) S3))))
set_option maxRecDepth 4000 in
theorem bX7_drawn {p : Program} {l : Launch} {e : Env} {R : Room} {s : State} {m : MethodId} {args : Array Value} {below : List Frame} {meth : Method} {c : Code} {D : va_G} {ad : Nat → Nat → Nat} {cs : Nat → ClassId} {P : Nat → Nat → Prop} {sz tU : Nat} {adK adV : Nat → Nat} {K : Int32 → St → Prop} {x1 : Int32} {S : St} {H : Heap} {locs : List Loc} {ls : Array Slot} (E : Ex p s m args meth c R RX7 cX7_drawn 2 (some .int) 13 354 D ad cs P (wA ad P) tU adK adV cnA) (hw : wpX7_drawn x1 S K) (hh : wH D ad cs P (wA ad P) s.heap sz S H locs) (hl : lv_has ls 2 [(0, .ref (ad 0 0)), (1, .int x1)]) : W p l e R s m args below meth c H locs 0 0 (MQ below (va_Qi K (QX D ad cs P sz) (wA ad P)) args s 0 0 (wA ad P)) (F0 m 0 ls []) := by
  have hx := E.hx
  have hb := E.hb
  refine lv_aload_n hx hb dX7_drawn_0 rfl (lv_at hl 0 rfl) ?_
  refine g_0_4 E hh tb374 (E.hn 0 0 (by decide)) dX7_drawn_1 ?_
  refine lv_aload_n hx hb dX7_drawn_4 rfl (lv_at hl 0 rfl) ?_
  refine g_0_3 E hh tb373 (E.hn 0 0 (by decide)) dX7_drawn_5 ?_
  refine x_cv E.hA hh (x_runV E hh (mX5_resemble E.hI E.hn (by decide) (by decide) hw) kX5_resemble tb543 (E.hn 10 1 (by decide)) rv_10 ⟨by decide, by decide⟩ rfl hl.1 rfl (Nat.le_of_ble_eq_true rfl) dX7_drawn_8 ⟨Nat.zero_le _, Nat.zero_le _⟩) (fun S1 H locs hw hh => ?_)
  refine lv_aload_n hx hb dX7_drawn_11 rfl (lv_at hl 0 rfl) ?_
  refine g_0_4 E hh tb374 (E.hn 0 0 (by decide)) dX7_drawn_12 ?_
  refine lv_iload_n hx hb dX7_drawn_15 rfl (lv_at hl 1 rfl) ?_
  refine x_cv E.hA hh (x_runV E hh (mX5_drawHers E.hI E.hn (by decide) hw) kX5_drawHers tb659 (E.hn 10 1 (by decide)) rv_10 ⟨by decide, by decide⟩ rfl hl.1 rfl (Nat.le_of_ble_eq_true rfl) dX7_drawn_16 ⟨Nat.zero_le _, Nat.zero_le _⟩) (fun S2 H locs hw hh => ?_)
  refine lv_aload_n hx hb dX7_drawn_19 rfl (lv_at hl 0 rfl) ?_
  refine g_0_7 E hh tb377 (E.hn 0 0 (by decide)) dX7_drawn_20 ?_
  refine lv_aload_n hx hb dX7_drawn_23 rfl (lv_at hl 0 rfl) ?_
  refine g_0_4 E hh tb374 (E.hn 0 0 (by decide)) dX7_drawn_24 ?_
  refine x_cv E.hA hh (x_runV E hh (mX1_tryAll E.hI E.hn (by decide) hw) kX1_tryAll tb584 (E.hn 18 0 (by decide)) rv_18 ⟨by decide, by decide⟩ rfl hl.1 rfl (Nat.le_of_ble_eq_true rfl) dX7_drawn_27 ⟨Nat.zero_le _, Nat.zero_le _⟩) (fun S3 H locs hw hh => ?_)
  refine lv_aload_n hx hb dX7_drawn_30 rfl (lv_at hl 0 rfl) ?_
  refine g_0_7 E hh tb377 (E.hn 0 0 (by decide)) dX7_drawn_31 ?_
  refine g_18_0 E hh tb75 (E.hn 18 0 (by decide)) dX7_drawn_34 ?_
  refine lv_iconst (v := 1) hx hb dX7_drawn_37 (by decide) ?_
  obtain ⟨hi4, hw⟩ := hw
  refine x_iald E hh (E.hn 19 0 (by decide)) ly_19 hi4 dX7_drawn_38 ?_
  exact x_iret E hh hw dX7_drawn_39
theorem kX7_drawn : kI yX7_drawn cX7_drawn 2 (some .int) 1 := ⟨tb656, tb657, tb1, tb658, by decide, by decide, by decide +kernel⟩
theorem mX7_drawn {l : Launch} {D : va_G} {ad : Nat → Nat → Nat} {cs : Nat → ClassId} {P : Nat → Nat → Prop} {sz tU : Nat} {adK adV : Nat → Nat} {x1 : Int32} {S : St} {K : Int32 → St → Prop} (hI : wI ad P) (hn : ∀ kd i, i < cnA kd → P kd i) (hw : wpX7_drawn x1 S K) : MI l yX7_drawn cX7_drawn 2 (some .int) 13 354 D ad cs P sz tU adK adV [.ref (ad 0 0), .int x1] S K :=
  Met_of (by decide) (Nat.le_of_ble_eq_true rfl) hI hn (fun p e R s m args below meth c ls E hl hh => bX7_drawn E  hw hh (lv_sub hl [0, 1] rfl))
def wbX7_chance_49 (R29 : Int32 → Int32 → St → Prop) (K : Int64 → St → Prop) (x1 : Int32) (x2 : Int32) (x3 : Int32) (x4 : Int32) (x5 : Int32) (S : St) : Prop := R29 x4 (x5 + 1) S
set_option maxRecDepth 4000 in
theorem bX7_chance_49 {p : Program} {l : Launch} {e : Env} {R : Room} {s : State} {m : MethodId} {args : Array Value} {below : List Frame} {meth : Method} {c : Code} {D : va_G} {ad : Nat → Nat → Nat} {cs : Nat → ClassId} {P : Nat → Nat → Prop} {sz tU : Nat} {adK adV : Nat → Nat} {R29 : Int32 → Int32 → St → Prop} {K : Int64 → St → Prop} {x1 : Int32} {x2 : Int32} {x3 : Int32} {x4 : Int32} {x5 : Int32} {S : St} {H : Heap} {locs : List Loc} {ls : Array Slot} (E : Ex p s m args meth c R RX7 cX7_chance 6 (some .long) 14 375 D ad cs P (wA ad P) tU adK adV cnA) (hR29 : ∀ (z4 : Int32) (z5 : Int32) (S : St) (H : Heap) (locs : List Loc) (ls : Array Slot), R29 z4 z5 S → wH D ad cs P (wA ad P) s.heap sz S H locs → lv_has ls 6 [(0, .ref (ad 0 0)), (1, .int x1), (2, .int x2), (3, .int x3), (4, .int z4), (5, .int z5)] → W p l e R s m args below meth c H locs 0 0 (MQ below (va_Ql K (QX D ad cs P sz) (wA ad P)) args s 0 0 (wA ad P)) (F0 m 29 ls [])) (hw : wbX7_chance_49 R29 K x1 x2 x3 x4 x5 S) (hh : wH D ad cs P (wA ad P) s.heap sz S H locs) (hl : lv_has ls 6 [(0, .ref (ad 0 0)), (1, .int x1), (2, .int x2), (3, .int x3), (4, .int x4), (5, .int x5)]) : W p l e R s m args below meth c H locs 0 0 (MQ below (va_Ql K (QX D ad cs P sz) (wA ad P)) args s 0 0 (wA ad P)) (F0 m 49 ls []) := by
  have hx := E.hx
  have hb := E.hb
  refine lv_iinc (k := 5) (v := x5 + 1) (lv' := [(5, .int (x5 + 1)), (0, .ref (ad 0 0)), (1, .int x1), (2, .int x2), (3, .int x3), (4, .int x4)]) hx hb dX7_chance_49 hl rfl rfl (by decide) rfl (fun ls hl => ?_)
  refine lv_goto (tgt := 29) hx hb dX7_chance_52 (by decide) ?_
  exact hR29 x4 (x5 + 1) S _ _ _ hw hh (lv_sub hl [1, 2, 3, 4, 5, 0] rfl)
def wbX7_chance_29 (K : Int64 → St → Prop) (x1 : Int32) (x2 : Int32) (x3 : Int32) : Nat → Int32 → Int32 → St → Prop
  | 0, _, _, _ => False
  | n + 1, x4, x5, S => if x2 ≤ x5 then (wpX7_commonDivisor x4 x2 S (fun r6 S6 => if x3 = 0 then ((¬ r6 = 0 ∧ K ((x4 / r6).toInt64) S6)) else ((¬ r6 = 0 ∧ K ((x2 / r6).toInt64) S6)))) else (wpX7_drawn (x1 + x5) S (fun r10 S10 => if r10 ≤ 0 then (wbX7_chance_49 (fun yx4 yx5 S9 => wbX7_chance_29 K x1 x2 x3 n yx4 yx5 S9) K x1 x2 x3 x4 x5 S10) else (wbX7_chance_49 (fun yx4 yx5 S9 => wbX7_chance_29 K x1 x2 x3 n yx4 yx5 S9) K x1 x2 x3 (x4 + 1) x5 S10)))
set_option maxRecDepth 4000 in
theorem bX7_chance_29 {p : Program} {l : Launch} {e : Env} {R : Room} {s : State} {m : MethodId} {args : Array Value} {below : List Frame} {meth : Method} {c : Code} {D : va_G} {ad : Nat → Nat → Nat} {cs : Nat → ClassId} {P : Nat → Nat → Prop} {sz tU : Nat} {adK adV : Nat → Nat} {K : Int64 → St → Prop} {x1 : Int32} {x2 : Int32} {x3 : Int32} (E : Ex p s m args meth c R RX7 cX7_chance 6 (some .long) 14 375 D ad cs P (wA ad P) tU adK adV cnA) : ∀ (n : Nat) (x4 : Int32) (x5 : Int32) (S : St) (H : Heap) (locs : List Loc) (ls : Array Slot), wbX7_chance_29 K x1 x2 x3 n x4 x5 S → wH D ad cs P (wA ad P) s.heap sz S H locs → lv_has ls 6 [(0, .ref (ad 0 0)), (1, .int x1), (2, .int x2), (3, .int x3), (4, .int x4), (5, .int x5)] → W p l e R s m args below meth c H locs 0 0 (MQ below (va_Ql K (QX D ad cs P sz) (wA ad P)) args s 0 0 (wA ad P)) (F0 m 29 ls []) := by
  have hx := E.hx
  have hb := E.hb
  intro n
  induction n with
  | zero => intro x4 x5 S H locs ls hw hh hl; exact hw.elim
  | succ n ih =>
    intro x4 x5 S H locs ls hw hh hl
    refine lv_iload hx hb dX7_chance_29 (lv_at hl 5 rfl) ?_
    refine lv_iload_n hx hb dX7_chance_31 rfl (lv_at hl 2 rfl) ?_
    refine lv_icmp_ge (tgt := 55) hx hb dX7_chance_32 (by decide) (fun c5 => ?_) (fun c5 => ?_)
    · have hw := ifT hw c5
      refine lv_iload hx hb dX7_chance_55 (lv_at hl 4 rfl) ?_
      refine lv_iload_n hx hb dX7_chance_57 rfl (lv_at hl 2 rfl) ?_
      refine x_ci E.hA hh (x_runS E hh (mX7_commonDivisor E.hI (fun _ _ h => absurd h (Nat.not_lt_zero _)) hw) kX7_commonDivisor tb670 ⟨by decide, by decide⟩ rfl hl.1 rfl (Nat.le_of_ble_eq_true rfl) dX7_chance_58 ⟨Nat.zero_le _, Nat.zero_le _⟩) (fun r6 S6 H locs hw hh => ?_)
      refine lv_istore (lv' := [(5, .int r6), (0, .ref (ad 0 0)), (1, .int x1), (2, .int x2), (3, .int x3), (4, .int x4)]) hx hb dX7_chance_61 hl (by decide) rfl (fun ls hl => ?_)
      refine lv_iload_n hx hb dX7_chance_63 rfl (lv_at hl 4 rfl) ?_
      refine lv_if_ne (tgt := 76) hx hb dX7_chance_64 (by decide) (fun c7 => ?_) (fun c7 => ?_)
      · have hw := ifF hw c7
        refine lv_iload_n hx hb dX7_chance_76 rfl (lv_at hl 3 rfl) ?_
        refine lv_iload hx hb dX7_chance_77 (lv_at hl 0 rfl) ?_
        obtain ⟨hz8, hw⟩ := hw
        refine lv_idiv hx hb dX7_chance_79 hz8 ?_
        refine lv_i2l hx hb dX7_chance_80 rfl ?_
        exact x_lret E hh hw dX7_chance_81
      · have hw := ifT hw c7
        refine lv_iload hx hb dX7_chance_67 (lv_at hl 5 rfl) ?_
        refine lv_iload hx hb dX7_chance_69 (lv_at hl 0 rfl) ?_
        obtain ⟨hz9, hw⟩ := hw
        refine lv_idiv hx hb dX7_chance_71 hz9 ?_
        refine lv_i2l hx hb dX7_chance_72 rfl ?_
        refine lv_goto (tgt := 81) hx hb dX7_chance_73 (by decide) ?_
        exact x_lret E hh hw dX7_chance_81
    · have hw := ifF hw c5
      refine lv_aload_n hx hb dX7_chance_35 rfl (lv_at hl 0 rfl) ?_
      refine lv_iload_n hx hb dX7_chance_36 rfl (lv_at hl 1 rfl) ?_
      refine lv_iload hx hb dX7_chance_37 (lv_at hl 5 rfl) ?_
      refine lv_iadd hx hb dX7_chance_39 ?_
      refine x_ci E.hA hh (x_runV E hh (mX7_drawn E.hI E.hn hw) kX7_drawn tb669 (E.hn 0 0 (by decide)) rv_0 ⟨by decide, by decide⟩ rfl hl.1 rfl (Nat.le_of_ble_eq_true rfl) dX7_chance_40 ⟨Nat.zero_le _, Nat.zero_le _⟩) (fun r10 S10 H locs hw hh => ?_)
      refine lv_if_le (tgt := 49) hx hb dX7_chance_43 (by decide) (fun c11 => ?_) (fun c11 => ?_)
      · have hw := ifT hw c11
        exact bX7_chance_49 E ih hw hh (lv_sub hl [0, 1, 2, 3, 4, 5] rfl)
      · have hw := ifF hw c11
        refine lv_iinc (k := 4) (v := x4 + 1) (lv' := [(4, .int (x4 + 1)), (0, .ref (ad 0 0)), (1, .int x1), (2, .int x2), (3, .int x3), (5, .int x5)]) hx hb dX7_chance_46 hl rfl rfl (by decide) rfl (fun ls hl => ?_)
        exact bX7_chance_49 E ih hw hh (lv_sub hl [1, 2, 3, 4, 0, 5] rfl)
def wpX7_chance (x1 : Int32) (x2 : Int32) (x3 : Int32) (S : St) (K : Int64 → St → Prop) : Prop := wpX7_within x2 1 20 S (fun r1 S1 => if r1 = 0 then (K (-4611686018427387904) S1) else (wpX7_within x3 0 1 S1 (fun r3 S3 => if r3 = 0 then (K (-4611686018427387904) S3) else (∃ k, wbX7_chance_29 K x1 x2 x3 k 0 0 S3))))
set_option maxRecDepth 4000 in
theorem bX7_chance {p : Program} {l : Launch} {e : Env} {R : Room} {s : State} {m : MethodId} {args : Array Value} {below : List Frame} {meth : Method} {c : Code} {D : va_G} {ad : Nat → Nat → Nat} {cs : Nat → ClassId} {P : Nat → Nat → Prop} {sz tU : Nat} {adK adV : Nat → Nat} {K : Int64 → St → Prop} {x1 : Int32} {x2 : Int32} {x3 : Int32} {S : St} {H : Heap} {locs : List Loc} {ls : Array Slot} (E : Ex p s m args meth c R RX7 cX7_chance 6 (some .long) 14 375 D ad cs P (wA ad P) tU adK adV cnA) (hw : wpX7_chance x1 x2 x3 S K) (hh : wH D ad cs P (wA ad P) s.heap sz S H locs) (hl : lv_has ls 6 [(0, .ref (ad 0 0)), (1, .int x1), (2, .int x2), (3, .int x3)]) : W p l e R s m args below meth c H locs 0 0 (MQ below (va_Ql K (QX D ad cs P sz) (wA ad P)) args s 0 0 (wA ad P)) (F0 m 0 ls []) := by
  have hx := E.hx
  have hb := E.hb
  refine lv_iload_n hx hb dX7_chance_0 rfl (lv_at hl 2 rfl) ?_
  refine lv_iconst (v := 1) hx hb dX7_chance_1 (by decide) ?_
  refine lv_bipush (v := 20) hx hb dX7_chance_2 (by decide) ?_
  refine x_ci E.hA hh (x_runS E hh (mX7_within E.hI (fun _ _ h => absurd h (Nat.not_lt_zero _)) hw) kX7_within tb405 ⟨by decide, by decide⟩ rfl hl.1 rfl (Nat.le_of_ble_eq_true rfl) dX7_chance_4 ⟨Nat.zero_le _, Nat.zero_le _⟩) (fun r1 S1 H locs hw hh => ?_)
  have hq1 := hw.2
  have hw := hw.1
  refine lv_if_eq (tgt := 19) hx hb dX7_chance_7 (by decide) (fun c2 => ?_) (fun c2 => ?_)
  · have hw := ifT hw c2
    refine lv_ldc2 (v := (-4611686018427387904)) hx hb E.hown (E.hts _ tb668) dX7_chance_19 ?_
    exact x_lret E hh hw dX7_chance_22
  · have hw := ifF hw c2
    refine lv_iload_n hx hb dX7_chance_10 rfl (lv_at hl 3 rfl) ?_
    refine lv_iconst (v := 0) hx hb dX7_chance_11 (by decide) ?_
    refine lv_iconst (v := 1) hx hb dX7_chance_12 (by decide) ?_
    refine x_ci E.hA hh (x_runS E hh (mX7_within E.hI (fun _ _ h => absurd h (Nat.not_lt_zero _)) hw) kX7_within tb405 ⟨by decide, by decide⟩ rfl hl.1 rfl (Nat.le_of_ble_eq_true rfl) dX7_chance_13 ⟨Nat.zero_le _, Nat.zero_le _⟩) (fun r3 S3 H locs hw hh => ?_)
    have hq3 := hw.2
    have hw := hw.1
    refine lv_if_ne (tgt := 23) hx hb dX7_chance_16 (by decide) (fun c4 => ?_) (fun c4 => ?_)
    · have hw := ifF hw c4
      refine lv_iconst (v := 0) hx hb dX7_chance_23 (by decide) ?_
      refine lv_istore (lv' := [(4, .int 0), (0, .ref (ad 0 0)), (1, .int x1), (2, .int x2), (3, .int x3)]) hx hb dX7_chance_24 hl (by decide) rfl (fun ls hl => ?_)
      refine lv_iconst (v := 0) hx hb dX7_chance_26 (by decide) ?_
      refine lv_istore (lv' := [(5, .int 0), (4, .int 0), (0, .ref (ad 0 0)), (1, .int x1), (2, .int x2), (3, .int x3)]) hx hb dX7_chance_27 hl (by decide) rfl (fun ls hl => ?_)
      obtain ⟨k, hw⟩ := hw
      exact bX7_chance_29 E k 0 0 S3 _ _ _ hw hh (lv_sub hl [2, 3, 4, 5, 1, 0] rfl)
    · have hw := ifT hw c4
      refine lv_ldc2 (v := (-4611686018427387904)) hx hb E.hown (E.hts _ tb668) dX7_chance_19 ?_
      exact x_lret E hh hw dX7_chance_22
theorem kX7_chance : kI yX7_chance cX7_chance 6 (some .long) 3 := ⟨tb665, tb666, tb1, tb667, by decide, by decide, by decide +kernel⟩
theorem mX7_chance {l : Launch} {D : va_G} {ad : Nat → Nat → Nat} {cs : Nat → ClassId} {P : Nat → Nat → Prop} {sz tU : Nat} {adK adV : Nat → Nat} {x1 : Int32} {x2 : Int32} {x3 : Int32} {S : St} {K : Int64 → St → Prop} (hI : wI ad P) (hn : ∀ kd i, i < cnA kd → P kd i) (hw : wpX7_chance x1 x2 x3 S K) : ML l yX7_chance cX7_chance 6 (some .long) 14 375 D ad cs P sz tU adK adV [.ref (ad 0 0), .int x1, .int x2, .int x3] S K :=
  Met_of (by decide) (Nat.le_of_ble_eq_true rfl) hI hn (fun p e R s m args below meth c ls E hl hh => bX7_chance E  hw hh (lv_sub hl [0, 1, 2, 3] rfl))
def wpX7_image (S : St) (K : Int32 → St → Prop) : Prop := wpX5_resemble 2 0 S (fun S1 => (∀ S2, S2 = su S1 0 0 6 1 → K (S2.1 10 0 0) S2))
set_option maxRecDepth 4000 in
theorem bX7_image {p : Program} {l : Launch} {e : Env} {R : Room} {s : State} {m : MethodId} {args : Array Value} {below : List Frame} {meth : Method} {c : Code} {D : va_G} {ad : Nat → Nat → Nat} {cs : Nat → ClassId} {P : Nat → Nat → Prop} {sz tU : Nat} {adK adV : Nat → Nat} {K : Int32 → St → Prop} {S : St} {H : Heap} {locs : List Loc} {ls : Array Slot} (E : Ex p s m args meth c R RX7 cX7_image 1 (some .int) 2 81 D ad cs P (wA ad P) tU adK adV cnA) (hw : wpX7_image S K) (hh : wH D ad cs P (wA ad P) s.heap sz S H locs) (hl : lv_has ls 1 [(0, .ref (ad 0 0))]) : W p l e R s m args below meth c H locs 0 0 (MQ below (va_Qi K (QX D ad cs P sz) (wA ad P)) args s 0 0 (wA ad P)) (F0 m 0 ls []) := by
  have hx := E.hx
  have hb := E.hb
  refine lv_aload_n hx hb dX7_image_0 rfl (lv_at hl 0 rfl) ?_
  refine g_0_5 E hh tb375 (E.hn 0 0 (by decide)) dX7_image_1 ?_
  refine lv_aload_n hx hb dX7_image_4 rfl (lv_at hl 0 rfl) ?_
  refine g_0_3 E hh tb373 (E.hn 0 0 (by decide)) dX7_image_5 ?_
  refine x_cv E.hA hh (x_runV E hh (mX5_resemble E.hI E.hn (by decide) (by decide) hw) kX5_resemble tb543 (E.hn 10 2 (by decide)) rv_10 ⟨by decide, by decide⟩ rfl hl.1 rfl (Nat.le_of_ble_eq_true rfl) dX7_image_8 ⟨Nat.zero_le _, Nat.zero_le _⟩) (fun S1 H locs hw hh => ?_)
  refine lv_aload_n hx hb dX7_image_11 rfl (lv_at hl 0 rfl) ?_
  refine lv_iconst (v := 1) hx hb dX7_image_12 (by decide) ?_
  refine p_0_6 E hh tb376 (E.hn 0 0 (by decide)) rfl rfl dX7_image_13 (fun S2 H locs e2 hh => ?_)
  have hw := hw S2 e2
  refine lv_aload_n hx hb dX7_image_16 rfl (lv_at hl 0 rfl) ?_
  refine g_0_3 E hh tb373 (E.hn 0 0 (by decide)) dX7_image_17 ?_
  refine g_10_0 E hh tb310 (E.hn 10 0 (by decide)) dX7_image_20 ?_
  exact x_iret E hh hw dX7_image_23
theorem kX7_image : kI yX7_image cX7_image 1 (some .int) 0 := ⟨tb674, tb675, tb1, tb676, by decide, by decide, by decide +kernel⟩
theorem mX7_image {l : Launch} {D : va_G} {ad : Nat → Nat → Nat} {cs : Nat → ClassId} {P : Nat → Nat → Prop} {sz tU : Nat} {adK adV : Nat → Nat} {S : St} {K : Int32 → St → Prop} (hI : wI ad P) (hn : ∀ kd i, i < cnA kd → P kd i) (hw : wpX7_image S K) : MI l yX7_image cX7_image 1 (some .int) 2 81 D ad cs P sz tU adK adV [.ref (ad 0 0)] S K :=
  Met_of (by decide) (Nat.le_of_ble_eq_true rfl) hI hn (fun p e R s m args below meth c ls E hl hh => bX7_image E  hw hh (lv_sub hl [0] rfl))
def wpX7_back (S : St) (K : Int32 → St → Prop) : Prop := if (S.1 0 0 6) = 0 then (K (-3) S) else (wpX5_resemble 0 2 S (fun S2 => K (S2.1 10 0 0) S2))
set_option maxRecDepth 4000 in
theorem bX7_back {p : Program} {l : Launch} {e : Env} {R : Room} {s : State} {m : MethodId} {args : Array Value} {below : List Frame} {meth : Method} {c : Code} {D : va_G} {ad : Nat → Nat → Nat} {cs : Nat → ClassId} {P : Nat → Nat → Prop} {sz tU : Nat} {adK adV : Nat → Nat} {K : Int32 → St → Prop} {S : St} {H : Heap} {locs : List Loc} {ls : Array Slot} (E : Ex p s m args meth c R RX7 cX7_back 1 (some .int) 2 81 D ad cs P (wA ad P) tU adK adV cnA) (hw : wpX7_back S K) (hh : wH D ad cs P (wA ad P) s.heap sz S H locs) (hl : lv_has ls 1 [(0, .ref (ad 0 0))]) : W p l e R s m args below meth c H locs 0 0 (MQ below (va_Qi K (QX D ad cs P sz) (wA ad P)) args s 0 0 (wA ad P)) (F0 m 0 ls []) := by
  have hx := E.hx
  have hb := E.hb
  refine lv_aload_n hx hb dX7_back_0 rfl (lv_at hl 0 rfl) ?_
  refine g_0_6 E hh tb376 (E.hn 0 0 (by decide)) dX7_back_1 ?_
  refine lv_if_ne (tgt := 10) hx hb dX7_back_4 (by decide) (fun c1 => ?_) (fun c1 => ?_)
  · have hw := ifF hw c1
    refine lv_aload_n hx hb dX7_back_10 rfl (lv_at hl 0 rfl) ?_
    refine g_0_3 E hh tb373 (E.hn 0 0 (by decide)) dX7_back_11 ?_
    refine lv_aload_n hx hb dX7_back_14 rfl (lv_at hl 0 rfl) ?_
    refine g_0_5 E hh tb375 (E.hn 0 0 (by decide)) dX7_back_15 ?_
    refine x_cv E.hA hh (x_runV E hh (mX5_resemble E.hI E.hn (by decide) (by decide) hw) kX5_resemble tb543 (E.hn 10 0 (by decide)) rv_10 ⟨by decide, by decide⟩ rfl hl.1 rfl (Nat.le_of_ble_eq_true rfl) dX7_back_18 ⟨Nat.zero_le _, Nat.zero_le _⟩) (fun S2 H locs hw hh => ?_)
    refine lv_aload_n hx hb dX7_back_21 rfl (lv_at hl 0 rfl) ?_
    refine g_0_3 E hh tb373 (E.hn 0 0 (by decide)) dX7_back_22 ?_
    refine g_10_0 E hh tb310 (E.hn 10 0 (by decide)) dX7_back_25 ?_
    exact x_iret E hh hw dX7_back_28
  · have hw := ifT hw c1
    refine lv_bipush (v := (-3)) hx hb dX7_back_7 (by decide) ?_
    exact x_iret E hh hw dX7_back_9
theorem kX7_back : kI yX7_back cX7_back 1 (some .int) 0 := ⟨tb678, tb679, tb1, tb680, by decide, by decide, by decide +kernel⟩
theorem mX7_back {l : Launch} {D : va_G} {ad : Nat → Nat → Nat} {cs : Nat → ClassId} {P : Nat → Nat → Prop} {sz tU : Nat} {adK adV : Nat → Nat} {S : St} {K : Int32 → St → Prop} (hI : wI ad P) (hn : ∀ kd i, i < cnA kd → P kd i) (hw : wpX7_back S K) : MI l yX7_back cX7_back 1 (some .int) 2 81 D ad cs P sz tU adK adV [.ref (ad 0 0)] S K :=
  Met_of (by decide) (Nat.le_of_ble_eq_true rfl) hI hn (fun p e R s m args below meth c ls E hl hh => bX7_back E  hw hh (lv_sub hl [0] rfl))
def wpX7_count (x1 : Int32) (S : St) (K : Int32 → St → Prop) : Prop := (if x1 = 0 then (K (S.1 10 0 0) S) else (if x1 = 1 then (K (S.1 10 0 1) S) else (if x1 = 2 then (wpX5_marriedMen 0 S (fun r4 S4 => K r4 S4)) else (if x1 = 3 then (K (S.1 10 0 2) S) else (if x1 = 4 then (K (S.1 0 0 2) S) else (if x1 = 5 then (K (S.1 1 0 2) S) else (if x1 = 6 then (((S.1 10 0 3).toNatClampNeg < 6 ∧ K (nI ((S.1 10 0 3).toNatClampNeg)) S)) else (K (-2) S))))))))
set_option maxRecDepth 4000 in
theorem bX7_count {p : Program} {l : Launch} {e : Env} {R : Room} {s : State} {m : MethodId} {args : Array Value} {below : List Frame} {meth : Method} {c : Code} {D : va_G} {ad : Nat → Nat → Nat} {cs : Nat → ClassId} {P : Nat → Nat → Prop} {sz tU : Nat} {adK adV : Nat → Nat} {K : Int32 → St → Prop} {x1 : Int32} {S : St} {H : Heap} {locs : List Loc} {ls : Array Slot} (E : Ex p s m args meth c R RX7 cX7_count 2 (some .int) 2 82 D ad cs P (wA ad P) tU adK adV cnA) (hw : wpX7_count x1 S K) (hh : wH D ad cs P (wA ad P) s.heap sz S H locs) (hl : lv_has ls 2 [(0, .ref (ad 0 0)), (1, .int x1)]) : W p l e R s m args below meth c H locs 0 0 (MQ below (va_Qi K (QX D ad cs P sz) (wA ad P)) args s 0 0 (wA ad P)) (F0 m 0 ls []) := by
  have hx := E.hx
  have hb := E.hb
  refine lv_iload_n hx hb dX7_count_0 rfl (lv_at hl 1 rfl) ?_
  by_cases c1 : x1 = 0
  · have hw := ifT hw c1
    refine lv_tableIn (tgt := 44) hx hb dX7_count_1 (by rw [c1] <;> decide) (by rw [c1] <;> decide) (by rw [c1] <;> rfl) (by decide) ?_
    refine lv_aload_n hx hb dX7_count_44 rfl (lv_at hl 0 rfl) ?_
    refine g_0_3 E hh tb373 (E.hn 0 0 (by decide)) dX7_count_45 ?_
    refine g_10_0 E hh tb310 (E.hn 10 0 (by decide)) dX7_count_48 ?_
    exact x_iret E hh hw dX7_count_51
  have hw := ifF hw c1
  by_cases c2 : x1 = 1
  · have hw := ifT hw c2
    refine lv_tableIn (tgt := 52) hx hb dX7_count_1 (by rw [c2] <;> decide) (by rw [c2] <;> decide) (by rw [c2] <;> rfl) (by decide) ?_
    refine lv_aload_n hx hb dX7_count_52 rfl (lv_at hl 0 rfl) ?_
    refine g_0_3 E hh tb373 (E.hn 0 0 (by decide)) dX7_count_53 ?_
    refine g_10_1 E hh tb313 (E.hn 10 0 (by decide)) dX7_count_56 ?_
    exact x_iret E hh hw dX7_count_59
  have hw := ifF hw c2
  by_cases c3 : x1 = 2
  · have hw := ifT hw c3
    refine lv_tableIn (tgt := 60) hx hb dX7_count_1 (by rw [c3] <;> decide) (by rw [c3] <;> decide) (by rw [c3] <;> rfl) (by decide) ?_
    refine lv_aload_n hx hb dX7_count_60 rfl (lv_at hl 0 rfl) ?_
    refine g_0_3 E hh tb373 (E.hn 0 0 (by decide)) dX7_count_61 ?_
    refine x_ci E.hA hh (x_runV E hh (mX5_marriedMen E.hI E.hn (by decide) hw) kX5_marriedMen tb646 (E.hn 10 0 (by decide)) rv_10 ⟨by decide, by decide⟩ rfl hl.1 rfl (Nat.le_of_ble_eq_true rfl) dX7_count_64 ⟨Nat.zero_le _, Nat.zero_le _⟩) (fun r4 S4 H locs hw hh => ?_)
    exact x_iret E hh hw dX7_count_67
  have hw := ifF hw c3
  by_cases c5 : x1 = 3
  · have hw := ifT hw c5
    refine lv_tableIn (tgt := 68) hx hb dX7_count_1 (by rw [c5] <;> decide) (by rw [c5] <;> decide) (by rw [c5] <;> rfl) (by decide) ?_
    refine lv_aload_n hx hb dX7_count_68 rfl (lv_at hl 0 rfl) ?_
    refine g_0_3 E hh tb373 (E.hn 0 0 (by decide)) dX7_count_69 ?_
    refine g_10_2 E hh tb318 (E.hn 10 0 (by decide)) dX7_count_72 ?_
    exact x_iret E hh hw dX7_count_75
  have hw := ifF hw c5
  by_cases c6 : x1 = 4
  · have hw := ifT hw c6
    refine lv_tableIn (tgt := 76) hx hb dX7_count_1 (by rw [c6] <;> decide) (by rw [c6] <;> decide) (by rw [c6] <;> rfl) (by decide) ?_
    refine lv_aload_n hx hb dX7_count_76 rfl (lv_at hl 0 rfl) ?_
    refine g_0_2 E hh tb372 (E.hn 0 0 (by decide)) dX7_count_77 ?_
    exact x_iret E hh hw dX7_count_80
  have hw := ifF hw c6
  by_cases c7 : x1 = 5
  · have hw := ifT hw c7
    refine lv_tableIn (tgt := 81) hx hb dX7_count_1 (by rw [c7] <;> decide) (by rw [c7] <;> decide) (by rw [c7] <;> rfl) (by decide) ?_
    refine lv_aload_n hx hb dX7_count_81 rfl (lv_at hl 0 rfl) ?_
    refine g_0_0 E hh tb370 (E.hn 0 0 (by decide)) dX7_count_82 ?_
    refine g_1_2 E hh tb36 (E.hn 1 0 (by decide)) dX7_count_85 ?_
    exact x_iret E hh hw dX7_count_88
  have hw := ifF hw c7
  by_cases c8 : x1 = 6
  · have hw := ifT hw c8
    refine lv_tableIn (tgt := 89) hx hb dX7_count_1 (by rw [c8] <;> decide) (by rw [c8] <;> decide) (by rw [c8] <;> rfl) (by decide) ?_
    refine lv_aload_n hx hb dX7_count_89 rfl (lv_at hl 0 rfl) ?_
    refine g_0_3 E hh tb373 (E.hn 0 0 (by decide)) dX7_count_90 ?_
    obtain ⟨hl9, hw⟩ := hw
    refine g_10_3 E hh tb320 (E.hn 10 0 (by decide)) dX7_count_93 ?_
    refine g_6_0 E hh tb133 (E.hn 6 ((S.1 10 0 3).toNatClampNeg) hl9) dX7_count_96 ?_
    exact x_iret E hh hw dX7_count_99
  have hw := ifF hw c8
  refine lv_tableOut (tgt := 100) hx hb dX7_count_1 (by have n0 := lv_neT c1 (a := 0) rfl; have n1 := lv_neT c2 (a := 1) rfl; have n2 := lv_neT c3 (a := 2) rfl; have n3 := lv_neT c5 (a := 3) rfl; have n4 := lv_neT c6 (a := 4) rfl; have n5 := lv_neT c7 (a := 5) rfl; have n6 := lv_neT c8 (a := 6) rfl; omega) (by decide) ?_
  refine lv_bipush (v := (-2)) hx hb dX7_count_100 (by decide) ?_
  exact x_iret E hh hw dX7_count_102
theorem kX7_count : kI yX7_count cX7_count 2 (some .int) 1 := ⟨tb682, tb683, tb1, tb684, by decide, by decide, by decide +kernel⟩
theorem mX7_count {l : Launch} {D : va_G} {ad : Nat → Nat → Nat} {cs : Nat → ClassId} {P : Nat → Nat → Prop} {sz tU : Nat} {adK adV : Nat → Nat} {x1 : Int32} {S : St} {K : Int32 → St → Prop} (hI : wI ad P) (hn : ∀ kd i, i < cnA kd → P kd i) (hw : wpX7_count x1 S K) : MI l yX7_count cX7_count 2 (some .int) 2 82 D ad cs P sz tU adK adV [.ref (ad 0 0), .int x1] S K :=
  Met_of (by decide) (Nat.le_of_ble_eq_true rfl) hI hn (fun p e R s m args below meth c ls E hl hh => bX7_count E  hw hh (lv_sub hl [0, 1] rfl))
def wpX7_sheet (x1 : Int32) (x2 : Int32) (x3 : Int32) (S : St) (K : Int32 → St → Prop) : Prop := wpX7_isSheet x1 S (fun r1 S1 => if r1 = 0 then (K (-2) S1) else (wpX7_within x2 (-1) 2 S1 (fun r3 S3 => if r3 = 0 then (K (-2) S3) else (if x2 = (-1) then ((vp_in x1 4 ∧ wpX4_lay x1.toNatClampNeg x2 0 S3 (fun S11 => K 1 S11))) else (if x3 ≤ 40 then (if 0 ≤ x3 then ((vp_in x1 4 ∧ wpX4_lay x1.toNatClampNeg x2 x3 S3 (fun S9 => K 1 S9))) else (K (-14) S3)) else (K (-2) S3))))))
set_option maxRecDepth 4000 in
theorem bX7_sheet {p : Program} {l : Launch} {e : Env} {R : Room} {s : State} {m : MethodId} {args : Array Value} {below : List Frame} {meth : Method} {c : Code} {D : va_G} {ad : Nat → Nat → Nat} {cs : Nat → ClassId} {P : Nat → Nat → Prop} {sz tU : Nat} {adK adV : Nat → Nat} {K : Int32 → St → Prop} {x1 : Int32} {x2 : Int32} {x3 : Int32} {S : St} {H : Heap} {locs : List Loc} {ls : Array Slot} (E : Ex p s m args meth c R RX7 cX7_sheet 4 (some .int) 3 105 D ad cs P (wA ad P) tU adK adV cnA) (hw : wpX7_sheet x1 x2 x3 S K) (hh : wH D ad cs P (wA ad P) s.heap sz S H locs) (hl : lv_has ls 4 [(0, .ref (ad 0 0)), (1, .int x1), (2, .int x2), (3, .int x3)]) : W p l e R s m args below meth c H locs 0 0 (MQ below (va_Qi K (QX D ad cs P sz) (wA ad P)) args s 0 0 (wA ad P)) (F0 m 0 ls []) := by
  have hx := E.hx
  have hb := E.hb
  refine lv_iload_n hx hb dX7_sheet_0 rfl (lv_at hl 1 rfl) ?_
  refine x_ci E.hA hh (x_runS E hh (mX7_isSheet E.hI (fun _ _ h => absurd h (Nat.not_lt_zero _)) hw) kX7_isSheet tb621 ⟨by decide, by decide⟩ rfl hl.1 rfl (Nat.le_of_ble_eq_true rfl) dX7_sheet_1 ⟨Nat.zero_le _, Nat.zero_le _⟩) (fun r1 S1 H locs hw hh => ?_)
  have hq1 := hw.2
  have hw := hw.1
  refine lv_if_eq (tgt := 16) hx hb dX7_sheet_4 (by decide) (fun c2 => ?_) (fun c2 => ?_)
  · have hw := ifT hw c2
    refine lv_bipush (v := (-2)) hx hb dX7_sheet_16 (by decide) ?_
    exact x_iret E hh hw dX7_sheet_18
  · have hw := ifF hw c2
    refine lv_iload_n hx hb dX7_sheet_7 rfl (lv_at hl 2 rfl) ?_
    refine lv_iconst (v := (-1)) hx hb dX7_sheet_8 (by decide) ?_
    refine lv_iconst (v := 2) hx hb dX7_sheet_9 (by decide) ?_
    refine x_ci E.hA hh (x_runS E hh (mX7_within E.hI (fun _ _ h => absurd h (Nat.not_lt_zero _)) hw) kX7_within tb405 ⟨by decide, by decide⟩ rfl hl.1 rfl (Nat.le_of_ble_eq_true rfl) dX7_sheet_10 ⟨Nat.zero_le _, Nat.zero_le _⟩) (fun r3 S3 H locs hw hh => ?_)
    have hq3 := hw.2
    have hw := hw.1
    refine lv_if_ne (tgt := 19) hx hb dX7_sheet_13 (by decide) (fun c4 => ?_) (fun c4 => ?_)
    · have hw := ifF hw c4
      refine lv_iload_n hx hb dX7_sheet_19 rfl (lv_at hl 2 rfl) ?_
      refine lv_iconst (v := (-1)) hx hb dX7_sheet_20 (by decide) ?_
      refine lv_icmp_ne (tgt := 37) hx hb dX7_sheet_21 (by decide) (fun c5 => ?_) (fun c5 => ?_)
      · have hw := ifF hw c5
        refine lv_iload_n hx hb dX7_sheet_37 rfl (lv_at hl 3 rfl) ?_
        refine lv_bipush (v := 40) hx hb dX7_sheet_38 (by decide) ?_
        refine lv_icmp_le (tgt := 46) hx hb dX7_sheet_40 (by decide) (fun c6 => ?_) (fun c6 => ?_)
        · have hw := ifT hw c6
          refine lv_iload_n hx hb dX7_sheet_46 rfl (lv_at hl 3 rfl) ?_
          refine lv_if_ge (tgt := 53) hx hb dX7_sheet_47 (by decide) (fun c7 => ?_) (fun c7 => ?_)
          · have hw := ifT hw c7
            refine lv_aload_n hx hb dX7_sheet_53 rfl (lv_at hl 0 rfl) ?_
            refine g_0_9 E hh tb379 (E.hn 0 0 (by decide)) dX7_sheet_54 ?_
            refine lv_iload_n hx hb dX7_sheet_57 rfl (lv_at hl 1 rfl) ?_
            obtain ⟨hi8, hw⟩ := hw
            refine x_aald (to := 30) E hh (E.hn 29 0 (by decide)) (fun _ _ => rfl) rfl hi8 dX7_sheet_58 ?_
            refine lv_iload_n hx hb dX7_sheet_59 rfl (lv_at hl 2 rfl) ?_
            refine lv_iload_n hx hb dX7_sheet_60 rfl (lv_at hl 3 rfl) ?_
            refine x_cv E.hA hh (x_runV E hh (mX4_lay E.hI E.hn (vp_lt hi8) hw) kX4_lay tb689 (E.hn 30 x1.toNatClampNeg (vp_lt hi8)) rv_30 ⟨by decide, by decide⟩ rfl hl.1 rfl (Nat.le_of_ble_eq_true rfl) dX7_sheet_61 ⟨Nat.zero_le _, Nat.zero_le _⟩) (fun S9 H locs hw hh => ?_)
            refine lv_iconst (v := 1) hx hb dX7_sheet_64 (by decide) ?_
            exact x_iret E hh hw dX7_sheet_65
          · have hw := ifF hw c7
            refine lv_bipush (v := (-14)) hx hb dX7_sheet_50 (by decide) ?_
            exact x_iret E hh hw dX7_sheet_52
        · have hw := ifF hw c6
          refine lv_bipush (v := (-2)) hx hb dX7_sheet_43 (by decide) ?_
          exact x_iret E hh hw dX7_sheet_45
      · have hw := ifT hw c5
        refine lv_aload_n hx hb dX7_sheet_24 rfl (lv_at hl 0 rfl) ?_
        refine g_0_9 E hh tb379 (E.hn 0 0 (by decide)) dX7_sheet_25 ?_
        refine lv_iload_n hx hb dX7_sheet_28 rfl (lv_at hl 1 rfl) ?_
        obtain ⟨hi10, hw⟩ := hw
        refine x_aald (to := 30) E hh (E.hn 29 0 (by decide)) (fun _ _ => rfl) rfl hi10 dX7_sheet_29 ?_
        refine lv_iload_n hx hb dX7_sheet_30 rfl (lv_at hl 2 rfl) ?_
        refine lv_iconst (v := 0) hx hb dX7_sheet_31 (by decide) ?_
        refine x_cv E.hA hh (x_runV E hh (mX4_lay E.hI E.hn (vp_lt hi10) hw) kX4_lay tb689 (E.hn 30 x1.toNatClampNeg (vp_lt hi10)) rv_30 ⟨by decide, by decide⟩ rfl hl.1 rfl (Nat.le_of_ble_eq_true rfl) dX7_sheet_32 ⟨Nat.zero_le _, Nat.zero_le _⟩) (fun S11 H locs hw hh => ?_)
        refine lv_iconst (v := 1) hx hb dX7_sheet_35 (by decide) ?_
        exact x_iret E hh hw dX7_sheet_36
    · have hw := ifT hw c4
      refine lv_bipush (v := (-2)) hx hb dX7_sheet_16 (by decide) ?_
      exact x_iret E hh hw dX7_sheet_18
theorem kX7_sheet : kI yX7_sheet cX7_sheet 4 (some .int) 3 := ⟨tb686, tb687, tb1, tb688, by decide, by decide, by decide +kernel⟩
theorem mX7_sheet {l : Launch} {D : va_G} {ad : Nat → Nat → Nat} {cs : Nat → ClassId} {P : Nat → Nat → Prop} {sz tU : Nat} {adK adV : Nat → Nat} {x1 : Int32} {x2 : Int32} {x3 : Int32} {S : St} {K : Int32 → St → Prop} (hI : wI ad P) (hn : ∀ kd i, i < cnA kd → P kd i) (hw : wpX7_sheet x1 x2 x3 S K) : MI l yX7_sheet cX7_sheet 4 (some .int) 3 105 D ad cs P sz tU adK adV [.ref (ad 0 0), .int x1, .int x2, .int x3] S K :=
  Met_of (by decide) (Nat.le_of_ble_eq_true rfl) hI hn (fun p e R s m args below meth c ls E hl hh => bX7_sheet E  hw hh (lv_sub hl [0, 1, 2, 3] rfl))
def wpX7_cell (x1 : Int32) (x2 : Int32) (x3 : Int32) (S : St) (K : Int32 → St → Prop) : Prop := wpX7_isSheet x1 S (fun r1 S1 => if r1 = 0 then (K (-2) S1) else ((vp_in x1 4 ∧ wpX4_isMissing x1.toNatClampNeg S1 (fun r4 S4 => if r4 = 0 then (wpX4_holds x1.toNatClampNeg x2 1 S4 (fun r6 S6 => if r6 = 0 then (K (-12) S6) else (wpX4_put x1.toNatClampNeg x2 x3 S6 (fun S8 => K 1 S8)))) else (K (-11) S4)))))
set_option maxRecDepth 4000 in
theorem bX7_cell {p : Program} {l : Launch} {e : Env} {R : Room} {s : State} {m : MethodId} {args : Array Value} {below : List Frame} {meth : Method} {c : Code} {D : va_G} {ad : Nat → Nat → Nat} {cs : Nat → ClassId} {P : Nat → Nat → Prop} {sz tU : Nat} {adK adV : Nat → Nat} {K : Int32 → St → Prop} {x1 : Int32} {x2 : Int32} {x3 : Int32} {S : St} {H : Heap} {locs : List Loc} {ls : Array Slot} (E : Ex p s m args meth c R RX7 cX7_cell 5 (some .int) 3 102 D ad cs P (wA ad P) tU adK adV cnA) (hw : wpX7_cell x1 x2 x3 S K) (hh : wH D ad cs P (wA ad P) s.heap sz S H locs) (hl : lv_has ls 5 [(0, .ref (ad 0 0)), (1, .int x1), (2, .int x2), (3, .int x3)]) : W p l e R s m args below meth c H locs 0 0 (MQ below (va_Qi K (QX D ad cs P sz) (wA ad P)) args s 0 0 (wA ad P)) (F0 m 0 ls []) := by
  have hx := E.hx
  have hb := E.hb
  refine lv_iload_n hx hb dX7_cell_0 rfl (lv_at hl 1 rfl) ?_
  refine x_ci E.hA hh (x_runS E hh (mX7_isSheet E.hI (fun _ _ h => absurd h (Nat.not_lt_zero _)) hw) kX7_isSheet tb621 ⟨by decide, by decide⟩ rfl hl.1 rfl (Nat.le_of_ble_eq_true rfl) dX7_cell_1 ⟨Nat.zero_le _, Nat.zero_le _⟩) (fun r1 S1 H locs hw hh => ?_)
  have hq1 := hw.2
  have hw := hw.1
  refine lv_if_ne (tgt := 10) hx hb dX7_cell_4 (by decide) (fun c2 => ?_) (fun c2 => ?_)
  · have hw := ifF hw c2
    refine lv_aload_n hx hb dX7_cell_10 rfl (lv_at hl 0 rfl) ?_
    refine g_0_9 E hh tb379 (E.hn 0 0 (by decide)) dX7_cell_11 ?_
    refine lv_iload_n hx hb dX7_cell_14 rfl (lv_at hl 1 rfl) ?_
    obtain ⟨hi3, hw⟩ := hw
    refine x_aald (to := 30) E hh (E.hn 29 0 (by decide)) (fun _ _ => rfl) rfl hi3 dX7_cell_15 ?_
    refine lv_astore (lv' := [(4, .ref (ad 30 x1.toNatClampNeg)), (0, .ref (ad 0 0)), (1, .int x1), (2, .int x2), (3, .int x3)]) hx hb dX7_cell_16 hl (by decide) rfl (fun ls hl => ?_)
    refine lv_aload hx hb dX7_cell_18 (lv_at hl 0 rfl) ?_
    refine x_ci E.hA hh (x_runV E hh (mX4_isMissing E.hI E.hn (vp_lt hi3) hw) kX4_isMissing tb624 (E.hn 30 x1.toNatClampNeg (vp_lt hi3)) rv_30 ⟨by decide, by decide⟩ rfl hl.1 rfl (Nat.le_of_ble_eq_true rfl) dX7_cell_20 ⟨Nat.zero_le _, Nat.zero_le _⟩) (fun r4 S4 H locs hw hh => ?_)
    have hq4 := hw.2
    have hw := hw.1
    refine lv_if_eq (tgt := 29) hx hb dX7_cell_23 (by decide) (fun c5 => ?_) (fun c5 => ?_)
    · have hw := ifT hw c5
      refine lv_aload hx hb dX7_cell_29 (lv_at hl 0 rfl) ?_
      refine lv_iload_n hx hb dX7_cell_31 rfl (lv_at hl 3 rfl) ?_
      refine lv_iconst (v := 1) hx hb dX7_cell_32 (by decide) ?_
      refine x_ci E.hA hh (x_runV E hh (mX4_holds E.hI E.hn (vp_lt hi3) hw) kX4_holds tb698 (E.hn 30 x1.toNatClampNeg (vp_lt hi3)) rv_30 ⟨by decide, by decide⟩ rfl hl.1 rfl (Nat.le_of_ble_eq_true rfl) dX7_cell_33 ⟨Nat.zero_le _, Nat.zero_le _⟩) (fun r6 S6 H locs hw hh => ?_)
      have hq6 := hw.2
      have hw := hw.1
      refine lv_if_ne (tgt := 42) hx hb dX7_cell_36 (by decide) (fun c7 => ?_) (fun c7 => ?_)
      · have hw := ifF hw c7
        refine lv_aload hx hb dX7_cell_42 (lv_at hl 0 rfl) ?_
        refine lv_iload_n hx hb dX7_cell_44 rfl (lv_at hl 3 rfl) ?_
        refine lv_iload_n hx hb dX7_cell_45 rfl (lv_at hl 4 rfl) ?_
        refine x_cv E.hA hh (x_runV E hh (mX4_put E.hI E.hn (vp_lt hi3) hw) kX4_put tb702 (E.hn 30 x1.toNatClampNeg (vp_lt hi3)) rv_30 ⟨by decide, by decide⟩ rfl hl.1 rfl (Nat.le_of_ble_eq_true rfl) dX7_cell_46 ⟨Nat.zero_le _, Nat.zero_le _⟩) (fun S8 H locs hw hh => ?_)
        refine lv_iconst (v := 1) hx hb dX7_cell_49 (by decide) ?_
        exact x_iret E hh hw dX7_cell_50
      · have hw := ifT hw c7
        refine lv_bipush (v := (-12)) hx hb dX7_cell_39 (by decide) ?_
        exact x_iret E hh hw dX7_cell_41
    · have hw := ifF hw c5
      refine lv_bipush (v := (-11)) hx hb dX7_cell_26 (by decide) ?_
      exact x_iret E hh hw dX7_cell_28
  · have hw := ifT hw c2
    refine lv_bipush (v := (-2)) hx hb dX7_cell_7 (by decide) ?_
    exact x_iret E hh hw dX7_cell_9
theorem kX7_cell : kI yX7_cell cX7_cell 5 (some .int) 3 := ⟨tb695, tb696, tb1, tb697, by decide, by decide, by decide +kernel⟩
theorem mX7_cell {l : Launch} {D : va_G} {ad : Nat → Nat → Nat} {cs : Nat → ClassId} {P : Nat → Nat → Prop} {sz tU : Nat} {adK adV : Nat → Nat} {x1 : Int32} {x2 : Int32} {x3 : Int32} {S : St} {K : Int32 → St → Prop} (hI : wI ad P) (hn : ∀ kd i, i < cnA kd → P kd i) (hw : wpX7_cell x1 x2 x3 S K) : MI l yX7_cell cX7_cell 5 (some .int) 3 102 D ad cs P sz tU adK adV [.ref (ad 0 0), .int x1, .int x2, .int x3] S K :=
  Met_of (by decide) (Nat.le_of_ble_eq_true rfl) hI hn (fun p e R s m args below meth c ls E hl hh => bX7_cell E  hw hh (lv_sub hl [0, 1, 2, 3] rfl))
def wpX7_copy (x1 : Int32) (x2 : Int32) (x3 : Int32) (x4 : Int32) (x5 : Int32) (S : St) (K : Int32 → St → Prop) : Prop := wpX7_isSheet x1 S (fun r1 S1 => if r1 = 0 then (K (-2) S1) else (wpX7_isSheet x3 S1 (fun r3 S3 => if r3 = 0 then (K (-2) S3) else ((vp_in x1 4 ∧ (vp_in x3 4 ∧ wpX4_isMissing x1.toNatClampNeg S3 (fun r7 S7 => if r7 = 0 then (wpX4_isMissing x3.toNatClampNeg S7 (fun r9 S9 => if r9 = 0 then (if (S9.1 30 x1.toNatClampNeg 0) = (S9.1 30 x3.toNatClampNeg 0) then (wpX4_holds x1.toNatClampNeg x2 x5 S9 (fun r12 S12 => if r12 = 0 then (K (-12) S12) else (wpX4_holds x3.toNatClampNeg x4 x5 S12 (fun r14 S14 => if r14 = 0 then (K (-12) S14) else (((¬ x2 < 0 ∧ ¬ x4 < 0 ∧ ¬ x5 < 0 ∧ x2.toNatClampNeg + x5.toNatClampNeg ≤ 40 ∧ x4.toNatClampNeg + x5.toNatClampNeg ≤ 40) ∧ ∀ S16, S16 = sa S14 31 x3.toNatClampNeg (va_cpy (S14.1 31 x1.toNatClampNeg) (S14.1 31 x3.toNatClampNeg) x2.toNatClampNeg x4.toNatClampNeg x5.toNatClampNeg) → K x5 S16)))))) else (K (-13) S9)) else (K (-11) S9))) else (K (-11) S7))))))))
set_option maxRecDepth 4000 in
theorem bX7_copy {p : Program} {l : Launch} {e : Env} {R : Room} {s : State} {m : MethodId} {args : Array Value} {below : List Frame} {meth : Method} {c : Code} {D : va_G} {ad : Nat → Nat → Nat} {cs : Nat → ClassId} {P : Nat → Nat → Prop} {sz tU : Nat} {adK adV : Nat → Nat} {K : Int32 → St → Prop} {x1 : Int32} {x2 : Int32} {x3 : Int32} {x4 : Int32} {x5 : Int32} {S : St} {H : Heap} {locs : List Loc} {ls : Array Slot} (E : Ex p s m args meth c R RX7 cX7_copy 8 (some .int) 3 102 D ad cs P (wA ad P) tU adK adV cnA) (hw : wpX7_copy x1 x2 x3 x4 x5 S K) (hh : wH D ad cs P (wA ad P) s.heap sz S H locs) (hl : lv_has ls 8 [(0, .ref (ad 0 0)), (1, .int x1), (2, .int x2), (3, .int x3), (4, .int x4), (5, .int x5)]) : W p l e R s m args below meth c H locs 0 0 (MQ below (va_Qi K (QX D ad cs P sz) (wA ad P)) args s 0 0 (wA ad P)) (F0 m 0 ls []) := by
  have hx := E.hx
  have hb := E.hb
  refine lv_iload_n hx hb dX7_copy_0 rfl (lv_at hl 1 rfl) ?_
  refine x_ci E.hA hh (x_runS E hh (mX7_isSheet E.hI (fun _ _ h => absurd h (Nat.not_lt_zero _)) hw) kX7_isSheet tb621 ⟨by decide, by decide⟩ rfl hl.1 rfl (Nat.le_of_ble_eq_true rfl) dX7_copy_1 ⟨Nat.zero_le _, Nat.zero_le _⟩) (fun r1 S1 H locs hw hh => ?_)
  have hq1 := hw.2
  have hw := hw.1
  refine lv_if_eq (tgt := 14) hx hb dX7_copy_4 (by decide) (fun c2 => ?_) (fun c2 => ?_)
  · have hw := ifT hw c2
    refine lv_bipush (v := (-2)) hx hb dX7_copy_14 (by decide) ?_
    exact x_iret E hh hw dX7_copy_16
  · have hw := ifF hw c2
    refine lv_iload_n hx hb dX7_copy_7 rfl (lv_at hl 3 rfl) ?_
    refine x_ci E.hA hh (x_runS E hh (mX7_isSheet E.hI (fun _ _ h => absurd h (Nat.not_lt_zero _)) hw) kX7_isSheet tb621 ⟨by decide, by decide⟩ rfl hl.1 rfl (Nat.le_of_ble_eq_true rfl) dX7_copy_8 ⟨Nat.zero_le _, Nat.zero_le _⟩) (fun r3 S3 H locs hw hh => ?_)
    have hq3 := hw.2
    have hw := hw.1
    refine lv_if_ne (tgt := 17) hx hb dX7_copy_11 (by decide) (fun c4 => ?_) (fun c4 => ?_)
    · have hw := ifF hw c4
      refine lv_aload_n hx hb dX7_copy_17 rfl (lv_at hl 0 rfl) ?_
      refine g_0_9 E hh tb379 (E.hn 0 0 (by decide)) dX7_copy_18 ?_
      refine lv_iload_n hx hb dX7_copy_21 rfl (lv_at hl 1 rfl) ?_
      obtain ⟨hi5, hw⟩ := hw
      refine x_aald (to := 30) E hh (E.hn 29 0 (by decide)) (fun _ _ => rfl) rfl hi5 dX7_copy_22 ?_
      refine lv_astore (lv' := [(6, .ref (ad 30 x1.toNatClampNeg)), (0, .ref (ad 0 0)), (1, .int x1), (2, .int x2), (3, .int x3), (4, .int x4), (5, .int x5)]) hx hb dX7_copy_23 hl (by decide) rfl (fun ls hl => ?_)
      refine lv_aload_n hx hb dX7_copy_25 rfl (lv_at hl 1 rfl) ?_
      refine g_0_9 E hh tb379 (E.hn 0 0 (by decide)) dX7_copy_26 ?_
      refine lv_iload_n hx hb dX7_copy_29 rfl (lv_at hl 4 rfl) ?_
      obtain ⟨hi6, hw⟩ := hw
      refine x_aald (to := 30) E hh (E.hn 29 0 (by decide)) (fun _ _ => rfl) rfl hi6 dX7_copy_30 ?_
      refine lv_astore (lv' := [(7, .ref (ad 30 x3.toNatClampNeg)), (6, .ref (ad 30 x1.toNatClampNeg)), (0, .ref (ad 0 0)), (1, .int x1), (2, .int x2), (3, .int x3), (4, .int x4), (5, .int x5)]) hx hb dX7_copy_31 hl (by decide) rfl (fun ls hl => ?_)
      refine lv_aload hx hb dX7_copy_33 (lv_at hl 1 rfl) ?_
      refine x_ci E.hA hh (x_runV E hh (mX4_isMissing E.hI E.hn (vp_lt hi5) hw) kX4_isMissing tb624 (E.hn 30 x1.toNatClampNeg (vp_lt hi5)) rv_30 ⟨by decide, by decide⟩ rfl hl.1 rfl (Nat.le_of_ble_eq_true rfl) dX7_copy_35 ⟨Nat.zero_le _, Nat.zero_le _⟩) (fun r7 S7 H locs hw hh => ?_)
      have hq7 := hw.2
      have hw := hw.1
      refine lv_if_ne (tgt := 49) hx hb dX7_copy_38 (by decide) (fun c8 => ?_) (fun c8 => ?_)
      · have hw := ifF hw c8
        refine lv_bipush (v := (-11)) hx hb dX7_copy_49 (by decide) ?_
        exact x_iret E hh hw dX7_copy_51
      · have hw := ifT hw c8
        refine lv_aload hx hb dX7_copy_41 (lv_at hl 0 rfl) ?_
        refine x_ci E.hA hh (x_runV E hh (mX4_isMissing E.hI E.hn (vp_lt hi6) hw) kX4_isMissing tb624 (E.hn 30 x3.toNatClampNeg (vp_lt hi6)) rv_30 ⟨by decide, by decide⟩ rfl hl.1 rfl (Nat.le_of_ble_eq_true rfl) dX7_copy_43 ⟨Nat.zero_le _, Nat.zero_le _⟩) (fun r9 S9 H locs hw hh => ?_)
        have hq9 := hw.2
        have hw := hw.1
        refine lv_if_eq (tgt := 52) hx hb dX7_copy_46 (by decide) (fun c10 => ?_) (fun c10 => ?_)
        · have hw := ifT hw c10
          refine lv_aload hx hb dX7_copy_52 (lv_at hl 1 rfl) ?_
          refine g_30_0 E hh tb152 (E.hn 30 x1.toNatClampNeg (vp_lt hi5)) dX7_copy_54 ?_
          refine lv_aload hx hb dX7_copy_57 (lv_at hl 0 rfl) ?_
          refine g_30_0 E hh tb152 (E.hn 30 x3.toNatClampNeg (vp_lt hi6)) dX7_copy_59 ?_
          refine lv_icmp_eq (tgt := 68) hx hb dX7_copy_62 (by decide) (fun c11 => ?_) (fun c11 => ?_)
          · have hw := ifT hw c11
            refine lv_aload hx hb dX7_copy_68 (lv_at hl 1 rfl) ?_
            refine lv_iload_n hx hb dX7_copy_70 rfl (lv_at hl 4 rfl) ?_
            refine lv_iload hx hb dX7_copy_71 (lv_at hl 7 rfl) ?_
            refine x_ci E.hA hh (x_runV E hh (mX4_holds E.hI E.hn (vp_lt hi5) hw) kX4_holds tb698 (E.hn 30 x1.toNatClampNeg (vp_lt hi5)) rv_30 ⟨by decide, by decide⟩ rfl hl.1 rfl (Nat.le_of_ble_eq_true rfl) dX7_copy_73 ⟨Nat.zero_le _, Nat.zero_le _⟩) (fun r12 S12 H locs hw hh => ?_)
            have hq12 := hw.2
            have hw := hw.1
            refine lv_if_eq (tgt := 91) hx hb dX7_copy_76 (by decide) (fun c13 => ?_) (fun c13 => ?_)
            · have hw := ifT hw c13
              refine lv_bipush (v := (-12)) hx hb dX7_copy_91 (by decide) ?_
              exact x_iret E hh hw dX7_copy_93
            · have hw := ifF hw c13
              refine lv_aload hx hb dX7_copy_79 (lv_at hl 0 rfl) ?_
              refine lv_iload hx hb dX7_copy_81 (lv_at hl 6 rfl) ?_
              refine lv_iload hx hb dX7_copy_83 (lv_at hl 7 rfl) ?_
              refine x_ci E.hA hh (x_runV E hh (mX4_holds E.hI E.hn (vp_lt hi6) hw) kX4_holds tb698 (E.hn 30 x3.toNatClampNeg (vp_lt hi6)) rv_30 ⟨by decide, by decide⟩ rfl hl.1 rfl (Nat.le_of_ble_eq_true rfl) dX7_copy_85 ⟨Nat.zero_le _, Nat.zero_le _⟩) (fun r14 S14 H locs hw hh => ?_)
              have hq14 := hw.2
              have hw := hw.1
              refine lv_if_ne (tgt := 94) hx hb dX7_copy_88 (by decide) (fun c15 => ?_) (fun c15 => ?_)
              · have hw := ifF hw c15
                refine lv_aload hx hb dX7_copy_94 (lv_at hl 1 rfl) ?_
                refine g_30_2 E hh tb156 (E.hn 30 x1.toNatClampNeg (vp_lt hi5)) dX7_copy_96 ?_
                refine lv_iload_n hx hb dX7_copy_99 rfl (lv_at hl 4 rfl) ?_
                refine lv_aload hx hb dX7_copy_100 (lv_at hl 0 rfl) ?_
                refine g_30_2 E hh tb156 (E.hn 30 x3.toNatClampNeg (vp_lt hi6)) dX7_copy_102 ?_
                refine lv_iload hx hb dX7_copy_105 (lv_at hl 6 rfl) ?_
                refine lv_iload hx hb dX7_copy_107 (lv_at hl 7 rfl) ?_
                obtain ⟨hy16, hw⟩ := hw
                refine x_copy E hh (E.hn 31 x1.toNatClampNeg (vp_lt hi5)) (E.hn 31 x3.toNatClampNeg (vp_lt hi6)) ly_31 ly_31 hy16 (E.hml.trans hl.1.symm) tb710 (Nat.le_trans (by decide) E.hf) (Nat.le_trans (Nat.le_of_ble_eq_true rfl) E.hl) dX7_copy_109 (fun S16 H locs e16 hh => ?_)
                have hw := hw S16 e16
                refine lv_iload hx hb dX7_copy_112 (lv_at hl 7 rfl) ?_
                exact x_iret E hh hw dX7_copy_114
              · have hw := ifT hw c15
                refine lv_bipush (v := (-12)) hx hb dX7_copy_91 (by decide) ?_
                exact x_iret E hh hw dX7_copy_93
          · have hw := ifF hw c11
            refine lv_bipush (v := (-13)) hx hb dX7_copy_65 (by decide) ?_
            exact x_iret E hh hw dX7_copy_67
        · have hw := ifF hw c10
          refine lv_bipush (v := (-11)) hx hb dX7_copy_49 (by decide) ?_
          exact x_iret E hh hw dX7_copy_51
    · have hw := ifT hw c4
      refine lv_bipush (v := (-2)) hx hb dX7_copy_14 (by decide) ?_
      exact x_iret E hh hw dX7_copy_16
theorem kX7_copy : kI yX7_copy cX7_copy 8 (some .int) 5 := ⟨tb707, tb708, tb1, tb709, by decide, by decide, by decide +kernel⟩
theorem mX7_copy {l : Launch} {D : va_G} {ad : Nat → Nat → Nat} {cs : Nat → ClassId} {P : Nat → Nat → Prop} {sz tU : Nat} {adK adV : Nat → Nat} {x1 : Int32} {x2 : Int32} {x3 : Int32} {x4 : Int32} {x5 : Int32} {S : St} {K : Int32 → St → Prop} (hI : wI ad P) (hn : ∀ kd i, i < cnA kd → P kd i) (hw : wpX7_copy x1 x2 x3 x4 x5 S K) : MI l yX7_copy cX7_copy 8 (some .int) 3 102 D ad cs P sz tU adK adV [.ref (ad 0 0), .int x1, .int x2, .int x3, .int x4, .int x5] S K :=
  Met_of (by decide) (Nat.le_of_ble_eq_true rfl) hI hn (fun p e R s m args below meth c ls E hl hh => bX7_copy E  hw hh (lv_sub hl [0, 1, 2, 3, 4, 5] rfl))
def wbX7_likings_141 (R67 : Int32 → Int32 → St → Prop) (K : Int32 → St → Prop) (x3 : Int32) (x4 : Int32) (u5 : Nat) (x6 : Int32) (x7 : Int32) (S : St) : Prop := R67 x6 (x7 + 1) S
set_option maxRecDepth 4000 in
theorem bX7_likings_141 {p : Program} {l : Launch} {e : Env} {R : Room} {s : State} {m : MethodId} {args : Array Value} {below : List Frame} {meth : Method} {c : Code} {D : va_G} {ad : Nat → Nat → Nat} {cs : Nat → ClassId} {P : Nat → Nat → Prop} {sz tU : Nat} {adK adV : Nat → Nat} {R67 : Int32 → Int32 → St → Prop} {K : Int32 → St → Prop} {x3 : Int32} {x4 : Int32} {u5 : Nat} {x6 : Int32} {x7 : Int32} {S : St} {H : Heap} {locs : List Loc} {ls : Array Slot} (E : Ex p s m args meth c R RX7 cX7_likings 10 (some .int) 5 149 D ad cs P (wA ad P) tU adK adV cnA) (hu5 : u5 < 4) (hR67 : ∀ (z6 : Int32) (z7 : Int32) (S : St) (H : Heap) (locs : List Loc) (ls : Array Slot), R67 z6 z7 S → wH D ad cs P (wA ad P) s.heap sz S H locs → lv_has ls 10 [(0, .ref (ad 0 0)), (3, .int x3), (4, .int x4), (5, .ref (ad 30 u5)), (6, .int z6), (7, .int z7)] → W p l e R s m args below meth c H locs 0 0 (MQ below (va_Qi K (QX D ad cs P sz) (wA ad P)) args s 0 0 (wA ad P)) (F0 m 67 ls [])) (hw : wbX7_likings_141 R67 K x3 x4 u5 x6 x7 S) (hh : wH D ad cs P (wA ad P) s.heap sz S H locs) (hl : lv_has ls 10 [(0, .ref (ad 0 0)), (3, .int x3), (4, .int x4), (5, .ref (ad 30 u5)), (6, .int x6), (7, .int x7)]) : W p l e R s m args below meth c H locs 0 0 (MQ below (va_Qi K (QX D ad cs P sz) (wA ad P)) args s 0 0 (wA ad P)) (F0 m 141 ls []) := by
  have hx := E.hx
  have hb := E.hb
  refine lv_iinc (k := 5) (v := x7 + 1) (lv' := [(7, .int (x7 + 1)), (0, .ref (ad 0 0)), (3, .int x3), (4, .int x4), (5, .ref (ad 30 u5)), (6, .int x6)]) hx hb dX7_likings_141 hl rfl rfl (by decide) rfl (fun ls hl => ?_)
  refine lv_goto (tgt := 67) hx hb dX7_likings_144 (by decide) ?_
  exact hR67 x6 (x7 + 1) S _ _ _ hw hh (lv_sub hl [1, 2, 3, 4, 5, 0] rfl)
def wbX7_likings_67 (K : Int32 → St → Prop) (x3 : Int32) (x4 : Int32) (u5 : Nat) : Nat → Int32 → Int32 → St → Prop
  | 0, _, _, _ => False
  | n + 1, x6, x7, S => if x4 ≤ x7 then (K x6 S) else (wpX4_holds u5 (x3 + (4 * x7)) 4 S (fun r12 S12 => if r12 = 0 then (K (-12) S12) else ((vp_in (x3 + (4 * x7)) 40 ∧ (vp_in ((x3 + (4 * x7)) + 1) 40 ∧ (vp_in ((x3 + (4 * x7)) + 2) 40 ∧ (vp_in ((x3 + (4 * x7)) + 3) 40 ∧ wpX7_likes (S12.1 31 u5 (x3 + (4 * x7)).toNatClampNeg) (S12.1 31 u5 ((x3 + (4 * x7)) + 1).toNatClampNeg) (S12.1 31 u5 ((x3 + (4 * x7)) + 2).toNatClampNeg) (S12.1 31 u5 ((x3 + (4 * x7)) + 3).toNatClampNeg) S12 (fun r18 S18 => if r18 = (-2) then (wbX7_likings_141 (fun yx6 yx7 S9 => wbX7_likings_67 K x3 x4 u5 n yx6 yx7 S9) K x3 x4 u5 x6 x7 S18) else (wbX7_likings_141 (fun yx6 yx7 S9 => wbX7_likings_67 K x3 x4 u5 n yx6 yx7 S9) K x3 x4 u5 (x6 + 1) x7 S18)))))))))
set_option maxRecDepth 4000 in
theorem bX7_likings_67 {p : Program} {l : Launch} {e : Env} {R : Room} {s : State} {m : MethodId} {args : Array Value} {below : List Frame} {meth : Method} {c : Code} {D : va_G} {ad : Nat → Nat → Nat} {cs : Nat → ClassId} {P : Nat → Nat → Prop} {sz tU : Nat} {adK adV : Nat → Nat} {K : Int32 → St → Prop} {x3 : Int32} {x4 : Int32} {u5 : Nat} (E : Ex p s m args meth c R RX7 cX7_likings 10 (some .int) 5 149 D ad cs P (wA ad P) tU adK adV cnA) (hu5 : u5 < 4) : ∀ (n : Nat) (x6 : Int32) (x7 : Int32) (S : St) (H : Heap) (locs : List Loc) (ls : Array Slot), wbX7_likings_67 K x3 x4 u5 n x6 x7 S → wH D ad cs P (wA ad P) s.heap sz S H locs → lv_has ls 10 [(0, .ref (ad 0 0)), (3, .int x3), (4, .int x4), (5, .ref (ad 30 u5)), (6, .int x6), (7, .int x7)] → W p l e R s m args below meth c H locs 0 0 (MQ below (va_Qi K (QX D ad cs P sz) (wA ad P)) args s 0 0 (wA ad P)) (F0 m 67 ls []) := by
  have hx := E.hx
  have hb := E.hb
  intro n
  induction n with
  | zero => intro x6 x7 S H locs ls hw hh hl; exact hw.elim
  | succ n ih =>
    intro x6 x7 S H locs ls hw hh hl
    refine lv_iload hx hb dX7_likings_67 (lv_at hl 5 rfl) ?_
    refine lv_iload hx hb dX7_likings_69 (lv_at hl 2 rfl) ?_
    refine lv_icmp_ge (tgt := 147) hx hb dX7_likings_71 (by decide) (fun c11 => ?_) (fun c11 => ?_)
    · have hw := ifT hw c11
      refine lv_iload hx hb dX7_likings_147 (lv_at hl 4 rfl) ?_
      exact x_iret E hh hw dX7_likings_149
    · have hw := ifF hw c11
      refine lv_iload_n hx hb dX7_likings_74 rfl (lv_at hl 1 rfl) ?_
      refine lv_iconst (v := 4) hx hb dX7_likings_75 (by decide) ?_
      refine lv_iload hx hb dX7_likings_76 (lv_at hl 5 rfl) ?_
      refine lv_imul hx hb dX7_likings_78 ?_
      refine lv_iadd hx hb dX7_likings_79 ?_
      refine lv_istore (lv' := [(8, .int (x3 + (4 * x7))), (0, .ref (ad 0 0)), (3, .int x3), (4, .int x4), (5, .ref (ad 30 u5)), (6, .int x6), (7, .int x7)]) hx hb dX7_likings_80 hl (by decide) rfl (fun ls hl => ?_)
      refine lv_aload hx hb dX7_likings_82 (lv_at hl 4 rfl) ?_
      refine lv_iload hx hb dX7_likings_84 (lv_at hl 0 rfl) ?_
      refine lv_iconst (v := 4) hx hb dX7_likings_86 (by decide) ?_
      refine x_ci E.hA hh (x_runV E hh (mX4_holds E.hI E.hn hu5 hw) kX4_holds tb698 (E.hn 30 u5 hu5) rv_30 ⟨by decide, by decide⟩ rfl hl.1 rfl (Nat.le_of_ble_eq_true rfl) dX7_likings_87 ⟨Nat.zero_le _, Nat.zero_le _⟩) (fun r12 S12 H locs hw hh => ?_)
      have hq12 := hw.2
      have hw := hw.1
      refine lv_if_ne (tgt := 96) hx hb dX7_likings_90 (by decide) (fun c13 => ?_) (fun c13 => ?_)
      · have hw := ifF hw c13
        refine lv_aload hx hb dX7_likings_96 (lv_at hl 4 rfl) ?_
        refine g_30_2 E hh tb156 (E.hn 30 u5 hu5) dX7_likings_98 ?_
        refine lv_astore (lv' := [(9, .ref (ad 31 u5)), (8, .int (x3 + (4 * x7))), (0, .ref (ad 0 0)), (3, .int x3), (4, .int x4), (5, .ref (ad 30 u5)), (6, .int x6), (7, .int x7)]) hx hb dX7_likings_101 hl (by decide) rfl (fun ls hl => ?_)
        refine lv_aload_n hx hb dX7_likings_103 rfl (lv_at hl 2 rfl) ?_
        refine lv_aload hx hb dX7_likings_104 (lv_at hl 0 rfl) ?_
        refine lv_iload hx hb dX7_likings_106 (lv_at hl 1 rfl) ?_
        obtain ⟨hi14, hw⟩ := hw
        refine x_iald E hh (E.hn 31 u5 hu5) ly_31 hi14 dX7_likings_108 ?_
        refine lv_aload hx hb dX7_likings_109 (lv_at hl 0 rfl) ?_
        refine lv_iload hx hb dX7_likings_111 (lv_at hl 1 rfl) ?_
        refine lv_iconst (v := 1) hx hb dX7_likings_113 (by decide) ?_
        refine lv_iadd hx hb dX7_likings_114 ?_
        obtain ⟨hi15, hw⟩ := hw
        refine x_iald E hh (E.hn 31 u5 hu5) ly_31 hi15 dX7_likings_115 ?_
        refine lv_aload hx hb dX7_likings_116 (lv_at hl 0 rfl) ?_
        refine lv_iload hx hb dX7_likings_118 (lv_at hl 1 rfl) ?_
        refine lv_iconst (v := 2) hx hb dX7_likings_120 (by decide) ?_
        refine lv_iadd hx hb dX7_likings_121 ?_
        obtain ⟨hi16, hw⟩ := hw
        refine x_iald E hh (E.hn 31 u5 hu5) ly_31 hi16 dX7_likings_122 ?_
        refine lv_aload hx hb dX7_likings_123 (lv_at hl 0 rfl) ?_
        refine lv_iload hx hb dX7_likings_125 (lv_at hl 1 rfl) ?_
        refine lv_iconst (v := 3) hx hb dX7_likings_127 (by decide) ?_
        refine lv_iadd hx hb dX7_likings_128 ?_
        obtain ⟨hi17, hw⟩ := hw
        refine x_iald E hh (E.hn 31 u5 hu5) ly_31 hi17 dX7_likings_129 ?_
        refine x_ci E.hA hh (x_runV E hh (mX7_likes E.hI E.hn hw) kX7_likes tb715 (E.hn 0 0 (by decide)) rv_0 ⟨by decide, by decide⟩ rfl hl.1 rfl (Nat.le_of_ble_eq_true rfl) dX7_likings_130 ⟨Nat.zero_le _, Nat.zero_le _⟩) (fun r18 S18 H locs hw hh => ?_)
        refine lv_bipush (v := (-2)) hx hb dX7_likings_133 (by decide) ?_
        refine lv_icmp_eq (tgt := 141) hx hb dX7_likings_135 (by decide) (fun c19 => ?_) (fun c19 => ?_)
        · have hw := ifT hw c19
          exact bX7_likings_141 E (hu5) ih hw hh (lv_sub hl [2, 3, 4, 5, 6, 7] rfl)
        · have hw := ifF hw c19
          refine lv_iinc (k := 6) (v := x6 + 1) (lv' := [(6, .int (x6 + 1)), (9, .ref (ad 31 u5)), (8, .int (x3 + (4 * x7))), (0, .ref (ad 0 0)), (3, .int x3), (4, .int x4), (5, .ref (ad 30 u5)), (7, .int x7)]) hx hb dX7_likings_138 hl rfl rfl (by decide) rfl (fun ls hl => ?_)
          exact bX7_likings_141 E (hu5) ih hw hh (lv_sub hl [3, 4, 5, 6, 0, 7] rfl)
      · have hw := ifT hw c13
        refine lv_bipush (v := (-12)) hx hb dX7_likings_93 (by decide) ?_
        exact x_iret E hh hw dX7_likings_95
def wpX7_likings (x1 : Int32) (x2 : Int32) (x3 : Int32) (x4 : Int32) (S : St) (K : Int32 → St → Prop) : Prop := wpX7_isSheet x1 S (fun r1 S1 => if r1 = 0 then (K (-2) S1) else (wpX7_within x2 0 2 S1 (fun r3 S3 => if r3 = 0 then (K (-2) S3) else (wpX7_within x4 0 10 S3 (fun r5 S5 => if r5 = 0 then (K (-2) S5) else ((vp_in x1 4 ∧ wpX4_isMissing x1.toNatClampNeg S5 (fun r8 S8 => if r8 = 0 then (if (S8.1 30 x1.toNatClampNeg 0) = x2 then (∃ k, wbX7_likings_67 K x3 x4 x1.toNatClampNeg k 0 0 S8) else (K (-13) S8)) else (K (-11) S8)))))))))
set_option maxRecDepth 4000 in
theorem bX7_likings {p : Program} {l : Launch} {e : Env} {R : Room} {s : State} {m : MethodId} {args : Array Value} {below : List Frame} {meth : Method} {c : Code} {D : va_G} {ad : Nat → Nat → Nat} {cs : Nat → ClassId} {P : Nat → Nat → Prop} {sz tU : Nat} {adK adV : Nat → Nat} {K : Int32 → St → Prop} {x1 : Int32} {x2 : Int32} {x3 : Int32} {x4 : Int32} {S : St} {H : Heap} {locs : List Loc} {ls : Array Slot} (E : Ex p s m args meth c R RX7 cX7_likings 10 (some .int) 5 149 D ad cs P (wA ad P) tU adK adV cnA) (hw : wpX7_likings x1 x2 x3 x4 S K) (hh : wH D ad cs P (wA ad P) s.heap sz S H locs) (hl : lv_has ls 10 [(0, .ref (ad 0 0)), (1, .int x1), (2, .int x2), (3, .int x3), (4, .int x4)]) : W p l e R s m args below meth c H locs 0 0 (MQ below (va_Qi K (QX D ad cs P sz) (wA ad P)) args s 0 0 (wA ad P)) (F0 m 0 ls []) := by
  have hx := E.hx
  have hb := E.hb
  refine lv_iload_n hx hb dX7_likings_0 rfl (lv_at hl 1 rfl) ?_
  refine x_ci E.hA hh (x_runS E hh (mX7_isSheet E.hI (fun _ _ h => absurd h (Nat.not_lt_zero _)) hw) kX7_isSheet tb621 ⟨by decide, by decide⟩ rfl hl.1 rfl (Nat.le_of_ble_eq_true rfl) dX7_likings_1 ⟨Nat.zero_le _, Nat.zero_le _⟩) (fun r1 S1 H locs hw hh => ?_)
  have hq1 := hw.2
  have hw := hw.1
  refine lv_if_eq (tgt := 27) hx hb dX7_likings_4 (by decide) (fun c2 => ?_) (fun c2 => ?_)
  · have hw := ifT hw c2
    refine lv_bipush (v := (-2)) hx hb dX7_likings_27 (by decide) ?_
    exact x_iret E hh hw dX7_likings_29
  · have hw := ifF hw c2
    refine lv_iload_n hx hb dX7_likings_7 rfl (lv_at hl 2 rfl) ?_
    refine lv_iconst (v := 0) hx hb dX7_likings_8 (by decide) ?_
    refine lv_iconst (v := 2) hx hb dX7_likings_9 (by decide) ?_
    refine x_ci E.hA hh (x_runS E hh (mX7_within E.hI (fun _ _ h => absurd h (Nat.not_lt_zero _)) hw) kX7_within tb405 ⟨by decide, by decide⟩ rfl hl.1 rfl (Nat.le_of_ble_eq_true rfl) dX7_likings_10 ⟨Nat.zero_le _, Nat.zero_le _⟩) (fun r3 S3 H locs hw hh => ?_)
    have hq3 := hw.2
    have hw := hw.1
    refine lv_if_eq (tgt := 27) hx hb dX7_likings_13 (by decide) (fun c4 => ?_) (fun c4 => ?_)
    · have hw := ifT hw c4
      refine lv_bipush (v := (-2)) hx hb dX7_likings_27 (by decide) ?_
      exact x_iret E hh hw dX7_likings_29
    · have hw := ifF hw c4
      refine lv_iload hx hb dX7_likings_16 (lv_at hl 4 rfl) ?_
      refine lv_iconst (v := 0) hx hb dX7_likings_18 (by decide) ?_
      refine lv_bipush (v := 10) hx hb dX7_likings_19 (by decide) ?_
      refine x_ci E.hA hh (x_runS E hh (mX7_within E.hI (fun _ _ h => absurd h (Nat.not_lt_zero _)) hw) kX7_within tb405 ⟨by decide, by decide⟩ rfl hl.1 rfl (Nat.le_of_ble_eq_true rfl) dX7_likings_21 ⟨Nat.zero_le _, Nat.zero_le _⟩) (fun r5 S5 H locs hw hh => ?_)
      have hq5 := hw.2
      have hw := hw.1
      refine lv_if_ne (tgt := 30) hx hb dX7_likings_24 (by decide) (fun c6 => ?_) (fun c6 => ?_)
      · have hw := ifF hw c6
        refine lv_aload_n hx hb dX7_likings_30 rfl (lv_at hl 0 rfl) ?_
        refine g_0_9 E hh tb379 (E.hn 0 0 (by decide)) dX7_likings_31 ?_
        refine lv_iload_n hx hb dX7_likings_34 rfl (lv_at hl 1 rfl) ?_
        obtain ⟨hi7, hw⟩ := hw
        refine x_aald (to := 30) E hh (E.hn 29 0 (by decide)) (fun _ _ => rfl) rfl hi7 dX7_likings_35 ?_
        refine lv_astore (lv' := [(5, .ref (ad 30 x1.toNatClampNeg)), (0, .ref (ad 0 0)), (1, .int x1), (2, .int x2), (3, .int x3), (4, .int x4)]) hx hb dX7_likings_36 hl (by decide) rfl (fun ls hl => ?_)
        refine lv_aload hx hb dX7_likings_38 (lv_at hl 0 rfl) ?_
        refine x_ci E.hA hh (x_runV E hh (mX4_isMissing E.hI E.hn (vp_lt hi7) hw) kX4_isMissing tb624 (E.hn 30 x1.toNatClampNeg (vp_lt hi7)) rv_30 ⟨by decide, by decide⟩ rfl hl.1 rfl (Nat.le_of_ble_eq_true rfl) dX7_likings_40 ⟨Nat.zero_le _, Nat.zero_le _⟩) (fun r8 S8 H locs hw hh => ?_)
        have hq8 := hw.2
        have hw := hw.1
        refine lv_if_eq (tgt := 49) hx hb dX7_likings_43 (by decide) (fun c9 => ?_) (fun c9 => ?_)
        · have hw := ifT hw c9
          refine lv_aload hx hb dX7_likings_49 (lv_at hl 0 rfl) ?_
          refine g_30_0 E hh tb152 (E.hn 30 x1.toNatClampNeg (vp_lt hi7)) dX7_likings_51 ?_
          refine lv_iload_n hx hb dX7_likings_54 rfl (lv_at hl 3 rfl) ?_
          refine lv_icmp_eq (tgt := 61) hx hb dX7_likings_55 (by decide) (fun c10 => ?_) (fun c10 => ?_)
          · have hw := ifT hw c10
            refine lv_iconst (v := 0) hx hb dX7_likings_61 (by decide) ?_
            refine lv_istore (lv' := [(6, .int 0), (5, .ref (ad 30 x1.toNatClampNeg)), (0, .ref (ad 0 0)), (1, .int x1), (2, .int x2), (3, .int x3), (4, .int x4)]) hx hb dX7_likings_62 hl (by decide) rfl (fun ls hl => ?_)
            refine lv_iconst (v := 0) hx hb dX7_likings_64 (by decide) ?_
            refine lv_istore (lv' := [(7, .int 0), (6, .int 0), (5, .ref (ad 30 x1.toNatClampNeg)), (0, .ref (ad 0 0)), (1, .int x1), (2, .int x2), (3, .int x3), (4, .int x4)]) hx hb dX7_likings_65 hl (by decide) rfl (fun ls hl => ?_)
            obtain ⟨k, hw⟩ := hw
            exact bX7_likings_67 E ((vp_lt hi7)) k 0 0 S8 _ _ _ hw hh (lv_sub hl [3, 6, 7, 2, 1, 0] rfl)
          · have hw := ifF hw c10
            refine lv_bipush (v := (-13)) hx hb dX7_likings_58 (by decide) ?_
            exact x_iret E hh hw dX7_likings_60
        · have hw := ifF hw c9
          refine lv_bipush (v := (-11)) hx hb dX7_likings_46 (by decide) ?_
          exact x_iret E hh hw dX7_likings_48
      · have hw := ifT hw c6
        refine lv_bipush (v := (-2)) hx hb dX7_likings_27 (by decide) ?_
        exact x_iret E hh hw dX7_likings_29
theorem kX7_likings : kI yX7_likings cX7_likings 10 (some .int) 4 := ⟨tb712, tb713, tb1, tb714, by decide, by decide, by decide +kernel⟩
theorem mX7_likings {l : Launch} {D : va_G} {ad : Nat → Nat → Nat} {cs : Nat → ClassId} {P : Nat → Nat → Prop} {sz tU : Nat} {adK adV : Nat → Nat} {x1 : Int32} {x2 : Int32} {x3 : Int32} {x4 : Int32} {S : St} {K : Int32 → St → Prop} (hI : wI ad P) (hn : ∀ kd i, i < cnA kd → P kd i) (hw : wpX7_likings x1 x2 x3 x4 S K) : MI l yX7_likings cX7_likings 10 (some .int) 5 149 D ad cs P sz tU adK adV [.ref (ad 0 0), .int x1, .int x2, .int x3, .int x4] S K :=
  Met_of (by decide) (Nat.le_of_ble_eq_true rfl) hI hn (fun p e R s m args below meth c ls E hl hh => bX7_likings E  hw hh (lv_sub hl [0, 1, 2, 3, 4] rfl))
def wpX7_taken (x1 : Int32) (x2 : Int32) (S : St) (K : Int32 → St → Prop) : Prop := wpX7_within x2 0 5 S (fun r1 S1 => if r1 = 0 then (K (-2) S1) else (wpX7_isMaid x1 S1 (fun r3 S3 => if r3 = 0 then (K (-11) S3) else ((vp_in x1 4 ∧ wpX0_isUnder (S3.1 13 0 x1.toNatClampNeg) x2 S3 (fun r6 S6 => if r6 = 0 then (K (-13) S6) else ((vp_in x1 4 ∧ K (S6.1 14 0 x1.toNatClampNeg) S6))))))))
set_option maxRecDepth 4000 in
theorem bX7_taken {p : Program} {l : Launch} {e : Env} {R : Room} {s : State} {m : MethodId} {args : Array Value} {below : List Frame} {meth : Method} {c : Code} {D : va_G} {ad : Nat → Nat → Nat} {cs : Nat → ClassId} {P : Nat → Nat → Prop} {sz tU : Nat} {adK adV : Nat → Nat} {K : Int32 → St → Prop} {x1 : Int32} {x2 : Int32} {S : St} {H : Heap} {locs : List Loc} {ls : Array Slot} (E : Ex p s m args meth c R RX7 cX7_taken 3 (some .int) 3 103 D ad cs P (wA ad P) tU adK adV cnA) (hw : wpX7_taken x1 x2 S K) (hh : wH D ad cs P (wA ad P) s.heap sz S H locs) (hl : lv_has ls 3 [(0, .ref (ad 0 0)), (1, .int x1), (2, .int x2)]) : W p l e R s m args below meth c H locs 0 0 (MQ below (va_Qi K (QX D ad cs P sz) (wA ad P)) args s 0 0 (wA ad P)) (F0 m 0 ls []) := by
  have hx := E.hx
  have hb := E.hb
  refine lv_iload_n hx hb dX7_taken_0 rfl (lv_at hl 2 rfl) ?_
  refine lv_iconst (v := 0) hx hb dX7_taken_1 (by decide) ?_
  refine lv_iconst (v := 5) hx hb dX7_taken_2 (by decide) ?_
  refine x_ci E.hA hh (x_runS E hh (mX7_within E.hI (fun _ _ h => absurd h (Nat.not_lt_zero _)) hw) kX7_within tb405 ⟨by decide, by decide⟩ rfl hl.1 rfl (Nat.le_of_ble_eq_true rfl) dX7_taken_3 ⟨Nat.zero_le _, Nat.zero_le _⟩) (fun r1 S1 H locs hw hh => ?_)
  have hq1 := hw.2
  have hw := hw.1
  refine lv_if_ne (tgt := 12) hx hb dX7_taken_6 (by decide) (fun c2 => ?_) (fun c2 => ?_)
  · have hw := ifF hw c2
    refine lv_aload_n hx hb dX7_taken_12 rfl (lv_at hl 0 rfl) ?_
    refine lv_iload_n hx hb dX7_taken_13 rfl (lv_at hl 1 rfl) ?_
    refine x_ci E.hA hh (x_runV E hh (mX7_isMaid E.hI E.hn hw) kX7_isMaid tb424 (E.hn 0 0 (by decide)) rv_0 ⟨by decide, by decide⟩ rfl hl.1 rfl (Nat.le_of_ble_eq_true rfl) dX7_taken_14 ⟨Nat.zero_le _, Nat.zero_le _⟩) (fun r3 S3 H locs hw hh => ?_)
    have hq3 := hw.2
    have hw := hw.1
    refine lv_if_ne (tgt := 23) hx hb dX7_taken_17 (by decide) (fun c4 => ?_) (fun c4 => ?_)
    · have hw := ifF hw c4
      refine lv_aload_n hx hb dX7_taken_23 rfl (lv_at hl 0 rfl) ?_
      refine g_0_3 E hh tb373 (E.hn 0 0 (by decide)) dX7_taken_24 ?_
      refine g_10_8 E hh tb332 (E.hn 10 0 (by decide)) dX7_taken_27 ?_
      refine lv_iload_n hx hb dX7_taken_30 rfl (lv_at hl 1 rfl) ?_
      obtain ⟨hi5, hw⟩ := hw
      refine x_iald E hh (E.hn 13 0 (by decide)) ly_13 hi5 dX7_taken_31 ?_
      refine lv_iload_n hx hb dX7_taken_32 rfl (lv_at hl 2 rfl) ?_
      refine x_ci E.hA hh (x_runS E hh (mX0_isUnder E.hI (fun _ _ h => absurd h (Nat.not_lt_zero _)) hw) kX0_isUnder tb720 ⟨by decide, by decide⟩ rfl hl.1 rfl (Nat.le_of_ble_eq_true rfl) dX7_taken_33 ⟨Nat.zero_le _, Nat.zero_le _⟩) (fun r6 S6 H locs hw hh => ?_)
      have hq6 := hw.2
      have hw := hw.1
      refine lv_if_eq (tgt := 51) hx hb dX7_taken_36 (by decide) (fun c7 => ?_) (fun c7 => ?_)
      · have hw := ifT hw c7
        refine lv_bipush (v := (-13)) hx hb dX7_taken_51 (by decide) ?_
        exact x_iret E hh hw dX7_taken_53
      · have hw := ifF hw c7
        refine lv_aload_n hx hb dX7_taken_39 rfl (lv_at hl 0 rfl) ?_
        refine g_0_3 E hh tb373 (E.hn 0 0 (by decide)) dX7_taken_40 ?_
        refine g_10_9 E hh tb334 (E.hn 10 0 (by decide)) dX7_taken_43 ?_
        refine lv_iload_n hx hb dX7_taken_46 rfl (lv_at hl 1 rfl) ?_
        obtain ⟨hi8, hw⟩ := hw
        refine x_iald E hh (E.hn 14 0 (by decide)) ly_14 hi8 dX7_taken_47 ?_
        refine lv_goto (tgt := 53) hx hb dX7_taken_48 (by decide) ?_
        exact x_iret E hh hw dX7_taken_53
    · have hw := ifT hw c4
      refine lv_bipush (v := (-11)) hx hb dX7_taken_20 (by decide) ?_
      exact x_iret E hh hw dX7_taken_22
  · have hw := ifT hw c2
    refine lv_bipush (v := (-2)) hx hb dX7_taken_9 (by decide) ?_
    exact x_iret E hh hw dX7_taken_11
theorem kX7_taken : kI yX7_taken cX7_taken 3 (some .int) 2 := ⟨tb717, tb718, tb1, tb719, by decide, by decide, by decide +kernel⟩
theorem mX7_taken {l : Launch} {D : va_G} {ad : Nat → Nat → Nat} {cs : Nat → ClassId} {P : Nat → Nat → Prop} {sz tU : Nat} {adK adV : Nat → Nat} {x1 : Int32} {x2 : Int32} {S : St} {K : Int32 → St → Prop} (hI : wI ad P) (hn : ∀ kd i, i < cnA kd → P kd i) (hw : wpX7_taken x1 x2 S K) : MI l yX7_taken cX7_taken 3 (some .int) 3 103 D ad cs P sz tU adK adV [.ref (ad 0 0), .int x1, .int x2] S K :=
  Met_of (by decide) (Nat.le_of_ble_eq_true rfl) hI hn (fun p e R s m args below meth c ls E hl hh => bX7_taken E  hw hh (lv_sub hl [0, 1, 2] rfl))
