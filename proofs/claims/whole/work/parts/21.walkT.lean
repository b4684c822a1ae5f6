/-! walks, written by wip/whole/tools/walk.py: 21.walkT -/
def wpX5_ruled (t : Nat) (x1 : Int32) (x2 : Int32) (x3 : Int32) (S : St) (K : Int32 → St → Prop) : Prop := wpX5_at x2 x3 S (fun r1 S1 => (vp_in r1 16 ∧ (vp_in 1 7 ∧ ∀ S3, S3 = su S1 17 t (1 : Int32).toNatClampNeg (S1.1 15 t r1.toNatClampNeg) → wpX5_at x2 x3 S3 (fun r4 S4 => (vp_in r4 16 ∧ (vp_in 2 7 ∧ ∀ S6, S6 = su S4 17 t (2 : Int32).toNatClampNeg (S4.1 16 t r4.toNatClampNeg) → (vp_in x2 4 ∧ (vp_in 3 7 ∧ ∀ S8, S8 = su S6 17 t (3 : Int32).toNatClampNeg (S6.1 11 t x2.toNatClampNeg) → (vp_in 4 7 ∧ ∀ S9, S9 = su S8 17 t (4 : Int32).toNatClampNeg (S8.1 10 t 2) → (vp_in 5 7 ∧ ∀ S10, S10 = su S9 17 t (5 : Int32).toNatClampNeg x2 → (vp_in 6 7 ∧ ∀ S11, S11 = su S10 17 t (6 : Int32).toNatClampNeg x3 → ((S11.1 10 t 3).toNatClampNeg < 6 ∧ wpX3_value ((S11.1 10 t 3).toNatClampNeg) x1 t S11 (fun r13 S13 => K r13 S13)))))))))))))
set_option maxRecDepth 4000 in
theorem bX5_ruled {p : Program} {l : Launch} {e : Env} {R : Room} {s : State} {m : MethodId} {args : Array Value} {below : List Frame} {meth : Method} {c : Code} {D : va_G} {ad : Nat → Nat → Nat} {cs : Nat → ClassId} {P : Nat → Nat → Prop} {sz tU : Nat} {adK adV : Nat → Nat} {K : Int32 → St → Prop} {t : Nat} {x1 : Int32} {x2 : Int32} {x3 : Int32} {S : St} {H : Heap} {locs : List Loc} {ls : Array Slot} (E : Ex p s m args meth c R RX5 cX5_ruled 4 (some .int) 3 107 D ad cs P (wA ad P) tU adK adV cnA) (ht : t < 3) (hw : wpX5_ruled t x1 x2 x3 S K) (hh : wH D ad cs P (wA ad P) s.heap sz S H locs) (hl : lv_has ls 4 [(0, .ref (ad 10 t)), (1, .int x1), (2, .int x2), (3, .int x3)]) : W p l e R s m args below meth c H locs 0 0 (MQ below (va_Qi K (QX D ad cs P sz) (wA ad P)) args s 0 0 (wA ad P)) (F0 m 0 ls []) := by
  have hx := E.hx
  have hb := E.hb
  refine lv_aload_n hx hb dX5_ruled_0 rfl (lv_at hl 0 rfl) ?_
  refine g_10_12 E hh tb341 (E.hn 10 t ht) dX5_ruled_1 ?_
  refine lv_iconst (v := 1) hx hb dX5_ruled_4 (by decide) ?_
  refine lv_aload_n hx hb dX5_ruled_5 rfl (lv_at hl 0 rfl) ?_
  refine g_10_10 E hh tb335 (E.hn 10 t ht) dX5_ruled_6 ?_
  refine lv_iload_n hx hb dX5_ruled_9 rfl (lv_at hl 2 rfl) ?_
  refine lv_iload_n hx hb dX5_ruled_10 rfl (lv_at hl 3 rfl) ?_
  refine x_ci E.hA hh (x_runS E hh (mX5_at E.hI (fun _ _ h => absurd h (Nat.not_lt_zero _)) hw) kX5_at tb461 ⟨by decide, by decide⟩ rfl hl.1 rfl (Nat.le_of_ble_eq_true rfl) dX5_ruled_11 ⟨Nat.zero_le _, Nat.zero_le _⟩) (fun r1 S1 H locs hw hh => ?_)
  obtain ⟨hi2, hw⟩ := hw
  refine x_iald E hh (E.hn 15 t ht) ly_15 hi2 dX5_ruled_14 ?_
  obtain ⟨hi3, hw⟩ := hw
  refine x_iast E hh (E.hn 17 t ht) ly_17 hi3 dX5_ruled_15 (fun S3 H locs e3 hh => ?_)
  have hw := hw S3 e3
  refine lv_aload_n hx hb dX5_ruled_16 rfl (lv_at hl 0 rfl) ?_
  refine g_10_12 E hh tb341 (E.hn 10 t ht) dX5_ruled_17 ?_
  refine lv_iconst (v := 2) hx hb dX5_ruled_20 (by decide) ?_
  refine lv_aload_n hx hb dX5_ruled_21 rfl (lv_at hl 0 rfl) ?_
  refine g_10_11 E hh tb338 (E.hn 10 t ht) dX5_ruled_22 ?_
  refine lv_iload_n hx hb dX5_ruled_25 rfl (lv_at hl 2 rfl) ?_
  refine lv_iload_n hx hb dX5_ruled_26 rfl (lv_at hl 3 rfl) ?_
  refine x_ci E.hA hh (x_runS E hh (mX5_at E.hI (fun _ _ h => absurd h (Nat.not_lt_zero _)) hw) kX5_at tb461 ⟨by decide, by decide⟩ rfl hl.1 rfl (Nat.le_of_ble_eq_true rfl) dX5_ruled_27 ⟨Nat.zero_le _, Nat.zero_le _⟩) (fun r4 S4 H locs hw hh => ?_)
  obtain ⟨hi5, hw⟩ := hw
  refine x_iald E hh (E.hn 16 t ht) ly_16 hi5 dX5_ruled_30 ?_
  obtain ⟨hi6, hw⟩ := hw
  refine x_iast E hh (E.hn 17 t ht) ly_17 hi6 dX5_ruled_31 (fun S6 H locs e6 hh => ?_)
  have hw := hw S6 e6
  refine lv_aload_n hx hb dX5_ruled_32 rfl (lv_at hl 0 rfl) ?_
  refine g_10_12 E hh tb341 (E.hn 10 t ht) dX5_ruled_33 ?_
  refine lv_iconst (v := 3) hx hb dX5_ruled_36 (by decide) ?_
  refine lv_aload_n hx hb dX5_ruled_37 rfl (lv_at hl 0 rfl) ?_
  refine g_10_6 E hh tb326 (E.hn 10 t ht) dX5_ruled_38 ?_
  refine lv_iload_n hx hb dX5_ruled_41 rfl (lv_at hl 2 rfl) ?_
  obtain ⟨hi7, hw⟩ := hw
  refine x_iald E hh (E.hn 11 t ht) ly_11 hi7 dX5_ruled_42 ?_
  obtain ⟨hi8, hw⟩ := hw
  refine x_iast E hh (E.hn 17 t ht) ly_17 hi8 dX5_ruled_43 (fun S8 H locs e8 hh => ?_)
  have hw := hw S8 e8
  refine lv_aload_n hx hb dX5_ruled_44 rfl (lv_at hl 0 rfl) ?_
  refine g_10_12 E hh tb341 (E.hn 10 t ht) dX5_ruled_45 ?_
  refine lv_iconst (v := 4) hx hb dX5_ruled_48 (by decide) ?_
  refine lv_aload_n hx hb dX5_ruled_49 rfl (lv_at hl 0 rfl) ?_
  refine g_10_2 E hh tb316 (E.hn 10 t ht) dX5_ruled_50 ?_
  obtain ⟨hi9, hw⟩ := hw
  refine x_iast E hh (E.hn 17 t ht) ly_17 hi9 dX5_ruled_53 (fun S9 H locs e9 hh => ?_)
  have hw := hw S9 e9
  refine lv_aload_n hx hb dX5_ruled_54 rfl (lv_at hl 0 rfl) ?_
  refine g_10_12 E hh tb341 (E.hn 10 t ht) dX5_ruled_55 ?_
  refine lv_iconst (v := 5) hx hb dX5_ruled_58 (by decide) ?_
  refine lv_iload_n hx hb dX5_ruled_59 rfl (lv_at hl 2 rfl) ?_
  obtain ⟨hi10, hw⟩ := hw
  refine x_iast E hh (E.hn 17 t ht) ly_17 hi10 dX5_ruled_60 (fun S10 H locs e10 hh => ?_)
  have hw := hw S10 e10
  refine lv_aload_n hx hb dX5_ruled_61 rfl (lv_at hl 0 rfl) ?_
  refine g_10_12 E hh tb341 (E.hn 10 t ht) dX5_ruled_62 ?_
  refine lv_bipush (v := 6) hx hb dX5_ruled_65 (by decide) ?_
  refine lv_iload_n hx hb dX5_ruled_67 rfl (lv_at hl 3 rfl) ?_
  obtain ⟨hi11, hw⟩ := hw
  refine x_iast E hh (E.hn 17 t ht) ly_17 hi11 dX5_ruled_68 (fun S11 H locs e11 hh => ?_)
  have hw := hw S11 e11
  refine lv_aload_n hx hb dX5_ruled_69 rfl (lv_at hl 0 rfl) ?_
  obtain ⟨hl12, hw⟩ := hw
  refine g_10_3 E hh tb319 (E.hn 10 t ht) dX5_ruled_70 ?_
  refine lv_iload_n hx hb dX5_ruled_73 rfl (lv_at hl 1 rfl) ?_
  refine lv_aload_n hx hb dX5_ruled_74 rfl (lv_at hl 0 rfl) ?_
  refine g_10_12 E hh tb341 (E.hn 10 t ht) dX5_ruled_75 ?_
  refine x_ci E.hA hh (x_runV E hh (mX3_value E.hI (fun kd i h => E.hn kd i (Nat.lt_of_lt_of_le h (cnBA kd))) hl12 (E.hn 17 t ht) hw) kX3_value tb469 (E.hn 6 ((S11.1 10 t 3).toNatClampNeg) hl12) rv_6 ⟨by decide, by decide⟩ rfl hl.1 rfl (Nat.le_of_ble_eq_true rfl) dX5_ruled_78 ⟨Nat.zero_le _, Nat.zero_le _⟩) (fun r13 S13 H locs hw hh => ?_)
  exact x_iret E hh hw dX5_ruled_81
theorem kX5_ruled : kI yX5_ruled cX5_ruled 4 (some .int) 3 := ⟨tb467, ts14, tb13, tb468, by decide, by decide, by decide +kernel⟩
theorem mX5_ruled {l : Launch} {D : va_G} {ad : Nat → Nat → Nat} {cs : Nat → ClassId} {P : Nat → Nat → Prop} {sz tU : Nat} {adK adV : Nat → Nat} {t : Nat} {x1 : Int32} {x2 : Int32} {x3 : Int32} {S : St} {K : Int32 → St → Prop} (hI : wI ad P) (hn : ∀ kd i, i < cnA kd → P kd i) (ht : t < 3) (hw : wpX5_ruled t x1 x2 x3 S K) : MI l yX5_ruled cX5_ruled 4 (some .int) 3 107 D ad cs P sz tU adK adV [.ref (ad 10 t), .int x1, .int x2, .int x3] S K :=
  Met_of (by decide) (Nat.le_of_ble_eq_true rfl) hI hn (fun p e R s m args below meth c ls E hl hh => bX5_ruled E ht hw hh (lv_sub hl [0, 1, 2, 3] rfl))
def wbX5_saysNo_44 (t : Nat) (K : Int32 → St → Prop) (S : St) : Prop := K 1 S
set_option maxRecDepth 4000 in
theorem bX5_saysNo_44 {p : Program} {l : Launch} {e : Env} {R : Room} {s : State} {m : MethodId} {args : Array Value} {below : List Frame} {meth : Method} {c : Code} {D : va_G} {ad : Nat → Nat → Nat} {cs : Nat → ClassId} {P : Nat → Nat → Prop} {sz tU : Nat} {adK adV : Nat → Nat} {t : Nat} {K : Int32 → St → Prop} {S : St} {H : Heap} {locs : List Loc} {ls : Array Slot} (E : Ex p s m args meth c R RX5 cX5_saysNo 3 (some .boolean) 4 130 D ad cs P (wA ad P) tU adK adV cnA) (ht : t < 3) (hw : wbX5_saysNo_44 t K S) (hh : wH D ad cs P (wA ad P) s.heap sz S H locs) (hl : lv_has ls 3 []) : W p l e R s m args below meth c H locs 0 0 (MQ below (va_Qi (fun r S => K r S ∧ narrow .boolean (.int r) = .int r) (QX D ad cs P sz) (wA ad P)) args s 0 0 (wA ad P)) (F0 m 44 ls []) := by
  have hx := E.hx
  have hb := E.hb
  refine lv_iconst (v := 1) hx hb dX5_saysNo_44 (by decide) ?_
  refine lv_goto (tgt := 49) hx hb dX5_saysNo_45 (by decide) ?_
  exact x_zret E hh hw rfl dX5_saysNo_49
def wpX5_saysNo (t : Nat) (x1 : Int32) (x2 : Int32) (S : St) (K : Int32 → St → Prop) : Prop := (vp_in x2 4 ∧ (vp_in x2 4 ∧ wpX5_at x1 x2 S (fun r3 S3 => (vp_in r3 16 ∧ (vp_in x1 4 ∧ wpX0_refuses (S.1 13 t x2.toNatClampNeg) (S.1 14 t x2.toNatClampNeg) (S3.1 16 t r3.toNatClampNeg) (S3.1 11 t x1.toNatClampNeg) S3 (fun r6 S6 => if r6 = 0 then (wpX5_ruled t 0 x1 x2 S6 (fun r8 S8 => if r8 = 0 then (wbX5_saysNo_44 t K S8) else (K 0 S8))) else (wbX5_saysNo_44 t K S6)))))))
set_option maxRecDepth 4000 in
theorem bX5_saysNo {p : Program} {l : Launch} {e : Env} {R : Room} {s : State} {m : MethodId} {args : Array Value} {below : List Frame} {meth : Method} {c : Code} {D : va_G} {ad : Nat → Nat → Nat} {cs : Nat → ClassId} {P : Nat → Nat → Prop} {sz tU : Nat} {adK adV : Nat → Nat} {K : Int32 → St → Prop} {t : Nat} {x1 : Int32} {x2 : Int32} {S : St} {H : Heap} {locs : List Loc} {ls : Array Slot} (E : Ex p s m args meth c R RX5 cX5_saysNo 3 (some .boolean) 4 130 D ad cs P (wA ad P) tU adK adV cnA) (ht : t < 3) (hw : wpX5_saysNo t x1 x2 S K) (hh : wH D ad cs P (wA ad P) s.heap sz S H locs) (hl : lv_has ls 3 [(0, .ref (ad 10 t)), (1, .int x1), (2, .int x2)]) : W p l e R s m args below meth c H locs 0 0 (MQ below (va_Qi (fun r S => K r S ∧ narrow .boolean (.int r) = .int r) (QX D ad cs P sz) (wA ad P)) args s 0 0 (wA ad P)) (F0 m 0 ls []) := by
  have hx := E.hx
  have hb := E.hb
  refine lv_aload_n hx hb dX5_saysNo_0 rfl (lv_at hl 0 rfl) ?_
  refine g_10_8 E hh tb331 (E.hn 10 t ht) dX5_saysNo_1 ?_
  refine lv_iload_n hx hb dX5_saysNo_4 rfl (lv_at hl 2 rfl) ?_
  obtain ⟨hi1, hw⟩ := hw
  refine x_iald E hh (E.hn 13 t ht) ly_13 hi1 dX5_saysNo_5 ?_
  refine lv_aload_n hx hb dX5_saysNo_6 rfl (lv_at hl 0 rfl) ?_
  refine g_10_9 E hh tb333 (E.hn 10 t ht) dX5_saysNo_7 ?_
  refine lv_iload_n hx hb dX5_saysNo_10 rfl (lv_at hl 2 rfl) ?_
  obtain ⟨hi2, hw⟩ := hw
  refine x_iald E hh (E.hn 14 t ht) ly_14 hi2 dX5_saysNo_11 ?_
  refine lv_aload_n hx hb dX5_saysNo_12 rfl (lv_at hl 0 rfl) ?_
  refine g_10_11 E hh tb338 (E.hn 10 t ht) dX5_saysNo_13 ?_
  refine lv_iload_n hx hb dX5_saysNo_16 rfl (lv_at hl 1 rfl) ?_
  refine lv_iload_n hx hb dX5_saysNo_17 rfl (lv_at hl 2 rfl) ?_
  refine x_ci E.hA hh (x_runS E hh (mX5_at E.hI (fun _ _ h => absurd h (Nat.not_lt_zero _)) hw) kX5_at tb461 ⟨by decide, by decide⟩ rfl hl.1 rfl (Nat.le_of_ble_eq_true rfl) dX5_saysNo_18 ⟨Nat.zero_le _, Nat.zero_le _⟩) (fun r3 S3 H locs hw hh => ?_)
  obtain ⟨hi4, hw⟩ := hw
  refine x_iald E hh (E.hn 16 t ht) ly_16 hi4 dX5_saysNo_21 ?_
  refine lv_aload_n hx hb dX5_saysNo_22 rfl (lv_at hl 0 rfl) ?_
  refine g_10_6 E hh tb326 (E.hn 10 t ht) dX5_saysNo_23 ?_
  refine lv_iload_n hx hb dX5_saysNo_26 rfl (lv_at hl 1 rfl) ?_
  obtain ⟨hi5, hw⟩ := hw
  refine x_iald E hh (E.hn 11 t ht) ly_11 hi5 dX5_saysNo_27 ?_
  refine x_ci E.hA hh (x_runS E hh (mX0_refuses E.hI (fun _ _ h => absurd h (Nat.not_lt_zero _)) hw) kX0_refuses tb462 ⟨by decide, by decide⟩ rfl hl.1 rfl (Nat.le_of_ble_eq_true rfl) dX5_saysNo_28 ⟨Nat.zero_le _, Nat.zero_le _⟩) (fun r6 S6 H locs hw hh => ?_)
  have hq6 := hw.2
  have hw := hw.1
  refine lv_if_ne (tgt := 44) hx hb dX5_saysNo_31 (by decide) (fun c7 => ?_) (fun c7 => ?_)
  · have hw := ifF hw c7
    exact bX5_saysNo_44 E ht hw hh (lv_sub hl [] rfl)
  · have hw := ifT hw c7
    refine lv_aload_n hx hb dX5_saysNo_34 rfl (lv_at hl 0 rfl) ?_
    refine lv_iconst (v := 0) hx hb dX5_saysNo_35 (by decide) ?_
    refine lv_iload_n hx hb dX5_saysNo_36 rfl (lv_at hl 1 rfl) ?_
    refine lv_iload_n hx hb dX5_saysNo_37 rfl (lv_at hl 2 rfl) ?_
    refine x_ci E.hA hh (x_runV E hh (mX5_ruled E.hI E.hn ht hw) kX5_ruled tb465 (E.hn 10 t ht) rv_10 ⟨by decide, by decide⟩ rfl hl.1 rfl (Nat.le_of_ble_eq_true rfl) dX5_saysNo_38 ⟨Nat.zero_le _, Nat.zero_le _⟩) (fun r8 S8 H locs hw hh => ?_)
    refine lv_if_ne (tgt := 48) hx hb dX5_saysNo_41 (by decide) (fun c9 => ?_) (fun c9 => ?_)
    · have hw := ifF hw c9
      refine lv_iconst (v := 0) hx hb dX5_saysNo_48 (by decide) ?_
      exact x_zret E hh hw rfl dX5_saysNo_49
    · have hw := ifT hw c9
      exact bX5_saysNo_44 E ht hw hh (lv_sub hl [] rfl)
theorem kX5_saysNo : kI yX5_saysNo cX5_saysNo 3 (some .boolean) 2 := ⟨tb458, tb459, tb13, tb460, by decide, by decide, by decide +kernel⟩
theorem mX5_saysNo {l : Launch} {D : va_G} {ad : Nat → Nat → Nat} {cs : Nat → ClassId} {P : Nat → Nat → Prop} {sz tU : Nat} {adK adV : Nat → Nat} {t : Nat} {x1 : Int32} {x2 : Int32} {S : St} {K : Int32 → St → Prop} (hI : wI ad P) (hn : ∀ kd i, i < cnA kd → P kd i) (ht : t < 3) (hw : wpX5_saysNo t x1 x2 S K) : MI l yX5_saysNo cX5_saysNo 3 (some .boolean) 4 130 D ad cs P sz tU adK adV [.ref (ad 10 t), .int x1, .int x2] S (fun r S => K r S ∧ narrow .boolean (.int r) = .int r) :=
  Met_of (by decide) (Nat.le_of_ble_eq_true rfl) hI hn (fun p e R s m args below meth c ls E hl hh => bX5_saysNo E ht hw hh (lv_sub hl [0, 1, 2] rfl))
def wpX5_worth (t : Nat) (x1 : Int32) (x2 : Int32) (S : St) (K : Int32 → St → Prop) : Prop := wpX5_ruled t 1 x1 x2 S (fun r1 S1 => K (if 0 < (if 99 < r1 then 99 else r1 : Int32) then (if 99 < r1 then 99 else r1 : Int32) else 0 : Int32) S1)
set_option maxRecDepth 4000 in
theorem bX5_worth {p : Program} {l : Launch} {e : Env} {R : Room} {s : State} {m : MethodId} {args : Array Value} {below : List Frame} {meth : Method} {c : Code} {D : va_G} {ad : Nat → Nat → Nat} {cs : Nat → ClassId} {P : Nat → Nat → Prop} {sz tU : Nat} {adK adV : Nat → Nat} {K : Int32 → St → Prop} {t : Nat} {x1 : Int32} {x2 : Int32} {S : St} {H : Heap} {locs : List Loc} {ls : Array Slot} (E : Ex p s m args meth c R RX5 cX5_worth 3 (some .int) 4 130 D ad cs P (wA ad P) tU adK adV cnA) (ht : t < 3) (hw : wpX5_worth t x1 x2 S K) (hh : wH D ad cs P (wA ad P) s.heap sz S H locs) (hl : lv_has ls 3 [(0, .ref (ad 10 t)), (1, .int x1), (2, .int x2)]) : W p l e R s m args below meth c H locs 0 0 (MQ below (va_Qi K (QX D ad cs P sz) (wA ad P)) args s 0 0 (wA ad P)) (F0 m 0 ls []) := by
  have hx := E.hx
  have hb := E.hb
  refine lv_iconst (v := 0) hx hb dX5_worth_0 (by decide) ?_
  refine lv_aload_n hx hb dX5_worth_1 rfl (lv_at hl 0 rfl) ?_
  refine lv_iconst (v := 1) hx hb dX5_worth_2 (by decide) ?_
  refine lv_iload_n hx hb dX5_worth_3 rfl (lv_at hl 1 rfl) ?_
  refine lv_iload_n hx hb dX5_worth_4 rfl (lv_at hl 2 rfl) ?_
  refine x_ci E.hA hh (x_runV E hh (mX5_ruled E.hI E.hn ht hw) kX5_ruled tb465 (E.hn 10 t ht) rv_10 ⟨by decide, by decide⟩ rfl hl.1 rfl (Nat.le_of_ble_eq_true rfl) dX5_worth_5 ⟨Nat.zero_le _, Nat.zero_le _⟩) (fun r1 S1 H locs hw hh => ?_)
  refine lv_bipush (v := 99) hx hb dX5_worth_8 (by decide) ?_
  refine va_mmin hx hb (E.hml.trans hl.1.symm) E.hown (E.hts _ tb483) (E.hts _ tb295) (E.hts _ tb11) (E.hts _ tb296) (Nat.le_trans (by decide) E.hf) (Nat.le_trans (Nat.le_of_ble_eq_true rfl) E.hl) (Nat.zero_le _) (Nat.zero_le _) dX5_worth_10 ?_
  refine va_mmax hx hb (E.hml.trans hl.1.symm) E.hown (E.hts _ tb484) (E.hts _ tb485) (E.hts _ tb11) (E.hts _ tb486) (Nat.le_trans (by decide) E.hf) (Nat.le_trans (Nat.le_of_ble_eq_true rfl) E.hl) (Nat.zero_le _) (Nat.zero_le _) dX5_worth_13 ?_
  exact x_iret E hh hw dX5_worth_16
theorem kX5_worth : kI yX5_worth cX5_worth 3 (some .int) 2 := ⟨tb480, tb481, tb13, tb482, by decide, by decide, by decide +kernel⟩
theorem mX5_worth {l : Launch} {D : va_G} {ad : Nat → Nat → Nat} {cs : Nat → ClassId} {P : Nat → Nat → Prop} {sz tU : Nat} {adK adV : Nat → Nat} {t : Nat} {x1 : Int32} {x2 : Int32} {S : St} {K : Int32 → St → Prop} (hI : wI ad P) (hn : ∀ kd i, i < cnA kd → P kd i) (ht : t < 3) (hw : wpX5_worth t x1 x2 S K) : MI l yX5_worth cX5_worth 3 (some .int) 4 130 D ad cs P sz tU adK adV [.ref (ad 10 t), .int x1, .int x2] S K :=
  Met_of (by decide) (Nat.le_of_ble_eq_true rfl) hI hn (fun p e R s m args below meth c ls E hl hh => bX5_worth E ht hw hh (lv_sub hl [0, 1, 2] rfl))
def wpX5_resemble (t : Nat) (u1 : Nat) (S : St) (K : St → Prop) : Prop := (∀ S1, S1 = su S 10 t 0 (S.1 10 u1 0) → (∀ S2, S2 = su S1 10 t 1 (S1.1 10 u1 1) → (∀ S3, S3 = su S2 10 t 2 (S2.1 10 u1 2) → ((S3.1 10 u1 3).toNatClampNeg < 6 ∧ (∀ S5, S5 = su S3 10 t 3 (S3.1 10 u1 3) → (∀ S6, S6 = su S5 10 t 4 0 → (∀ S7, S7 = su S6 10 t 5 0 → ((¬ (0 : Int32) < 0 ∧ ¬ (0 : Int32) < 0 ∧ ¬ (4 : Int32) < 0 ∧ (0 : Int32).toNatClampNeg + (4 : Int32).toNatClampNeg ≤ 4 ∧ (0 : Int32).toNatClampNeg + (4 : Int32).toNatClampNeg ≤ 4) ∧ ∀ S8, S8 = sa S7 11 t (va_cpy (S7.1 11 u1) (S7.1 11 t) (0 : Int32).toNatClampNeg (0 : Int32).toNatClampNeg (4 : Int32).toNatClampNeg) → ((¬ (0 : Int32) < 0 ∧ ¬ (0 : Int32) < 0 ∧ ¬ (4 : Int32) < 0 ∧ (0 : Int32).toNatClampNeg + (4 : Int32).toNatClampNeg ≤ 4 ∧ (0 : Int32).toNatClampNeg + (4 : Int32).toNatClampNeg ≤ 4) ∧ ∀ S9, S9 = sa S8 12 t (va_cpy (S8.1 12 u1) (S8.1 12 t) (0 : Int32).toNatClampNeg (0 : Int32).toNatClampNeg (4 : Int32).toNatClampNeg) → ((¬ (0 : Int32) < 0 ∧ ¬ (0 : Int32) < 0 ∧ ¬ (4 : Int32) < 0 ∧ (0 : Int32).toNatClampNeg + (4 : Int32).toNatClampNeg ≤ 4 ∧ (0 : Int32).toNatClampNeg + (4 : Int32).toNatClampNeg ≤ 4) ∧ ∀ S10, S10 = sa S9 13 t (va_cpy (S9.1 13 u1) (S9.1 13 t) (0 : Int32).toNatClampNeg (0 : Int32).toNatClampNeg (4 : Int32).toNatClampNeg) → ((¬ (0 : Int32) < 0 ∧ ¬ (0 : Int32) < 0 ∧ ¬ (4 : Int32) < 0 ∧ (0 : Int32).toNatClampNeg + (4 : Int32).toNatClampNeg ≤ 4 ∧ (0 : Int32).toNatClampNeg + (4 : Int32).toNatClampNeg ≤ 4) ∧ ∀ S11, S11 = sa S10 14 t (va_cpy (S10.1 14 u1) (S10.1 14 t) (0 : Int32).toNatClampNeg (0 : Int32).toNatClampNeg (4 : Int32).toNatClampNeg) → ((¬ (0 : Int32) < 0 ∧ ¬ (0 : Int32) < 0 ∧ ¬ (16 : Int32) < 0 ∧ (0 : Int32).toNatClampNeg + (16 : Int32).toNatClampNeg ≤ 16 ∧ (0 : Int32).toNatClampNeg + (16 : Int32).toNatClampNeg ≤ 16) ∧ ∀ S12, S12 = sa S11 15 t (va_cpy (S11.1 15 u1) (S11.1 15 t) (0 : Int32).toNatClampNeg (0 : Int32).toNatClampNeg (16 : Int32).toNatClampNeg) → ((¬ (0 : Int32) < 0 ∧ ¬ (0 : Int32) < 0 ∧ ¬ (16 : Int32) < 0 ∧ (0 : Int32).toNatClampNeg + (16 : Int32).toNatClampNeg ≤ 16 ∧ (0 : Int32).toNatClampNeg + (16 : Int32).toNatClampNeg ≤ 16) ∧ ∀ S13, S13 = sa S12 16 t (va_cpy (S12.1 16 u1) (S12.1 16 t) (0 : Int32).toNatClampNeg (0 : Int32).toNatClampNeg (16 : Int32).toNatClampNeg) → K S13)))))))))))))
set_option maxRecDepth 4000 in
theorem bX5_resemble {p : Program} {l : Launch} {e : Env} {R : Room} {s : State} {m : MethodId} {args : Array Value} {below : List Frame} {meth : Method} {c : Code} {D : va_G} {ad : Nat → Nat → Nat} {cs : Nat → ClassId} {P : Nat → Nat → Prop} {sz tU : Nat} {adK adV : Nat → Nat} {K : St → Prop} {t : Nat} {u1 : Nat} {S : St} {H : Heap} {locs : List Loc} {ls : Array Slot} (E : Ex p s m args meth c R RX5 cX5_resemble 2 none 1 60 D ad cs P (wA ad P) tU adK adV cnA) (ht : t < 3) (hu1 : u1 < 3) (hw : wpX5_resemble t u1 S K) (hh : wH D ad cs P (wA ad P) s.heap sz S H locs) (hl : lv_has ls 2 [(0, .ref (ad 10 t)), (1, .ref (ad 10 u1))]) : W p l e R s m args below meth c H locs 0 0 (MQ below (va_Qv K (QX D ad cs P sz) (wA ad P)) args s 0 0 (wA ad P)) (F0 m 0 ls []) := by
  have hx := E.hx
  have hb := E.hb
  refine lv_aload_n hx hb dX5_resemble_0 rfl (lv_at hl 0 rfl) ?_
  refine lv_aload_n hx hb dX5_resemble_1 rfl (lv_at hl 1 rfl) ?_
  refine g_10_0 E hh tb309 (E.hn 10 u1 hu1) dX5_resemble_2 ?_
  refine p_10_0 E hh tb309 (E.hn 10 t ht) dX5_resemble_5 (fun S1 H locs e1 hh => ?_)
  have hw := hw S1 e1
  refine lv_aload_n hx hb dX5_resemble_8 rfl (lv_at hl 0 rfl) ?_
  refine lv_aload_n hx hb dX5_resemble_9 rfl (lv_at hl 1 rfl) ?_
  refine g_10_1 E hh tb312 (E.hn 10 u1 hu1) dX5_resemble_10 ?_
  refine p_10_1 E hh tb312 (E.hn 10 t ht) dX5_resemble_13 (fun S2 H locs e2 hh => ?_)
  have hw := hw S2 e2
  refine lv_aload_n hx hb dX5_resemble_16 rfl (lv_at hl 0 rfl) ?_
  refine lv_aload_n hx hb dX5_resemble_17 rfl (lv_at hl 1 rfl) ?_
  refine g_10_2 E hh tb316 (E.hn 10 u1 hu1) dX5_resemble_18 ?_
  refine p_10_2 E hh tb316 (E.hn 10 t ht) dX5_resemble_21 (fun S3 H locs e3 hh => ?_)
  have hw := hw S3 e3
  refine lv_aload_n hx hb dX5_resemble_24 rfl (lv_at hl 0 rfl) ?_
  refine lv_aload_n hx hb dX5_resemble_25 rfl (lv_at hl 1 rfl) ?_
  obtain ⟨hl4, hw⟩ := hw
  refine g_10_3 E hh tb319 (E.hn 10 u1 hu1) dX5_resemble_26 ?_
  refine p_10_3 E hh tb319 (E.hn 10 t ht) dX5_resemble_29 (fun S5 H locs e5 hh => ?_)
  have hw := hw S5 e5
  refine lv_aload_n hx hb dX5_resemble_32 rfl (lv_at hl 0 rfl) ?_
  refine lv_iconst (v := 0) hx hb dX5_resemble_33 (by decide) ?_
  refine p_10_4 E hh tb321 (E.hn 10 t ht) dX5_resemble_34 (fun S6 H locs e6 hh => ?_)
  have hw := hw S6 e6
  refine lv_aload_n hx hb dX5_resemble_37 rfl (lv_at hl 0 rfl) ?_
  refine lv_iconst (v := 0) hx hb dX5_resemble_38 (by decide) ?_
  refine p_10_5 E hh tb323 (E.hn 10 t ht) dX5_resemble_39 (fun S7 H locs e7 hh => ?_)
  have hw := hw S7 e7
  refine lv_aload_n hx hb dX5_resemble_42 rfl (lv_at hl 1 rfl) ?_
  refine g_10_6 E hh tb326 (E.hn 10 u1 hu1) dX5_resemble_43 ?_
  refine lv_iconst (v := 0) hx hb dX5_resemble_46 (by decide) ?_
  refine lv_aload_n hx hb dX5_resemble_47 rfl (lv_at hl 0 rfl) ?_
  refine g_10_6 E hh tb326 (E.hn 10 t ht) dX5_resemble_48 ?_
  refine lv_iconst (v := 0) hx hb dX5_resemble_51 (by decide) ?_
  refine lv_aload_n hx hb dX5_resemble_52 rfl (lv_at hl 0 rfl) ?_
  refine g_10_6 E hh tb326 (E.hn 10 t ht) dX5_resemble_53 ?_
  refine x_alen (v := 4) E hh (E.hn 11 t ht) ly_11 (by decide) rfl dX5_resemble_56 ?_
  obtain ⟨hy8, hw⟩ := hw
  refine x_copy E hh (E.hn 11 u1 hu1) (E.hn 11 t ht) ly_11 ly_11 hy8 (E.hml.trans hl.1.symm) tb547 (Nat.le_trans (by decide) E.hf) (Nat.le_trans (Nat.le_of_ble_eq_true rfl) E.hl) dX5_resemble_57 (fun S8 H locs e8 hh => ?_)
  have hw := hw S8 e8
  refine lv_aload_n hx hb dX5_resemble_60 rfl (lv_at hl 1 rfl) ?_
  refine g_10_7 E hh tb329 (E.hn 10 u1 hu1) dX5_resemble_61 ?_
  refine lv_iconst (v := 0) hx hb dX5_resemble_64 (by decide) ?_
  refine lv_aload_n hx hb dX5_resemble_65 rfl (lv_at hl 0 rfl) ?_
  refine g_10_7 E hh tb329 (E.hn 10 t ht) dX5_resemble_66 ?_
  refine lv_iconst (v := 0) hx hb dX5_resemble_69 (by decide) ?_
  refine lv_aload_n hx hb dX5_resemble_70 rfl (lv_at hl 0 rfl) ?_
  refine g_10_7 E hh tb329 (E.hn 10 t ht) dX5_resemble_71 ?_
  refine x_alen (v := 4) E hh (E.hn 12 t ht) ly_12 (by decide) rfl dX5_resemble_74 ?_
  obtain ⟨hy9, hw⟩ := hw
  refine x_copy E hh (E.hn 12 u1 hu1) (E.hn 12 t ht) ly_12 ly_12 hy9 (E.hml.trans hl.1.symm) tb547 (Nat.le_trans (by decide) E.hf) (Nat.le_trans (Nat.le_of_ble_eq_true rfl) E.hl) dX5_resemble_75 (fun S9 H locs e9 hh => ?_)
  have hw := hw S9 e9
  refine lv_aload_n hx hb dX5_resemble_78 rfl (lv_at hl 1 rfl) ?_
  refine g_10_8 E hh tb331 (E.hn 10 u1 hu1) dX5_resemble_79 ?_
  refine lv_iconst (v := 0) hx hb dX5_resemble_82 (by decide) ?_
  refine lv_aload_n hx hb dX5_resemble_83 rfl (lv_at hl 0 rfl) ?_
  refine g_10_8 E hh tb331 (E.hn 10 t ht) dX5_resemble_84 ?_
  refine lv_iconst (v := 0) hx hb dX5_resemble_87 (by decide) ?_
  refine lv_aload_n hx hb dX5_resemble_88 rfl (lv_at hl 0 rfl) ?_
  refine g_10_8 E hh tb331 (E.hn 10 t ht) dX5_resemble_89 ?_
  refine x_alen (v := 4) E hh (E.hn 13 t ht) ly_13 (by decide) rfl dX5_resemble_92 ?_
  obtain ⟨hy10, hw⟩ := hw
  refine x_copy E hh (E.hn 13 u1 hu1) (E.hn 13 t ht) ly_13 ly_13 hy10 (E.hml.trans hl.1.symm) tb547 (Nat.le_trans (by decide) E.hf) (Nat.le_trans (Nat.le_of_ble_eq_true rfl) E.hl) dX5_resemble_93 (fun S10 H locs e10 hh => ?_)
  have hw := hw S10 e10
  refine lv_aload_n hx hb dX5_resemble_96 rfl (lv_at hl 1 rfl) ?_
  refine g_10_9 E hh tb333 (E.hn 10 u1 hu1) dX5_resemble_97 ?_
  refine lv_iconst (v := 0) hx hb dX5_resemble_100 (by decide) ?_
  refine lv_aload_n hx hb dX5_resemble_101 rfl (lv_at hl 0 rfl) ?_
  refine g_10_9 E hh tb333 (E.hn 10 t ht) dX5_resemble_102 ?_
  refine lv_iconst (v := 0) hx hb dX5_resemble_105 (by decide) ?_
  refine lv_aload_n hx hb dX5_resemble_106 rfl (lv_at hl 0 rfl) ?_
  refine g_10_9 E hh tb333 (E.hn 10 t ht) dX5_resemble_107 ?_
  refine x_alen (v := 4) E hh (E.hn 14 t ht) ly_14 (by decide) rfl dX5_resemble_110 ?_
  obtain ⟨hy11, hw⟩ := hw
  refine x_copy E hh (E.hn 14 u1 hu1) (E.hn 14 t ht) ly_14 ly_14 hy11 (E.hml.trans hl.1.symm) tb547 (Nat.le_trans (by decide) E.hf) (Nat.le_trans (Nat.le_of_ble_eq_true rfl) E.hl) dX5_resemble_111 (fun S11 H locs e11 hh => ?_)
  have hw := hw S11 e11
  refine lv_aload_n hx hb dX5_resemble_114 rfl (lv_at hl 1 rfl) ?_
  refine g_10_10 E hh tb335 (E.hn 10 u1 hu1) dX5_resemble_115 ?_
  refine lv_iconst (v := 0) hx hb dX5_resemble_118 (by decide) ?_
  refine lv_aload_n hx hb dX5_resemble_119 rfl (lv_at hl 0 rfl) ?_
  refine g_10_10 E hh tb335 (E.hn 10 t ht) dX5_resemble_120 ?_
  refine lv_iconst (v := 0) hx hb dX5_resemble_123 (by decide) ?_
  refine lv_aload_n hx hb dX5_resemble_124 rfl (lv_at hl 0 rfl) ?_
  refine g_10_10 E hh tb335 (E.hn 10 t ht) dX5_resemble_125 ?_
  refine x_alen (v := 16) E hh (E.hn 15 t ht) ly_15 (by decide) rfl dX5_resemble_128 ?_
  obtain ⟨hy12, hw⟩ := hw
  refine x_copy E hh (E.hn 15 u1 hu1) (E.hn 15 t ht) ly_15 ly_15 hy12 (E.hml.trans hl.1.symm) tb547 (Nat.le_trans (by decide) E.hf) (Nat.le_trans (Nat.le_of_ble_eq_true rfl) E.hl) dX5_resemble_129 (fun S12 H locs e12 hh => ?_)
  have hw := hw S12 e12
  refine lv_aload_n hx hb dX5_resemble_132 rfl (lv_at hl 1 rfl) ?_
  refine g_10_11 E hh tb338 (E.hn 10 u1 hu1) dX5_resemble_133 ?_
  refine lv_iconst (v := 0) hx hb dX5_resemble_136 (by decide) ?_
  refine lv_aload_n hx hb dX5_resemble_137 rfl (lv_at hl 0 rfl) ?_
  refine g_10_11 E hh tb338 (E.hn 10 t ht) dX5_resemble_138 ?_
  refine lv_iconst (v := 0) hx hb dX5_resemble_141 (by decide) ?_
  refine lv_aload_n hx hb dX5_resemble_142 rfl (lv_at hl 0 rfl) ?_
  refine g_10_11 E hh tb338 (E.hn 10 t ht) dX5_resemble_143 ?_
  refine x_alen (v := 16) E hh (E.hn 16 t ht) ly_16 (by decide) rfl dX5_resemble_146 ?_
  obtain ⟨hy13, hw⟩ := hw
  refine x_copy E hh (E.hn 16 u1 hu1) (E.hn 16 t ht) ly_16 ly_16 hy13 (E.hml.trans hl.1.symm) tb547 (Nat.le_trans (by decide) E.hf) (Nat.le_trans (Nat.le_of_ble_eq_true rfl) E.hl) dX5_resemble_147 (fun S13 H locs e13 hh => ?_)
  have hw := hw S13 e13
  exact x_vret E hh hw dX5_resemble_150
theorem kX5_resemble : kI yX5_resemble cX5_resemble 2 none 1 := ⟨tb544, tb545, tb13, tb546, by decide, by decide, by decide +kernel⟩
theorem mX5_resemble {l : Launch} {D : va_G} {ad : Nat → Nat → Nat} {cs : Nat → ClassId} {P : Nat → Nat → Prop} {sz tU : Nat} {adK adV : Nat → Nat} {t : Nat} {u1 : Nat} {S : St} {K : St → Prop} (hI : wI ad P) (hn : ∀ kd i, i < cnA kd → P kd i) (ht : t < 3) (hu1 : u1 < 3) (hw : wpX5_resemble t u1 S K) : MV l yX5_resemble cX5_resemble 2 none 1 60 D ad cs P sz tU adK adV [.ref (ad 10 t), .ref (ad 10 u1)] S K :=
  Met_of (by decide) (Nat.le_of_ble_eq_true rfl) hI hn (fun p e R s m args below meth c ls E hl hh => bX5_resemble E ht hu1 hw hh (lv_sub hl [0, 1] rfl))
def wbX5_husband_2 (t : Nat) (K : Int32 → St → Prop) (x1 : Int32) : Nat → Int32 → St → Prop
  | 0, _, _ => False
  | n + 1, x2, S => if (S.1 10 t 0) ≤ x2 then (K (-1) S) else ((vp_in x2 4 ∧ if (S.1 12 t x2.toNatClampNeg) = x1 then (K x2 S) else (wbX5_husband_2 t K x1 n (x2 + 1) S)))
set_option maxRecDepth 4000 in
theorem bX5_husband_2 {p : Program} {l : Launch} {e : Env} {R : Room} {s : State} {m : MethodId} {args : Array Value} {below : List Frame} {meth : Method} {c : Code} {D : va_G} {ad : Nat → Nat → Nat} {cs : Nat → ClassId} {P : Nat → Nat → Prop} {sz tU : Nat} {adK adV : Nat → Nat} {t : Nat} {K : Int32 → St → Prop} {x1 : Int32} (E : Ex p s m args meth c R RX5 cX5_husband 3 (some .int) 1 60 D ad cs P (wA ad P) tU adK adV cnA) (ht : t < 3) : ∀ (n : Nat) (x2 : Int32) (S : St) (H : Heap) (locs : List Loc) (ls : Array Slot), wbX5_husband_2 t K x1 n x2 S → wH D ad cs P (wA ad P) s.heap sz S H locs → lv_has ls 3 [(0, .ref (ad 10 t)), (1, .int x1), (2, .int x2)] → W p l e R s m args below meth c H locs 0 0 (MQ below (va_Qi K (QX D ad cs P sz) (wA ad P)) args s 0 0 (wA ad P)) (F0 m 2 ls []) := by
  have hx := E.hx
  have hb := E.hb
  intro n
  induction n with
  | zero => intro x2 S H locs ls hw hh hl; exact hw.elim
  | succ n ih =>
    intro x2 S H locs ls hw hh hl
    refine lv_iload_n hx hb dX5_husband_2 rfl (lv_at hl 2 rfl) ?_
    refine lv_aload_n hx hb dX5_husband_3 rfl (lv_at hl 0 rfl) ?_
    refine g_10_0 E hh tb309 (E.hn 10 t ht) dX5_husband_4 ?_
    refine lv_icmp_ge (tgt := 28) hx hb dX5_husband_7 (by decide) (fun c1 => ?_) (fun c1 => ?_)
    · have hw := ifT hw c1
      refine lv_iconst (v := (-1)) hx hb dX5_husband_28 (by decide) ?_
      exact x_iret E hh hw dX5_husband_29
    · have hw := ifF hw c1
      refine lv_aload_n hx hb dX5_husband_10 rfl (lv_at hl 0 rfl) ?_
      refine g_10_7 E hh tb329 (E.hn 10 t ht) dX5_husband_11 ?_
      refine lv_iload_n hx hb dX5_husband_14 rfl (lv_at hl 2 rfl) ?_
      obtain ⟨hi2, hw⟩ := hw
      refine x_iald E hh (E.hn 12 t ht) ly_12 hi2 dX5_husband_15 ?_
      refine lv_iload_n hx hb dX5_husband_16 rfl (lv_at hl 1 rfl) ?_
      refine lv_icmp_ne (tgt := 22) hx hb dX5_husband_17 (by decide) (fun c3 => ?_) (fun c3 => ?_)
      · have hw := ifF hw c3
        refine lv_iinc (k := 2) (v := x2 + 1) (lv' := [(2, .int (x2 + 1)), (0, .ref (ad 10 t)), (1, .int x1)]) hx hb dX5_husband_22 hl rfl rfl (by decide) rfl (fun ls hl => ?_)
        refine lv_goto (tgt := 2) hx hb dX5_husband_25 (by decide) ?_
        exact ih (x2 + 1) S _ _ _ hw hh (lv_sub hl [1, 2, 0] rfl)
      · have hw := ifT hw c3
        refine lv_iload_n hx hb dX5_husband_20 rfl (lv_at hl 2 rfl) ?_
        exact x_iret E hh hw dX5_husband_21
def wpX5_husband (t : Nat) (x1 : Int32) (S : St) (K : Int32 → St → Prop) : Prop := ∃ k, wbX5_husband_2 t K x1 k 0 S
set_option maxRecDepth 4000 in
theorem bX5_husband {p : Program} {l : Launch} {e : Env} {R : Room} {s : State} {m : MethodId} {args : Array Value} {below : List Frame} {meth : Method} {c : Code} {D : va_G} {ad : Nat → Nat → Nat} {cs : Nat → ClassId} {P : Nat → Nat → Prop} {sz tU : Nat} {adK adV : Nat → Nat} {K : Int32 → St → Prop} {t : Nat} {x1 : Int32} {S : St} {H : Heap} {locs : List Loc} {ls : Array Slot} (E : Ex p s m args meth c R RX5 cX5_husband 3 (some .int) 1 60 D ad cs P (wA ad P) tU adK adV cnA) (ht : t < 3) (hw : wpX5_husband t x1 S K) (hh : wH D ad cs P (wA ad P) s.heap sz S H locs) (hl : lv_has ls 3 [(0, .ref (ad 10 t)), (1, .int x1)]) : W p l e R s m args below meth c H locs 0 0 (MQ below (va_Qi K (QX D ad cs P sz) (wA ad P)) args s 0 0 (wA ad P)) (F0 m 0 ls []) := by
  have hx := E.hx
  have hb := E.hb
  refine lv_iconst (v := 0) hx hb dX5_husband_0 (by decide) ?_
  refine lv_istore_n (lv' := [(2, .int 0), (0, .ref (ad 10 t)), (1, .int x1)]) hx hb dX5_husband_1 rfl hl (by decide) rfl (fun ls hl => ?_)
  obtain ⟨k, hw⟩ := hw
  exact bX5_husband_2 E ht k 0 S _ _ _ hw hh (lv_sub hl [1, 2, 0] rfl)
theorem kX5_husband : kI yX5_husband cX5_husband 3 (some .int) 1 := ⟨tb451, tb452, tb13, tb453, by decide, by decide, by decide +kernel⟩
theorem mX5_husband {l : Launch} {D : va_G} {ad : Nat → Nat → Nat} {cs : Nat → ClassId} {P : Nat → Nat → Prop} {sz tU : Nat} {adK adV : Nat → Nat} {t : Nat} {x1 : Int32} {S : St} {K : Int32 → St → Prop} (hI : wI ad P) (hn : ∀ kd i, i < cnA kd → P kd i) (ht : t < 3) (hw : wpX5_husband t x1 S K) : MI l yX5_husband cX5_husband 3 (some .int) 1 60 D ad cs P sz tU adK adV [.ref (ad 10 t), .int x1] S K :=
  Met_of (by decide) (Nat.le_of_ble_eq_true rfl) hI hn (fun p e R s m args below meth c ls E hl hh => bX5_husband E ht hw hh (lv_sub hl [0, 1] rfl))
def wbX5_marriedMen_25 (t : Nat) (R4 : Int32 → Int32 → St → Prop) (K : Int32 → St → Prop) (x1 : Int32) (x2 : Int32) (S : St) : Prop := R4 x1 (x2 + 1) S
set_option maxRecDepth 4000 in
theorem bX5_marriedMen_25 {p : Program} {l : Launch} {e : Env} {R : Room} {s : State} {m : MethodId} {args : Array Value} {below : List Frame} {meth : Method} {c : Code} {D : va_G} {ad : Nat → Nat → Nat} {cs : Nat → ClassId} {P : Nat → Nat → Prop} {sz tU : Nat} {adK adV : Nat → Nat} {t : Nat} {R4 : Int32 → Int32 → St → Prop} {K : Int32 → St → Prop} {x1 : Int32} {x2 : Int32} {S : St} {H : Heap} {locs : List Loc} {ls : Array Slot} (E : Ex p s m args meth c R RX5 cX5_marriedMen 3 (some .int) 1 60 D ad cs P (wA ad P) tU adK adV cnA) (ht : t < 3) (hR4 : ∀ (z1 : Int32) (z2 : Int32) (S : St) (H : Heap) (locs : List Loc) (ls : Array Slot), R4 z1 z2 S → wH D ad cs P (wA ad P) s.heap sz S H locs → lv_has ls 3 [(0, .ref (ad 10 t)), (1, .int z1), (2, .int z2)] → W p l e R s m args below meth c H locs 0 0 (MQ below (va_Qi K (QX D ad cs P sz) (wA ad P)) args s 0 0 (wA ad P)) (F0 m 4 ls [])) (hw : wbX5_marriedMen_25 t R4 K x1 x2 S) (hh : wH D ad cs P (wA ad P) s.heap sz S H locs) (hl : lv_has ls 3 [(0, .ref (ad 10 t)), (1, .int x1), (2, .int x2)]) : W p l e R s m args below meth c H locs 0 0 (MQ below (va_Qi K (QX D ad cs P sz) (wA ad P)) args s 0 0 (wA ad P)) (F0 m 25 ls []) := by
  have hx := E.hx
  have hb := E.hb
  refine lv_iinc (k := 2) (v := x2 + 1) (lv' := [(2, .int (x2 + 1)), (0, .ref (ad 10 t)), (1, .int x1)]) hx hb dX5_marriedMen_25 hl rfl rfl (by decide) rfl (fun ls hl => ?_)
  refine lv_goto (tgt := 4) hx hb dX5_marriedMen_28 (by decide) ?_
  exact hR4 x1 (x2 + 1) S _ _ _ hw hh (lv_sub hl [1, 2, 0] rfl)
def wbX5_marriedMen_4 (t : Nat) (K : Int32 → St → Prop) : Nat → Int32 → Int32 → St → Prop
  | 0, _, _, _ => False
  | n + 1, x1, x2, S => if (S.1 10 t 0) ≤ x2 then (K x1 S) else ((vp_in x2 4 ∧ if (S.1 12 t x2.toNatClampNeg) = (-1) then (wbX5_marriedMen_25 t (fun yx1 yx2 S9 => wbX5_marriedMen_4 t K n yx1 yx2 S9) K x1 x2 S) else (wbX5_marriedMen_25 t (fun yx1 yx2 S9 => wbX5_marriedMen_4 t K n yx1 yx2 S9) K (x1 + 1) x2 S)))
set_option maxRecDepth 4000 in
theorem bX5_marriedMen_4 {p : Program} {l : Launch} {e : Env} {R : Room} {s : State} {m : MethodId} {args : Array Value} {below : List Frame} {meth : Method} {c : Code} {D : va_G} {ad : Nat → Nat → Nat} {cs : Nat → ClassId} {P : Nat → Nat → Prop} {sz tU : Nat} {adK adV : Nat → Nat} {t : Nat} {K : Int32 → St → Prop} (E : Ex p s m args meth c R RX5 cX5_marriedMen 3 (some .int) 1 60 D ad cs P (wA ad P) tU adK adV cnA) (ht : t < 3) : ∀ (n : Nat) (x1 : Int32) (x2 : Int32) (S : St) (H : Heap) (locs : List Loc) (ls : Array Slot), wbX5_marriedMen_4 t K n x1 x2 S → wH D ad cs P (wA ad P) s.heap sz S H locs → lv_has ls 3 [(0, .ref (ad 10 t)), (1, .int x1), (2, .int x2)] → W p l e R s m args below meth c H locs 0 0 (MQ below (va_Qi K (QX D ad cs P sz) (wA ad P)) args s 0 0 (wA ad P)) (F0 m 4 ls []) := by
  have hx := E.hx
  have hb := E.hb
  intro n
  induction n with
  | zero => intro x1 x2 S H locs ls hw hh hl; exact hw.elim
  | succ n ih =>
    intro x1 x2 S H locs ls hw hh hl
    refine lv_iload_n hx hb dX5_marriedMen_4 rfl (lv_at hl 2 rfl) ?_
    refine lv_aload_n hx hb dX5_marriedMen_5 rfl (lv_at hl 0 rfl) ?_
    refine g_10_0 E hh tb309 (E.hn 10 t ht) dX5_marriedMen_6 ?_
    refine lv_icmp_ge (tgt := 31) hx hb dX5_marriedMen_9 (by decide) (fun c1 => ?_) (fun c1 => ?_)
    · have hw := ifT hw c1
      refine lv_iload_n hx hb dX5_marriedMen_31 rfl (lv_at hl 1 rfl) ?_
      exact x_iret E hh hw dX5_marriedMen_32
    · have hw := ifF hw c1
      refine lv_aload_n hx hb dX5_marriedMen_12 rfl (lv_at hl 0 rfl) ?_
      refine g_10_7 E hh tb329 (E.hn 10 t ht) dX5_marriedMen_13 ?_
      refine lv_iload_n hx hb dX5_marriedMen_16 rfl (lv_at hl 2 rfl) ?_
      obtain ⟨hi2, hw⟩ := hw
      refine x_iald E hh (E.hn 12 t ht) ly_12 hi2 dX5_marriedMen_17 ?_
      refine lv_iconst (v := (-1)) hx hb dX5_marriedMen_18 (by decide) ?_
      refine lv_icmp_eq (tgt := 25) hx hb dX5_marriedMen_19 (by decide) (fun c3 => ?_) (fun c3 => ?_)
      · have hw := ifT hw c3
        exact bX5_marriedMen_25 E ht ih hw hh (lv_sub hl [0, 1, 2] rfl)
      · have hw := ifF hw c3
        refine lv_iinc (k := 1) (v := x1 + 1) (lv' := [(1, .int (x1 + 1)), (0, .ref (ad 10 t)), (2, .int x2)]) hx hb dX5_marriedMen_22 hl rfl rfl (by decide) rfl (fun ls hl => ?_)
        exact bX5_marriedMen_25 E ht ih hw hh (lv_sub hl [1, 0, 2] rfl)
def wpX5_marriedMen (t : Nat) (S : St) (K : Int32 → St → Prop) : Prop := ∃ k, wbX5_marriedMen_4 t K k 0 0 S
set_option maxRecDepth 4000 in
theorem bX5_marriedMen {p : Program} {l : Launch} {e : Env} {R : Room} {s : State} {m : MethodId} {args : Array Value} {below : List Frame} {meth : Method} {c : Code} {D : va_G} {ad : Nat → Nat → Nat} {cs : Nat → ClassId} {P : Nat → Nat → Prop} {sz tU : Nat} {adK adV : Nat → Nat} {K : Int32 → St → Prop} {t : Nat} {S : St} {H : Heap} {locs : List Loc} {ls : Array Slot} (E : Ex p s m args meth c R RX5 cX5_marriedMen 3 (some .int) 1 60 D ad cs P (wA ad P) tU adK adV cnA) (ht : t < 3) (hw : wpX5_marriedMen t S K) (hh : wH D ad cs P (wA ad P) s.heap sz S H locs) (hl : lv_has ls 3 [(0, .ref (ad 10 t))]) : W p l e R s m args below meth c H locs 0 0 (MQ below (va_Qi K (QX D ad cs P sz) (wA ad P)) args s 0 0 (wA ad P)) (F0 m 0 ls []) := by
  have hx := E.hx
  have hb := E.hb
  refine lv_iconst (v := 0) hx hb dX5_marriedMen_0 (by decide) ?_
  refine lv_istore_n (lv' := [(1, .int 0), (0, .ref (ad 10 t))]) hx hb dX5_marriedMen_1 rfl hl (by decide) rfl (fun ls hl => ?_)
  refine lv_iconst (v := 0) hx hb dX5_marriedMen_2 (by decide) ?_
  refine lv_istore_n (lv' := [(2, .int 0), (1, .int 0), (0, .ref (ad 10 t))]) hx hb dX5_marriedMen_3 rfl hl (by decide) rfl (fun ls hl => ?_)
  obtain ⟨k, hw⟩ := hw
  exact bX5_marriedMen_4 E ht k 0 0 S _ _ _ hw hh (lv_sub hl [2, 1, 0] rfl)
theorem kX5_marriedMen : kI yX5_marriedMen cX5_marriedMen 3 (some .int) 0 := ⟨tb647, tb648, tb13, tb649, by decide, by decide, by decide +kernel⟩
theorem mX5_marriedMen {l : Launch} {D : va_G} {ad : Nat → Nat → Nat} {cs : Nat → ClassId} {P : Nat → Nat → Prop} {sz tU : Nat} {adK adV : Nat → Nat} {t : Nat} {S : St} {K : Int32 → St → Prop} (hI : wI ad P) (hn : ∀ kd i, i < cnA kd → P kd i) (ht : t < 3) (hw : wpX5_marriedMen t S K) : MI l yX5_marriedMen cX5_marriedMen 3 (some .int) 1 60 D ad cs P sz tU adK adV [.ref (ad 10 t)] S K :=
  Met_of (by decide) (Nat.le_of_ble_eq_true rfl) hI hn (fun p e R s m args below meth c ls E hl hh => bX5_marriedMen E ht hw hh (lv_sub hl [0] rfl))
def wpX5_mayAsk (t : Nat) (x1 : Int32) (x2 : Int32) (S : St) (K : Int32 → St → Prop) : Prop := (vp_in x1 4 ∧ if (S.1 12 t x1.toNatClampNeg) = (-1) then (wpX5_husband t x2 S (fun r3 S3 => if r3 = (-1) then ((vp_in x1 4 ∧ (vp_in x2 4 ∧ (vp_in x2 4 ∧ wpX0_needs (S3.1 13 t x2.toNatClampNeg) (S3.1 14 t x2.toNatClampNeg) S3 (fun r8 S8 => if (S3.1 11 t x1.toNatClampNeg) < r8 then (K 0 S8) else (K 1 S8)))))) else (K 0 S3))) else (K 0 S))
set_option maxRecDepth 4000 in
theorem bX5_mayAsk {p : Program} {l : Launch} {e : Env} {R : Room} {s : State} {m : MethodId} {args : Array Value} {below : List Frame} {meth : Method} {c : Code} {D : va_G} {ad : Nat → Nat → Nat} {cs : Nat → ClassId} {P : Nat → Nat → Prop} {sz tU : Nat} {adK adV : Nat → Nat} {K : Int32 → St → Prop} {t : Nat} {x1 : Int32} {x2 : Int32} {S : St} {H : Heap} {locs : List Loc} {ls : Array Slot} (E : Ex p s m args meth c R RX5 cX5_mayAsk 3 (some .boolean) 2 82 D ad cs P (wA ad P) tU adK adV cnA) (ht : t < 3) (hw : wpX5_mayAsk t x1 x2 S K) (hh : wH D ad cs P (wA ad P) s.heap sz S H locs) (hl : lv_has ls 3 [(0, .ref (ad 10 t)), (1, .int x1), (2, .int x2)]) : W p l e R s m args below meth c H locs 0 0 (MQ below (va_Qi (fun r S => K r S ∧ narrow .boolean (.int r) = .int r) (QX D ad cs P sz) (wA ad P)) args s 0 0 (wA ad P)) (F0 m 0 ls []) := by
  have hx := E.hx
  have hb := E.hb
  refine lv_aload_n hx hb dX5_mayAsk_0 rfl (lv_at hl 0 rfl) ?_
  refine g_10_7 E hh tb329 (E.hn 10 t ht) dX5_mayAsk_1 ?_
  refine lv_iload_n hx hb dX5_mayAsk_4 rfl (lv_at hl 1 rfl) ?_
  obtain ⟨hi1, hw⟩ := hw
  refine x_iald E hh (E.hn 12 t ht) ly_12 hi1 dX5_mayAsk_5 ?_
  refine lv_iconst (v := (-1)) hx hb dX5_mayAsk_6 (by decide) ?_
  refine lv_icmp_ne (tgt := 47) hx hb dX5_mayAsk_7 (by decide) (fun c2 => ?_) (fun c2 => ?_)
  · have hw := ifF hw c2
    refine lv_iconst (v := 0) hx hb dX5_mayAsk_47 (by decide) ?_
    exact x_zret E hh hw rfl dX5_mayAsk_48
  · have hw := ifT hw c2
    refine lv_aload_n hx hb dX5_mayAsk_10 rfl (lv_at hl 0 rfl) ?_
    refine lv_iload_n hx hb dX5_mayAsk_11 rfl (lv_at hl 2 rfl) ?_
    refine x_ci E.hA hh (x_runV E hh (mX5_husband E.hI E.hn ht hw) kX5_husband tb450 (E.hn 10 t ht) rv_10 ⟨by decide, by decide⟩ rfl hl.1 rfl (Nat.le_of_ble_eq_true rfl) dX5_mayAsk_12 ⟨Nat.zero_le _, Nat.zero_le _⟩) (fun r3 S3 H locs hw hh => ?_)
    refine lv_iconst (v := (-1)) hx hb dX5_mayAsk_15 (by decide) ?_
    refine lv_icmp_ne (tgt := 47) hx hb dX5_mayAsk_16 (by decide) (fun c4 => ?_) (fun c4 => ?_)
    · have hw := ifF hw c4
      refine lv_iconst (v := 0) hx hb dX5_mayAsk_47 (by decide) ?_
      exact x_zret E hh hw rfl dX5_mayAsk_48
    · have hw := ifT hw c4
      refine lv_aload_n hx hb dX5_mayAsk_19 rfl (lv_at hl 0 rfl) ?_
      refine g_10_6 E hh tb326 (E.hn 10 t ht) dX5_mayAsk_20 ?_
      refine lv_iload_n hx hb dX5_mayAsk_23 rfl (lv_at hl 1 rfl) ?_
      obtain ⟨hi5, hw⟩ := hw
      refine x_iald E hh (E.hn 11 t ht) ly_11 hi5 dX5_mayAsk_24 ?_
      refine lv_aload_n hx hb dX5_mayAsk_25 rfl (lv_at hl 0 rfl) ?_
      refine g_10_8 E hh tb331 (E.hn 10 t ht) dX5_mayAsk_26 ?_
      refine lv_iload_n hx hb dX5_mayAsk_29 rfl (lv_at hl 2 rfl) ?_
      obtain ⟨hi6, hw⟩ := hw
      refine x_iald E hh (E.hn 13 t ht) ly_13 hi6 dX5_mayAsk_30 ?_
      refine lv_aload_n hx hb dX5_mayAsk_31 rfl (lv_at hl 0 rfl) ?_
      refine g_10_9 E hh tb333 (E.hn 10 t ht) dX5_mayAsk_32 ?_
      refine lv_iload_n hx hb dX5_mayAsk_35 rfl (lv_at hl 2 rfl) ?_
      obtain ⟨hi7, hw⟩ := hw
      refine x_iald E hh (E.hn 14 t ht) ly_14 hi7 dX5_mayAsk_36 ?_
      refine x_ci E.hA hh (x_runS E hh (mX0_needs E.hI (fun _ _ h => absurd h (Nat.not_lt_zero _)) hw) kX0_needs tb454 ⟨by decide, by decide⟩ rfl hl.1 rfl (Nat.le_of_ble_eq_true rfl) dX5_mayAsk_37 ⟨Nat.zero_le _, Nat.zero_le _⟩) (fun r8 S8 H locs hw hh => ?_)
      refine lv_icmp_lt (tgt := 47) hx hb dX5_mayAsk_40 (by decide) (fun c9 => ?_) (fun c9 => ?_)
      · have hw := ifT hw c9
        refine lv_iconst (v := 0) hx hb dX5_mayAsk_47 (by decide) ?_
        exact x_zret E hh hw rfl dX5_mayAsk_48
      · have hw := ifF hw c9
        refine lv_iconst (v := 1) hx hb dX5_mayAsk_43 (by decide) ?_
        refine lv_goto (tgt := 48) hx hb dX5_mayAsk_44 (by decide) ?_
        exact x_zret E hh hw rfl dX5_mayAsk_48
theorem kX5_mayAsk : kI yX5_mayAsk cX5_mayAsk 3 (some .boolean) 2 := ⟨tb447, tb448, tb13, tb449, by decide, by decide, by decide +kernel⟩
theorem mX5_mayAsk {l : Launch} {D : va_G} {ad : Nat → Nat → Nat} {cs : Nat → ClassId} {P : Nat → Nat → Prop} {sz tU : Nat} {adK adV : Nat → Nat} {t : Nat} {x1 : Int32} {x2 : Int32} {S : St} {K : Int32 → St → Prop} (hI : wI ad P) (hn : ∀ kd i, i < cnA kd → P kd i) (ht : t < 3) (hw : wpX5_mayAsk t x1 x2 S K) : MI l yX5_mayAsk cX5_mayAsk 3 (some .boolean) 2 82 D ad cs P sz tU adK adV [.ref (ad 10 t), .int x1, .int x2] S (fun r S => K r S ∧ narrow .boolean (.int r) = .int r) :=
  Met_of (by decide) (Nat.le_of_ble_eq_true rfl) hI hn (fun p e R s m args below meth c ls E hl hh => bX5_mayAsk E ht hw hh (lv_sub hl [0, 1, 2] rfl))
def wpX5_wants (t : Nat) (x1 : Int32) (x2 : Int32) (S : St) (K : Int32 → St → Prop) : Prop := wpX5_ruled t 2 x1 x2 S (fun r1 S1 => if r1 = 0 then (K 0 S1) else (K 1 S1))
set_option maxRecDepth 4000 in
theorem bX5_wants {p : Program} {l : Launch} {e : Env} {R : Room} {s : State} {m : MethodId} {args : Array Value} {below : List Frame} {meth : Method} {c : Code} {D : va_G} {ad : Nat → Nat → Nat} {cs : Nat → ClassId} {P : Nat → Nat → Prop} {sz tU : Nat} {adK adV : Nat → Nat} {K : Int32 → St → Prop} {t : Nat} {x1 : Int32} {x2 : Int32} {S : St} {H : Heap} {locs : List Loc} {ls : Array Slot} (E : Ex p s m args meth c R RX5 cX5_wants 3 (some .boolean) 4 130 D ad cs P (wA ad P) tU adK adV cnA) (ht : t < 3) (hw : wpX5_wants t x1 x2 S K) (hh : wH D ad cs P (wA ad P) s.heap sz S H locs) (hl : lv_has ls 3 [(0, .ref (ad 10 t)), (1, .int x1), (2, .int x2)]) : W p l e R s m args below meth c H locs 0 0 (MQ below (va_Qi (fun r S => K r S ∧ narrow .boolean (.int r) = .int r) (QX D ad cs P sz) (wA ad P)) args s 0 0 (wA ad P)) (F0 m 0 ls []) := by
  have hx := E.hx
  have hb := E.hb
  refine lv_aload_n hx hb dX5_wants_0 rfl (lv_at hl 0 rfl) ?_
  refine lv_iconst (v := 2) hx hb dX5_wants_1 (by decide) ?_
  refine lv_iload_n hx hb dX5_wants_2 rfl (lv_at hl 1 rfl) ?_
  refine lv_iload_n hx hb dX5_wants_3 rfl (lv_at hl 2 rfl) ?_
  refine x_ci E.hA hh (x_runV E hh (mX5_ruled E.hI E.hn ht hw) kX5_ruled tb465 (E.hn 10 t ht) rv_10 ⟨by decide, by decide⟩ rfl hl.1 rfl (Nat.le_of_ble_eq_true rfl) dX5_wants_4 ⟨Nat.zero_le _, Nat.zero_le _⟩) (fun r1 S1 H locs hw hh => ?_)
  refine lv_if_eq (tgt := 14) hx hb dX5_wants_7 (by decide) (fun c2 => ?_) (fun c2 => ?_)
  · have hw := ifT hw c2
    refine lv_iconst (v := 0) hx hb dX5_wants_14 (by decide) ?_
    exact x_zret E hh hw rfl dX5_wants_15
  · have hw := ifF hw c2
    refine lv_iconst (v := 1) hx hb dX5_wants_10 (by decide) ?_
    refine lv_goto (tgt := 15) hx hb dX5_wants_11 (by decide) ?_
    exact x_zret E hh hw rfl dX5_wants_15
theorem kX5_wants : kI yX5_wants cX5_wants 3 (some .boolean) 2 := ⟨tb488, tb489, tb13, tb490, by decide, by decide, by decide +kernel⟩
theorem mX5_wants {l : Launch} {D : va_G} {ad : Nat → Nat → Nat} {cs : Nat → ClassId} {P : Nat → Nat → Prop} {sz tU : Nat} {adK adV : Nat → Nat} {t : Nat} {x1 : Int32} {x2 : Int32} {S : St} {K : Int32 → St → Prop} (hI : wI ad P) (hn : ∀ kd i, i < cnA kd → P kd i) (ht : t < 3) (hw : wpX5_wants t x1 x2 S K) : MI l yX5_wants cX5_wants 3 (some .boolean) 4 130 D ad cs P sz tU adK adV [.ref (ad 10 t), .int x1, .int x2] S (fun r S => K r S ∧ narrow .boolean (.int r) = .int r) :=
  Met_of (by decide) (Nat.le_of_ble_eq_true rfl) hI hn (fun p e R s m args below meth c ls E hl hh => bX5_wants E ht hw hh (lv_sub hl [0, 1, 2] rfl))
def wbX5_endAsking_57 (t : Nat) (K : St → Prop) (S : St) : Prop := (∀ S9, S9 = su S 10 t 2 (if 99 < ((S.1 10 t 2) + 1) then 99 else ((S.1 10 t 2) + 1) : Int32) → (∀ S10, S10 = su S9 10 t 4 ((S9.1 10 t 4) + 1) → K S10))
set_option maxRecDepth 4000 in
theorem bX5_endAsking_57 {p : Program} {l : Launch} {e : Env} {R : Room} {s : State} {m : MethodId} {args : Array Value} {below : List Frame} {meth : Method} {c : Code} {D : va_G} {ad : Nat → Nat → Nat} {cs : Nat → ClassId} {P : Nat → Nat → Prop} {sz tU : Nat} {adK adV : Nat → Nat} {t : Nat} {K : St → Prop} {S : St} {H : Heap} {locs : List Loc} {ls : Array Slot} (E : Ex p s m args meth c R RX5 cX5_endAsking 4 none 2 81 D ad cs P (wA ad P) tU adK adV cnA) (ht : t < 3) (hw : wbX5_endAsking_57 t K S) (hh : wH D ad cs P (wA ad P) s.heap sz S H locs) (hl : lv_has ls 4 [(0, .ref (ad 10 t))]) : W p l e R s m args below meth c H locs 0 0 (MQ below (va_Qv K (QX D ad cs P sz) (wA ad P)) args s 0 0 (wA ad P)) (F0 m 57 ls []) := by
  have hx := E.hx
  have hb := E.hb
  refine lv_aload_n hx hb dX5_endAsking_57 rfl (lv_at hl 0 rfl) ?_
  refine lv_aload_n hx hb dX5_endAsking_58 rfl (lv_at hl 0 rfl) ?_
  refine g_10_2 E hh tb316 (E.hn 10 t ht) dX5_endAsking_59 ?_
  refine lv_iconst (v := 1) hx hb dX5_endAsking_62 (by decide) ?_
  refine lv_iadd hx hb dX5_endAsking_63 ?_
  refine lv_bipush (v := 99) hx hb dX5_endAsking_64 (by decide) ?_
  refine va_mmin hx hb (E.hml.trans hl.1.symm) E.hown (E.hts _ tb483) (E.hts _ tb295) (E.hts _ tb11) (E.hts _ tb296) (Nat.le_trans (by decide) E.hf) (Nat.le_trans (Nat.le_of_ble_eq_true rfl) E.hl) (Nat.zero_le _) (Nat.zero_le _) dX5_endAsking_66 ?_
  refine p_10_2 E hh tb316 (E.hn 10 t ht) dX5_endAsking_69 (fun S9 H locs e9 hh => ?_)
  have hw := hw S9 e9
  refine lv_aload_n hx hb dX5_endAsking_72 rfl (lv_at hl 0 rfl) ?_
  refine lv_dup hx hb dX5_endAsking_73 rfl ?_
  refine g_10_4 E hh tb321 (E.hn 10 t ht) dX5_endAsking_74 ?_
  refine lv_iconst (v := 1) hx hb dX5_endAsking_77 (by decide) ?_
  refine lv_iadd hx hb dX5_endAsking_78 ?_
  refine p_10_4 E hh tb321 (E.hn 10 t ht) dX5_endAsking_79 (fun S10 H locs e10 hh => ?_)
  have hw := hw S10 e10
  exact x_vret E hh hw dX5_endAsking_82
def wpX5_endAsking (t : Nat) (x1 : Int32) (x2 : Int32) (x3 : Int32) (S : St) (K : St → Prop) : Prop := if x3 = 0 then ((vp_in x1 4 ∧ (vp_in x1 4 ∧ ∀ S3, S3 = su S 11 t x1.toNatClampNeg (if 9 < ((S.1 11 t x1.toNatClampNeg) + 1) then 9 else ((S.1 11 t x1.toNatClampNeg) + 1) : Int32) → (vp_in x2 4 ∧ (vp_in x2 4 ∧ wpX0_price (S3.1 13 t x2.toNatClampNeg) (S3.1 14 t x2.toNatClampNeg) S3 (fun r6 S6 => (∀ S7, S7 = su S6 10 t 5 ((S3.1 10 t 5) + r6) → wbX5_endAsking_57 t K S7))))))) else ((vp_in x1 4 ∧ ∀ S8, S8 = su S 12 t x1.toNatClampNeg x2 → wbX5_endAsking_57 t K S8))
set_option maxRecDepth 4000 in
theorem bX5_endAsking {p : Program} {l : Launch} {e : Env} {R : Room} {s : State} {m : MethodId} {args : Array Value} {below : List Frame} {meth : Method} {c : Code} {D : va_G} {ad : Nat → Nat → Nat} {cs : Nat → ClassId} {P : Nat → Nat → Prop} {sz tU : Nat} {adK adV : Nat → Nat} {K : St → Prop} {t : Nat} {x1 : Int32} {x2 : Int32} {x3 : Int32} {S : St} {H : Heap} {locs : List Loc} {ls : Array Slot} (E : Ex p s m args meth c R RX5 cX5_endAsking 4 none 2 81 D ad cs P (wA ad P) tU adK adV cnA) (ht : t < 3) (hw : wpX5_endAsking t x1 x2 x3 S K) (hh : wH D ad cs P (wA ad P) s.heap sz S H locs) (hl : lv_has ls 4 [(0, .ref (ad 10 t)), (1, .int x1), (2, .int x2), (3, .int x3)]) : W p l e R s m args below meth c H locs 0 0 (MQ below (va_Qv K (QX D ad cs P sz) (wA ad P)) args s 0 0 (wA ad P)) (F0 m 0 ls []) := by
  have hx := E.hx
  have hb := E.hb
  refine lv_iload_n hx hb dX5_endAsking_0 rfl (lv_at hl 3 rfl) ?_
  refine lv_if_eq (tgt := 14) hx hb dX5_endAsking_1 (by decide) (fun c1 => ?_) (fun c1 => ?_)
  · have hw := ifT hw c1
    refine lv_aload_n hx hb dX5_endAsking_14 rfl (lv_at hl 0 rfl) ?_
    refine g_10_6 E hh tb326 (E.hn 10 t ht) dX5_endAsking_15 ?_
    refine lv_iload_n hx hb dX5_endAsking_18 rfl (lv_at hl 1 rfl) ?_
    refine lv_aload_n hx hb dX5_endAsking_19 rfl (lv_at hl 0 rfl) ?_
    refine g_10_6 E hh tb326 (E.hn 10 t ht) dX5_endAsking_20 ?_
    refine lv_iload_n hx hb dX5_endAsking_23 rfl (lv_at hl 1 rfl) ?_
    obtain ⟨hi2, hw⟩ := hw
    refine x_iald E hh (E.hn 11 t ht) ly_11 hi2 dX5_endAsking_24 ?_
    refine lv_iconst (v := 1) hx hb dX5_endAsking_25 (by decide) ?_
    refine lv_iadd hx hb dX5_endAsking_26 ?_
    refine lv_bipush (v := 9) hx hb dX5_endAsking_27 (by decide) ?_
    refine va_mmin hx hb (E.hml.trans hl.1.symm) E.hown (E.hts _ tb483) (E.hts _ tb295) (E.hts _ tb11) (E.hts _ tb296) (Nat.le_trans (by decide) E.hf) (Nat.le_trans (Nat.le_of_ble_eq_true rfl) E.hl) (Nat.zero_le _) (Nat.zero_le _) dX5_endAsking_29 ?_
    obtain ⟨hi3, hw⟩ := hw
    refine x_iast E hh (E.hn 11 t ht) ly_11 hi3 dX5_endAsking_32 (fun S3 H locs e3 hh => ?_)
    have hw := hw S3 e3
    refine lv_aload_n hx hb dX5_endAsking_33 rfl (lv_at hl 0 rfl) ?_
    refine lv_dup hx hb dX5_endAsking_34 rfl ?_
    refine g_10_5 E hh tb323 (E.hn 10 t ht) dX5_endAsking_35 ?_
    refine lv_aload_n hx hb dX5_endAsking_38 rfl (lv_at hl 0 rfl) ?_
    refine g_10_8 E hh tb331 (E.hn 10 t ht) dX5_endAsking_39 ?_
    refine lv_iload_n hx hb dX5_endAsking_42 rfl (lv_at hl 2 rfl) ?_
    obtain ⟨hi4, hw⟩ := hw
    refine x_iald E hh (E.hn 13 t ht) ly_13 hi4 dX5_endAsking_43 ?_
    refine lv_aload_n hx hb dX5_endAsking_44 rfl (lv_at hl 0 rfl) ?_
    refine g_10_9 E hh tb333 (E.hn 10 t ht) dX5_endAsking_45 ?_
    refine lv_iload_n hx hb dX5_endAsking_48 rfl (lv_at hl 2 rfl) ?_
    obtain ⟨hi5, hw⟩ := hw
    refine x_iald E hh (E.hn 14 t ht) ly_14 hi5 dX5_endAsking_49 ?_
    refine x_ci E.hA hh (x_runS E hh (mX0_price E.hI (fun _ _ h => absurd h (Nat.not_lt_zero _)) hw) kX0_price tb534 ⟨by decide, by decide⟩ rfl hl.1 rfl (Nat.le_of_ble_eq_true rfl) dX5_endAsking_50 ⟨Nat.zero_le _, Nat.zero_le _⟩) (fun r6 S6 H locs hw hh => ?_)
    refine lv_iadd hx hb dX5_endAsking_53 ?_
    refine p_10_5 E hh tb323 (E.hn 10 t ht) dX5_endAsking_54 (fun S7 H locs e7 hh => ?_)
    have hw := hw S7 e7
    exact bX5_endAsking_57 E ht hw hh (lv_sub hl [0] rfl)
  · have hw := ifF hw c1
    refine lv_aload_n hx hb dX5_endAsking_4 rfl (lv_at hl 0 rfl) ?_
    refine g_10_7 E hh tb329 (E.hn 10 t ht) dX5_endAsking_5 ?_
    refine lv_iload_n hx hb dX5_endAsking_8 rfl (lv_at hl 1 rfl) ?_
    refine lv_iload_n hx hb dX5_endAsking_9 rfl (lv_at hl 2 rfl) ?_
    obtain ⟨hi8, hw⟩ := hw
    refine x_iast E hh (E.hn 12 t ht) ly_12 hi8 dX5_endAsking_10 (fun S8 H locs e8 hh => ?_)
    have hw := hw S8 e8
    refine lv_goto (tgt := 57) hx hb dX5_endAsking_11 (by decide) ?_
    exact bX5_endAsking_57 E ht hw hh (lv_sub hl [0] rfl)
theorem kX5_endAsking : kI yX5_endAsking cX5_endAsking 4 none 3 := ⟨tb531, tb532, tb13, tb533, by decide, by decide, by decide +kernel⟩
theorem mX5_endAsking {l : Launch} {D : va_G} {ad : Nat → Nat → Nat} {cs : Nat → ClassId} {P : Nat → Nat → Prop} {sz tU : Nat} {adK adV : Nat → Nat} {t : Nat} {x1 : Int32} {x2 : Int32} {x3 : Int32} {S : St} {K : St → Prop} (hI : wI ad P) (hn : ∀ kd i, i < cnA kd → P kd i) (ht : t < 3) (hw : wpX5_endAsking t x1 x2 x3 S K) : MV l yX5_endAsking cX5_endAsking 4 none 2 81 D ad cs P sz tU adK adV [.ref (ad 10 t), .int x1, .int x2, .int x3] S K :=
  Met_of (by decide) (Nat.le_of_ble_eq_true rfl) hI hn (fun p e R s m args below meth c ls E hl hh => bX5_endAsking E ht hw hh (lv_sub hl [0, 1, 2, 3] rfl))
def wbX5_asking_14 (t : Nat) (K : Int32 → St → Prop) (x1 : Int32) (x2 : Int32) (v0 : Int32) (S : St) : Prop := wpX5_endAsking t x1 x2 v0 S (fun S3 => (narrow .boolean (.int v0) = .int v0 ∧ K v0 S3))
set_option maxRecDepth 4000 in
theorem bX5_asking_14 {p : Program} {l : Launch} {e : Env} {R : Room} {s : State} {m : MethodId} {args : Array Value} {below : List Frame} {meth : Method} {c : Code} {D : va_G} {ad : Nat → Nat → Nat} {cs : Nat → ClassId} {P : Nat → Nat → Prop} {sz tU : Nat} {adK adV : Nat → Nat} {t : Nat} {K : Int32 → St → Prop} {x1 : Int32} {x2 : Int32} {v0 : Int32} {S : St} {H : Heap} {locs : List Loc} {ls : Array Slot} (E : Ex p s m args meth c R RX5 cX5_asking 4 (some .boolean) 5 152 D ad cs P (wA ad P) tU adK adV cnA) (ht : t < 3) (hw : wbX5_asking_14 t K x1 x2 v0 S) (hh : wH D ad cs P (wA ad P) s.heap sz S H locs) (hl : lv_has ls 4 [(0, .ref (ad 10 t)), (1, .int x1), (2, .int x2)]) : W p l e R s m args below meth c H locs 0 0 (MQ below (va_Qi (fun r S => K r S ∧ narrow .boolean (.int r) = .int r) (QX D ad cs P sz) (wA ad P)) args s 0 0 (wA ad P)) (F0 m 14 ls [.int v0]) := by
  have hx := E.hx
  have hb := E.hb
  refine lv_istore_n (lv' := [(3, .int v0), (0, .ref (ad 10 t)), (1, .int x1), (2, .int x2)]) hx hb dX5_asking_14 rfl hl (by decide) rfl (fun ls hl => ?_)
  refine lv_aload_n hx hb dX5_asking_15 rfl (lv_at hl 1 rfl) ?_
  refine lv_iload_n hx hb dX5_asking_16 rfl (lv_at hl 2 rfl) ?_
  refine lv_iload_n hx hb dX5_asking_17 rfl (lv_at hl 3 rfl) ?_
  refine lv_iload_n hx hb dX5_asking_18 rfl (lv_at hl 0 rfl) ?_
  refine x_cv E.hA hh (x_runV E hh (mX5_endAsking E.hI E.hn ht hw) kX5_endAsking tb530 (E.hn 10 t ht) rv_10 ⟨by decide, by decide⟩ rfl hl.1 rfl (Nat.le_of_ble_eq_true rfl) dX5_asking_19 ⟨Nat.zero_le _, Nat.zero_le _⟩) (fun S3 H locs hw hh => ?_)
  refine lv_iload_n hx hb dX5_asking_22 rfl (lv_at hl 0 rfl) ?_
  obtain ⟨hq4, hw⟩ := hw
  exact x_zret E hh hw hq4 dX5_asking_23
def wpX5_asking (t : Nat) (x1 : Int32) (x2 : Int32) (S : St) (K : Int32 → St → Prop) : Prop := wpX5_saysNo t x1 x2 S (fun r1 S1 => if r1 = 0 then (wbX5_asking_14 t K x1 x2 1 S1) else (wbX5_asking_14 t K x1 x2 0 S1))
set_option maxRecDepth 4000 in
theorem bX5_asking {p : Program} {l : Launch} {e : Env} {R : Room} {s : State} {m : MethodId} {args : Array Value} {below : List Frame} {meth : Method} {c : Code} {D : va_G} {ad : Nat → Nat → Nat} {cs : Nat → ClassId} {P : Nat → Nat → Prop} {sz tU : Nat} {adK adV : Nat → Nat} {K : Int32 → St → Prop} {t : Nat} {x1 : Int32} {x2 : Int32} {S : St} {H : Heap} {locs : List Loc} {ls : Array Slot} (E : Ex p s m args meth c R RX5 cX5_asking 4 (some .boolean) 5 152 D ad cs P (wA ad P) tU adK adV cnA) (ht : t < 3) (hw : wpX5_asking t x1 x2 S K) (hh : wH D ad cs P (wA ad P) s.heap sz S H locs) (hl : lv_has ls 4 [(0, .ref (ad 10 t)), (1, .int x1), (2, .int x2)]) : W p l e R s m args below meth c H locs 0 0 (MQ below (va_Qi (fun r S => K r S ∧ narrow .boolean (.int r) = .int r) (QX D ad cs P sz) (wA ad P)) args s 0 0 (wA ad P)) (F0 m 0 ls []) := by
  have hx := E.hx
  have hb := E.hb
  refine lv_aload_n hx hb dX5_asking_0 rfl (lv_at hl 0 rfl) ?_
  refine lv_iload_n hx hb dX5_asking_1 rfl (lv_at hl 1 rfl) ?_
  refine lv_iload_n hx hb dX5_asking_2 rfl (lv_at hl 2 rfl) ?_
  refine x_ci E.hA hh (x_runV E hh (mX5_saysNo E.hI E.hn ht hw) kX5_saysNo tb529 (E.hn 10 t ht) rv_10 ⟨by decide, by decide⟩ rfl hl.1 rfl (Nat.le_of_ble_eq_true rfl) dX5_asking_3 ⟨Nat.zero_le _, Nat.zero_le _⟩) (fun r1 S1 H locs hw hh => ?_)
  have hq1 := hw.2
  have hw := hw.1
  refine lv_if_ne (tgt := 13) hx hb dX5_asking_6 (by decide) (fun c2 => ?_) (fun c2 => ?_)
  · have hw := ifF hw c2
    refine lv_iconst (v := 0) hx hb dX5_asking_13 (by decide) ?_
    exact bX5_asking_14 E ht hw hh (lv_sub hl [0, 1, 2] rfl)
  · have hw := ifT hw c2
    refine lv_iconst (v := 1) hx hb dX5_asking_9 (by decide) ?_
    refine lv_goto (tgt := 14) hx hb dX5_asking_10 (by decide) ?_
    exact bX5_asking_14 E ht hw hh (lv_sub hl [0, 1, 2] rfl)
theorem kX5_asking : kI yX5_asking cX5_asking 4 (some .boolean) 2 := ⟨tb526, tb527, tb13, tb528, by decide, by decide, by decide +kernel⟩
theorem mX5_asking {l : Launch} {D : va_G} {ad : Nat → Nat → Nat} {cs : Nat → ClassId} {P : Nat → Nat → Prop} {sz tU : Nat} {adK adV : Nat → Nat} {t : Nat} {x1 : Int32} {x2 : Int32} {S : St} {K : Int32 → St → Prop} (hI : wI ad P) (hn : ∀ kd i, i < cnA kd → P kd i) (ht : t < 3) (hw : wpX5_asking t x1 x2 S K) : MI l yX5_asking cX5_asking 4 (some .boolean) 5 152 D ad cs P sz tU adK adV [.ref (ad 10 t), .int x1, .int x2] S (fun r S => K r S ∧ narrow .boolean (.int r) = .int r) :=
  Met_of (by decide) (Nat.le_of_ble_eq_true rfl) hI hn (fun p e R s m args below meth c ls E hl hh => bX5_asking E ht hw hh (lv_sub hl [0, 1, 2] rfl))
def wbX5_choice_60 (t : Nat) (R4 : Int32 → Int32 → St → Prop) (K : Int32 → St → Prop) (x1 : Int32) (x2 : Int32) (x3 : Int32) (S : St) : Prop := R4 x2 (x3 + 1) S
set_option maxRecDepth 4000 in
theorem bX5_choice_60 {p : Program} {l : Launch} {e : Env} {R : Room} {s : State} {m : MethodId} {args : Array Value} {below : List Frame} {meth : Method} {c : Code} {D : va_G} {ad : Nat → Nat → Nat} {cs : Nat → ClassId} {P : Nat → Nat → Prop} {sz tU : Nat} {adK adV : Nat → Nat} {t : Nat} {R4 : Int32 → Int32 → St → Prop} {K : Int32 → St → Prop} {x1 : Int32} {x2 : Int32} {x3 : Int32} {S : St} {H : Heap} {locs : List Loc} {ls : Array Slot} (E : Ex p s m args meth c R RX5 cX5_choice 4 (some .int) 5 152 D ad cs P (wA ad P) tU adK adV cnA) (ht : t < 3) (hR4 : ∀ (z2 : Int32) (z3 : Int32) (S : St) (H : Heap) (locs : List Loc) (ls : Array Slot), R4 z2 z3 S → wH D ad cs P (wA ad P) s.heap sz S H locs → lv_has ls 4 [(0, .ref (ad 10 t)), (1, .int x1), (2, .int z2), (3, .int z3)] → W p l e R s m args below meth c H locs 0 0 (MQ below (va_Qi K (QX D ad cs P sz) (wA ad P)) args s 0 0 (wA ad P)) (F0 m 4 ls [])) (hw : wbX5_choice_60 t R4 K x1 x2 x3 S) (hh : wH D ad cs P (wA ad P) s.heap sz S H locs) (hl : lv_has ls 4 [(0, .ref (ad 10 t)), (1, .int x1), (2, .int x2), (3, .int x3)]) : W p l e R s m args below meth c H locs 0 0 (MQ below (va_Qi K (QX D ad cs P sz) (wA ad P)) args s 0 0 (wA ad P)) (F0 m 60 ls []) := by
  have hx := E.hx
  have hb := E.hb
  refine lv_iinc (k := 3) (v := x3 + 1) (lv' := [(3, .int (x3 + 1)), (0, .ref (ad 10 t)), (1, .int x1), (2, .int x2)]) hx hb dX5_choice_60 hl rfl rfl (by decide) rfl (fun ls hl => ?_)
  refine lv_goto (tgt := 4) hx hb dX5_choice_63 (by decide) ?_
  exact hR4 x2 (x3 + 1) S _ _ _ hw hh (lv_sub hl [1, 2, 3, 0] rfl)
def wbX5_choice_58 (t : Nat) (R4 : Int32 → Int32 → St → Prop) (K : Int32 → St → Prop) (x1 : Int32) (x3 : Int32) (S : St) : Prop := wbX5_choice_60 t R4 K x1 x3 x3 S
set_option maxRecDepth 4000 in
theorem bX5_choice_58 {p : Program} {l : Launch} {e : Env} {R : Room} {s : State} {m : MethodId} {args : Array Value} {below : List Frame} {meth : Method} {c : Code} {D : va_G} {ad : Nat → Nat → Nat} {cs : Nat → ClassId} {P : Nat → Nat → Prop} {sz tU : Nat} {adK adV : Nat → Nat} {t : Nat} {R4 : Int32 → Int32 → St → Prop} {K : Int32 → St → Prop} {x1 : Int32} {x3 : Int32} {S : St} {H : Heap} {locs : List Loc} {ls : Array Slot} (E : Ex p s m args meth c R RX5 cX5_choice 4 (some .int) 5 152 D ad cs P (wA ad P) tU adK adV cnA) (ht : t < 3) (hR4 : ∀ (z2 : Int32) (z3 : Int32) (S : St) (H : Heap) (locs : List Loc) (ls : Array Slot), R4 z2 z3 S → wH D ad cs P (wA ad P) s.heap sz S H locs → lv_has ls 4 [(0, .ref (ad 10 t)), (1, .int x1), (2, .int z2), (3, .int z3)] → W p l e R s m args below meth c H locs 0 0 (MQ below (va_Qi K (QX D ad cs P sz) (wA ad P)) args s 0 0 (wA ad P)) (F0 m 4 ls [])) (hw : wbX5_choice_58 t R4 K x1 x3 S) (hh : wH D ad cs P (wA ad P) s.heap sz S H locs) (hl : lv_has ls 4 [(0, .ref (ad 10 t)), (1, .int x1), (3, .int x3)]) : W p l e R s m args below meth c H locs 0 0 (MQ below (va_Qi K (QX D ad cs P sz) (wA ad P)) args s 0 0 (wA ad P)) (F0 m 58 ls []) := by
  have hx := E.hx
  have hb := E.hb
  refine lv_iload_n hx hb dX5_choice_58 rfl (lv_at hl 2 rfl) ?_
  refine lv_istore_n (lv' := [(2, .int x3), (0, .ref (ad 10 t)), (1, .int x1), (3, .int x3)]) hx hb dX5_choice_59 rfl hl (by decide) rfl (fun ls hl => ?_)
  exact bX5_choice_60 E ht hR4 hw hh (lv_sub hl [1, 2, 0, 3] rfl)
def wbX5_choice_4 (t : Nat) (K : Int32 → St → Prop) (x1 : Int32) : Nat → Int32 → Int32 → St → Prop
  | 0, _, _, _ => False
  | n + 1, x2, x3, S => if (S.1 10 t 1) ≤ x3 then (K x2 S) else (wpX5_mayAsk t x1 x3 S (fun r2 S2 => if r2 = 0 then (wbX5_choice_60 t (fun yx2 yx3 S9 => wbX5_choice_4 t K x1 n yx2 yx3 S9) K x1 x2 x3 S2) else (wpX5_wants t x1 x3 S2 (fun r4 S4 => if r4 = 0 then (wbX5_choice_60 t (fun yx2 yx3 S9 => wbX5_choice_4 t K x1 n yx2 yx3 S9) K x1 x2 x3 S4) else (if x2 = (-1) then (wbX5_choice_58 t (fun yx2 yx3 S9 => wbX5_choice_4 t K x1 n yx2 yx3 S9) K x1 x3 S4) else (wpX5_at x1 x3 S4 (fun r7 S7 => (vp_in r7 16 ∧ wpX5_at x1 x2 S7 (fun r9 S9 => (vp_in r9 16 ∧ if (S7.1 15 t r7.toNatClampNeg) ≤ (S9.1 15 t r9.toNatClampNeg) then (wbX5_choice_60 t (fun yx2 yx3 S9 => wbX5_choice_4 t K x1 n yx2 yx3 S9) K x1 x2 x3 S9) else (wbX5_choice_58 t (fun yx2 yx3 S9 => wbX5_choice_4 t K x1 n yx2 yx3 S9) K x1 x3 S9)))))))))))
set_option maxRecDepth 4000 in
theorem bX5_choice_4 {p : Program} {l : Launch} {e : Env} {R : Room} {s : State} {m : MethodId} {args : Array Value} {below : List Frame} {meth : Method} {c : Code} {D : va_G} {ad : Nat → Nat → Nat} {cs : Nat → ClassId} {P : Nat → Nat → Prop} {sz tU : Nat} {adK adV : Nat → Nat} {t : Nat} {K : Int32 → St → Prop} {x1 : Int32} (E : Ex p s m args meth c R RX5 cX5_choice 4 (some .int) 5 152 D ad cs P (wA ad P) tU adK adV cnA) (ht : t < 3) : ∀ (n : Nat) (x2 : Int32) (x3 : Int32) (S : St) (H : Heap) (locs : List Loc) (ls : Array Slot), wbX5_choice_4 t K x1 n x2 x3 S → wH D ad cs P (wA ad P) s.heap sz S H locs → lv_has ls 4 [(0, .ref (ad 10 t)), (1, .int x1), (2, .int x2), (3, .int x3)] → W p l e R s m args below meth c H locs 0 0 (MQ below (va_Qi K (QX D ad cs P sz) (wA ad P)) args s 0 0 (wA ad P)) (F0 m 4 ls []) := by
  have hx := E.hx
  have hb := E.hb
  intro n
  induction n with
  | zero => intro x2 x3 S H locs ls hw hh hl; exact hw.elim
  | succ n ih =>
    intro x2 x3 S H locs ls hw hh hl
    refine lv_iload_n hx hb dX5_choice_4 rfl (lv_at hl 3 rfl) ?_
    refine lv_aload_n hx hb dX5_choice_5 rfl (lv_at hl 0 rfl) ?_
    refine g_10_1 E hh tb312 (E.hn 10 t ht) dX5_choice_6 ?_
    refine lv_icmp_ge (tgt := 66) hx hb dX5_choice_9 (by decide) (fun c1 => ?_) (fun c1 => ?_)
    · have hw := ifT hw c1
      refine lv_iload_n hx hb dX5_choice_66 rfl (lv_at hl 2 rfl) ?_
      exact x_iret E hh hw dX5_choice_67
    · have hw := ifF hw c1
      refine lv_aload_n hx hb dX5_choice_12 rfl (lv_at hl 0 rfl) ?_
      refine lv_iload_n hx hb dX5_choice_13 rfl (lv_at hl 1 rfl) ?_
      refine lv_iload_n hx hb dX5_choice_14 rfl (lv_at hl 3 rfl) ?_
      refine x_ci E.hA hh (x_runV E hh (mX5_mayAsk E.hI E.hn ht hw) kX5_mayAsk tb644 (E.hn 10 t ht) rv_10 ⟨by decide, by decide⟩ rfl hl.1 rfl (Nat.le_of_ble_eq_true rfl) dX5_choice_15 ⟨Nat.zero_le _, Nat.zero_le _⟩) (fun r2 S2 H locs hw hh => ?_)
      have hq2 := hw.2
      have hw := hw.1
      refine lv_if_eq (tgt := 60) hx hb dX5_choice_18 (by decide) (fun c3 => ?_) (fun c3 => ?_)
      · have hw := ifT hw c3
        exact bX5_choice_60 E ht ih hw hh (lv_sub hl [0, 1, 2, 3] rfl)
      · have hw := ifF hw c3
        refine lv_aload_n hx hb dX5_choice_21 rfl (lv_at hl 0 rfl) ?_
        refine lv_iload_n hx hb dX5_choice_22 rfl (lv_at hl 1 rfl) ?_
        refine lv_iload_n hx hb dX5_choice_23 rfl (lv_at hl 3 rfl) ?_
        refine x_ci E.hA hh (x_runV E hh (mX5_wants E.hI E.hn ht hw) kX5_wants tb645 (E.hn 10 t ht) rv_10 ⟨by decide, by decide⟩ rfl hl.1 rfl (Nat.le_of_ble_eq_true rfl) dX5_choice_24 ⟨Nat.zero_le _, Nat.zero_le _⟩) (fun r4 S4 H locs hw hh => ?_)
        have hq4 := hw.2
        have hw := hw.1
        refine lv_if_eq (tgt := 60) hx hb dX5_choice_27 (by decide) (fun c5 => ?_) (fun c5 => ?_)
        · have hw := ifT hw c5
          exact bX5_choice_60 E ht ih hw hh (lv_sub hl [0, 1, 2, 3] rfl)
        · have hw := ifF hw c5
          refine lv_iload_n hx hb dX5_choice_30 rfl (lv_at hl 2 rfl) ?_
          refine lv_iconst (v := (-1)) hx hb dX5_choice_31 (by decide) ?_
          refine lv_icmp_eq (tgt := 58) hx hb dX5_choice_32 (by decide) (fun c6 => ?_) (fun c6 => ?_)
          · have hw := ifT hw c6
            exact bX5_choice_58 E ht ih hw hh (lv_sub hl [0, 1, 3] rfl)
          · have hw := ifF hw c6
            refine lv_aload_n hx hb dX5_choice_35 rfl (lv_at hl 0 rfl) ?_
            refine g_10_10 E hh tb335 (E.hn 10 t ht) dX5_choice_36 ?_
            refine lv_iload_n hx hb dX5_choice_39 rfl (lv_at hl 1 rfl) ?_
            refine lv_iload_n hx hb dX5_choice_40 rfl (lv_at hl 3 rfl) ?_
            refine x_ci E.hA hh (x_runS E hh (mX5_at E.hI (fun _ _ h => absurd h (Nat.not_lt_zero _)) hw) kX5_at tb461 ⟨by decide, by decide⟩ rfl hl.1 rfl (Nat.le_of_ble_eq_true rfl) dX5_choice_41 ⟨Nat.zero_le _, Nat.zero_le _⟩) (fun r7 S7 H locs hw hh => ?_)
            obtain ⟨hi8, hw⟩ := hw
            refine x_iald E hh (E.hn 15 t ht) ly_15 hi8 dX5_choice_44 ?_
            refine lv_aload_n hx hb dX5_choice_45 rfl (lv_at hl 0 rfl) ?_
            refine g_10_10 E hh tb335 (E.hn 10 t ht) dX5_choice_46 ?_
            refine lv_iload_n hx hb dX5_choice_49 rfl (lv_at hl 1 rfl) ?_
            refine lv_iload_n hx hb dX5_choice_50 rfl (lv_at hl 2 rfl) ?_
            refine x_ci E.hA hh (x_runS E hh (mX5_at E.hI (fun _ _ h => absurd h (Nat.not_lt_zero _)) hw) kX5_at tb461 ⟨by decide, by decide⟩ rfl hl.1 rfl (Nat.le_of_ble_eq_true rfl) dX5_choice_51 ⟨Nat.zero_le _, Nat.zero_le _⟩) (fun r9 S9 H locs hw hh => ?_)
            obtain ⟨hi10, hw⟩ := hw
            refine x_iald E hh (E.hn 15 t ht) ly_15 hi10 dX5_choice_54 ?_
            refine lv_icmp_le (tgt := 60) hx hb dX5_choice_55 (by decide) (fun c11 => ?_) (fun c11 => ?_)
            · have hw := ifT hw c11
              exact bX5_choice_60 E ht ih hw hh (lv_sub hl [0, 1, 2, 3] rfl)
            · have hw := ifF hw c11
              exact bX5_choice_58 E ht ih hw hh (lv_sub hl [0, 1, 3] rfl)
def wpX5_choice (t : Nat) (x1 : Int32) (S : St) (K : Int32 → St → Prop) : Prop := ∃ k, wbX5_choice_4 t K x1 k (-1) 0 S
set_option maxRecDepth 4000 in
theorem bX5_choice {p : Program} {l : Launch} {e : Env} {R : Room} {s : State} {m : MethodId} {args : Array Value} {below : List Frame} {meth : Method} {c : Code} {D : va_G} {ad : Nat → Nat → Nat} {cs : Nat → ClassId} {P : Nat → Nat → Prop} {sz tU : Nat} {adK adV : Nat → Nat} {K : Int32 → St → Prop} {t : Nat} {x1 : Int32} {S : St} {H : Heap} {locs : List Loc} {ls : Array Slot} (E : Ex p s m args meth c R RX5 cX5_choice 4 (some .int) 5 152 D ad cs P (wA ad P) tU adK adV cnA) (ht : t < 3) (hw : wpX5_choice t x1 S K) (hh : wH D ad cs P (wA ad P) s.heap sz S H locs) (hl : lv_has ls 4 [(0, .ref (ad 10 t)), (1, .int x1)]) : W p l e R s m args below meth c H locs 0 0 (MQ below (va_Qi K (QX D ad cs P sz) (wA ad P)) args s 0 0 (wA ad P)) (F0 m 0 ls []) := by
  have hx := E.hx
  have hb := E.hb
  refine lv_iconst (v := (-1)) hx hb dX5_choice_0 (by decide) ?_
  refine lv_istore_n (lv' := [(2, .int (-1)), (0, .ref (ad 10 t)), (1, .int x1)]) hx hb dX5_choice_1 rfl hl (by decide) rfl (fun ls hl => ?_)
  refine lv_iconst (v := 0) hx hb dX5_choice_2 (by decide) ?_
  refine lv_istore_n (lv' := [(3, .int 0), (2, .int (-1)), (0, .ref (ad 10 t)), (1, .int x1)]) hx hb dX5_choice_3 rfl hl (by decide) rfl (fun ls hl => ?_)
  obtain ⟨k, hw⟩ := hw
  exact bX5_choice_4 E ht k (-1) 0 S _ _ _ hw hh (lv_sub hl [2, 3, 1, 0] rfl)
theorem kX5_choice : kI yX5_choice cX5_choice 4 (some .int) 1 := ⟨tb641, tb642, tb13, tb643, by decide, by decide, by decide +kernel⟩
theorem mX5_choice {l : Launch} {D : va_G} {ad : Nat → Nat → Nat} {cs : Nat → ClassId} {P : Nat → Nat → Prop} {sz tU : Nat} {adK adV : Nat → Nat} {t : Nat} {x1 : Int32} {S : St} {K : Int32 → St → Prop} (hI : wI ad P) (hn : ∀ kd i, i < cnA kd → P kd i) (ht : t < 3) (hw : wpX5_choice t x1 S K) : MI l yX5_choice cX5_choice 4 (some .int) 5 152 D ad cs P sz tU adK adV [.ref (ad 10 t), .int x1] S K :=
  Met_of (by decide) (Nat.le_of_ble_eq_true rfl) hI hn (fun p e R s m args below meth c ls E hl hh => bX5_choice E ht hw hh (lv_sub hl [0, 1] rfl))
def wbX5_drawHers_15 (t : Nat) (R4 : Int32 → Int32 → St → Prop) (K : St → Prop) (x3 : Int32) : Nat → Int32 → Int32 → St → Prop
  | 0, _, _, _ => False
  | n + 1, x2, x4, S => if (S.1 10 t 1) ≤ x4 then (R4 x2 (x3 + 1) S) else (wpX5_at x3 x4 S (fun r3 S3 => (vp_in r3 16 ∧ ∀ S4, S4 = su S3 16 t r3.toNatClampNeg (((((x2 * 1103515245) + 12345).toUInt32 >>> ((9 : Int32).toUInt32 &&& Int32.toUInt32 31)).toInt32) - ((((x2 * 1103515245) + 12345).toUInt32 >>> ((9 : Int32).toUInt32 &&& Int32.toUInt32 31)).toInt32) / 100 * 100) → wbX5_drawHers_15 t R4 K x3 n ((x2 * 1103515245) + 12345) (x4 + 1) S4)))
set_option maxRecDepth 4000 in
theorem bX5_drawHers_15 {p : Program} {l : Launch} {e : Env} {R : Room} {s : State} {m : MethodId} {args : Array Value} {below : List Frame} {meth : Method} {c : Code} {D : va_G} {ad : Nat → Nat → Nat} {cs : Nat → ClassId} {P : Nat → Nat → Prop} {sz tU : Nat} {adK adV : Nat → Nat} {t : Nat} {R4 : Int32 → Int32 → St → Prop} {K : St → Prop} {x3 : Int32} (E : Ex p s m args meth c R RX5 cX5_drawHers 5 none 2 81 D ad cs P (wA ad P) tU adK adV cnA) (ht : t < 3) (hR4 : ∀ (z2 : Int32) (z3 : Int32) (S : St) (H : Heap) (locs : List Loc) (ls : Array Slot), R4 z2 z3 S → wH D ad cs P (wA ad P) s.heap sz S H locs → lv_has ls 5 [(0, .ref (ad 10 t)), (2, .int z2), (3, .int z3)] → W p l e R s m args below meth c H locs 0 0 (MQ below (va_Qv K (QX D ad cs P sz) (wA ad P)) args s 0 0 (wA ad P)) (F0 m 4 ls [])) : ∀ (n : Nat) (x2 : Int32) (x4 : Int32) (S : St) (H : Heap) (locs : List Loc) (ls : Array Slot), wbX5_drawHers_15 t R4 K x3 n x2 x4 S → wH D ad cs P (wA ad P) s.heap sz S H locs → lv_has ls 5 [(0, .ref (ad 10 t)), (2, .int x2), (3, .int x3), (4, .int x4)] → W p l e R s m args below meth c H locs 0 0 (MQ below (va_Qv K (QX D ad cs P sz) (wA ad P)) args s 0 0 (wA ad P)) (F0 m 15 ls []) := by
  have hx := E.hx
  have hb := E.hb
  intro n
  induction n with
  | zero => intro x2 x4 S H locs ls hw hh hl; exact hw.elim
  | succ n ih =>
    intro x2 x4 S H locs ls hw hh hl
    refine lv_iload hx hb dX5_drawHers_15 (lv_at hl 3 rfl) ?_
    refine lv_aload_n hx hb dX5_drawHers_17 rfl (lv_at hl 0 rfl) ?_
    refine g_10_1 E hh tb312 (E.hn 10 t ht) dX5_drawHers_18 ?_
    refine lv_icmp_ge (tgt := 57) hx hb dX5_drawHers_21 (by decide) (fun c2 => ?_) (fun c2 => ?_)
    · have hw := ifT hw c2
      refine lv_iinc (k := 2) (v := x3 + 1) (lv' := [(3, .int (x3 + 1)), (0, .ref (ad 10 t)), (2, .int x2), (4, .int x4)]) hx hb dX5_drawHers_57 hl rfl rfl (by decide) rfl (fun ls hl => ?_)
      refine lv_goto (tgt := 4) hx hb dX5_drawHers_60 (by decide) ?_
      exact hR4 x2 (x3 + 1) S _ _ _ hw hh (lv_sub hl [1, 2, 0] rfl)
    · have hw := ifF hw c2
      refine lv_iload_n hx hb dX5_drawHers_24 rfl (lv_at hl 1 rfl) ?_
      refine lv_ldc (v := 1103515245) hx hb E.hown (E.hts _ tb663) dX5_drawHers_25 ?_
      refine lv_imul hx hb dX5_drawHers_27 ?_
      refine lv_sipush (v := 12345) hx hb dX5_drawHers_28 (by decide) ?_
      refine lv_iadd hx hb dX5_drawHers_31 ?_
      refine lv_istore_n (lv' := [(2, .int ((x2 * 1103515245) + 12345)), (0, .ref (ad 10 t)), (3, .int x3), (4, .int x4)]) hx hb dX5_drawHers_32 rfl hl (by decide) rfl (fun ls hl => ?_)
      refine lv_aload_n hx hb dX5_drawHers_33 rfl (lv_at hl 1 rfl) ?_
      refine g_10_11 E hh tb338 (E.hn 10 t ht) dX5_drawHers_34 ?_
      refine lv_iload_n hx hb dX5_drawHers_37 rfl (lv_at hl 2 rfl) ?_
      refine lv_iload hx hb dX5_drawHers_38 (lv_at hl 3 rfl) ?_
      refine x_ci E.hA hh (x_runS E hh (mX5_at E.hI (fun _ _ h => absurd h (Nat.not_lt_zero _)) hw) kX5_at tb461 ⟨by decide, by decide⟩ rfl hl.1 rfl (Nat.le_of_ble_eq_true rfl) dX5_drawHers_40 ⟨Nat.zero_le _, Nat.zero_le _⟩) (fun r3 S3 H locs hw hh => ?_)
      refine lv_iload_n hx hb dX5_drawHers_43 rfl (lv_at hl 0 rfl) ?_
      refine lv_bipush (v := 9) hx hb dX5_drawHers_44 (by decide) ?_
      refine lv_iushr hx hb dX5_drawHers_46 rfl ?_
      refine lv_bipush (v := 100) hx hb dX5_drawHers_47 (by decide) ?_
      refine lv_irem hx hb dX5_drawHers_49 (by decide) ?_
      obtain ⟨hi4, hw⟩ := hw
      refine x_iast E hh (E.hn 16 t ht) ly_16 hi4 dX5_drawHers_50 (fun S4 H locs e4 hh => ?_)
      have hw := hw S4 e4
      refine lv_iinc (k := 3) (v := x4 + 1) (lv' := [(4, .int (x4 + 1)), (2, .int ((x2 * 1103515245) + 12345)), (0, .ref (ad 10 t)), (3, .int x3)]) hx hb dX5_drawHers_51 hl rfl rfl (by decide) rfl (fun ls hl => ?_)
      refine lv_goto (tgt := 15) hx hb dX5_drawHers_54 (by decide) ?_
      exact ih ((x2 * 1103515245) + 12345) (x4 + 1) S4 _ _ _ hw hh (lv_sub hl [2, 1, 3, 0] rfl)
def wbX5_drawHers_4 (t : Nat) (K : St → Prop) : Nat → Int32 → Int32 → St → Prop
  | 0, _, _, _ => False
  | n + 1, x2, x3, S => if (S.1 10 t 0) ≤ x3 then (K S) else (∃ k, wbX5_drawHers_15 t (fun yx2 yx3 S9 => wbX5_drawHers_4 t K n yx2 yx3 S9) K x3 k x2 0 S)
set_option maxRecDepth 4000 in
theorem bX5_drawHers_4 {p : Program} {l : Launch} {e : Env} {R : Room} {s : State} {m : MethodId} {args : Array Value} {below : List Frame} {meth : Method} {c : Code} {D : va_G} {ad : Nat → Nat → Nat} {cs : Nat → ClassId} {P : Nat → Nat → Prop} {sz tU : Nat} {adK adV : Nat → Nat} {t : Nat} {K : St → Prop} (E : Ex p s m args meth c R RX5 cX5_drawHers 5 none 2 81 D ad cs P (wA ad P) tU adK adV cnA) (ht : t < 3) : ∀ (n : Nat) (x2 : Int32) (x3 : Int32) (S : St) (H : Heap) (locs : List Loc) (ls : Array Slot), wbX5_drawHers_4 t K n x2 x3 S → wH D ad cs P (wA ad P) s.heap sz S H locs → lv_has ls 5 [(0, .ref (ad 10 t)), (2, .int x2), (3, .int x3)] → W p l e R s m args below meth c H locs 0 0 (MQ below (va_Qv K (QX D ad cs P sz) (wA ad P)) args s 0 0 (wA ad P)) (F0 m 4 ls []) := by
  have hx := E.hx
  have hb := E.hb
  intro n
  induction n with
  | zero => intro x2 x3 S H locs ls hw hh hl; exact hw.elim
  | succ n ih =>
    intro x2 x3 S H locs ls hw hh hl
    refine lv_iload_n hx hb dX5_drawHers_4 rfl (lv_at hl 2 rfl) ?_
    refine lv_aload_n hx hb dX5_drawHers_5 rfl (lv_at hl 0 rfl) ?_
    refine g_10_0 E hh tb309 (E.hn 10 t ht) dX5_drawHers_6 ?_
    refine lv_icmp_ge (tgt := 63) hx hb dX5_drawHers_9 (by decide) (fun c1 => ?_) (fun c1 => ?_)
    · have hw := ifT hw c1
      exact x_vret E hh hw dX5_drawHers_63
    · have hw := ifF hw c1
      refine lv_iconst (v := 0) hx hb dX5_drawHers_12 (by decide) ?_
      refine lv_istore (lv' := [(4, .int 0), (0, .ref (ad 10 t)), (2, .int x2), (3, .int x3)]) hx hb dX5_drawHers_13 hl (by decide) rfl (fun ls hl => ?_)
      obtain ⟨k, hw⟩ := hw
      exact bX5_drawHers_15 E ht ih k x2 0 S _ _ _ hw hh (lv_sub hl [1, 2, 3, 0] rfl)
def wpX5_drawHers (t : Nat) (x1 : Int32) (S : St) (K : St → Prop) : Prop := ∃ k, wbX5_drawHers_4 t K k x1 0 S
set_option maxRecDepth 4000 in
theorem bX5_drawHers {p : Program} {l : Launch} {e : Env} {R : Room} {s : State} {m : MethodId} {args : Array Value} {below : List Frame} {meth : Method} {c : Code} {D : va_G} {ad : Nat → Nat → Nat} {cs : Nat → ClassId} {P : Nat → Nat → Prop} {sz tU : Nat} {adK adV : Nat → Nat} {K : St → Prop} {t : Nat} {x1 : Int32} {S : St} {H : Heap} {locs : List Loc} {ls : Array Slot} (E : Ex p s m args meth c R RX5 cX5_drawHers 5 none 2 81 D ad cs P (wA ad P) tU adK adV cnA) (ht : t < 3) (hw : wpX5_drawHers t x1 S K) (hh : wH D ad cs P (wA ad P) s.heap sz S H locs) (hl : lv_has ls 5 [(0, .ref (ad 10 t)), (1, .int x1)]) : W p l e R s m args below meth c H locs 0 0 (MQ below (va_Qv K (QX D ad cs P sz) (wA ad P)) args s 0 0 (wA ad P)) (F0 m 0 ls []) := by
  have hx := E.hx
  have hb := E.hb
  refine lv_iload_n hx hb dX5_drawHers_0 rfl (lv_at hl 1 rfl) ?_
  refine lv_istore_n (lv' := [(2, .int x1), (0, .ref (ad 10 t)), (1, .int x1)]) hx hb dX5_drawHers_1 rfl hl (by decide) rfl (fun ls hl => ?_)
  refine lv_iconst (v := 0) hx hb dX5_drawHers_2 (by decide) ?_
  refine lv_istore_n (lv' := [(3, .int 0), (2, .int x1), (0, .ref (ad 10 t)), (1, .int x1)]) hx hb dX5_drawHers_3 rfl hl (by decide) rfl (fun ls hl => ?_)
  obtain ⟨k, hw⟩ := hw
  exact bX5_drawHers_4 E ht k x1 0 S _ _ _ hw hh (lv_sub hl [2, 1, 0] rfl)
theorem kX5_drawHers : kI yX5_drawHers cX5_drawHers 5 none 1 := ⟨tb660, tb661, tb13, tb662, by decide, by decide, by decide +kernel⟩
theorem mX5_drawHers {l : Launch} {D : va_G} {ad : Nat → Nat → Nat} {cs : Nat → ClassId} {P : Nat → Nat → Prop} {sz tU : Nat} {adK adV : Nat → Nat} {t : Nat} {x1 : Int32} {S : St} {K : St → Prop} (hI : wI ad P) (hn : ∀ kd i, i < cnA kd → P kd i) (ht : t < 3) (hw : wpX5_drawHers t x1 S K) : MV l yX5_drawHers cX5_drawHers 5 none 2 81 D ad cs P sz tU adK adV [.ref (ad 10 t), .int x1] S K :=
  Met_of (by decide) (Nat.le_of_ble_eq_true rfl) hI hn (fun p e R s m args below meth c ls E hl hh => bX5_drawHers E ht hw hh (lv_sub hl [0, 1] rfl))
