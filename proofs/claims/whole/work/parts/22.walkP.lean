/-! walks, written by wip/whole/tools/walk.py: 22.walkP -/
def wbX1_enter_42 (K : St → Prop) (x1 : Int32) (S : St) : Prop := (vp_in x1 2 ∧ (vp_in x1 2 ∧ ∀ S8, S8 = su S 19 0 x1.toNatClampNeg ((S.1 19 0 x1.toNatClampNeg) + 1) → K S8))
set_option maxRecDepth 4000 in
theorem bX1_enter_42 {p : Program} {l : Launch} {e : Env} {R : Room} {s : State} {m : MethodId} {args : Array Value} {below : List Frame} {meth : Method} {c : Code} {D : va_G} {ad : Nat → Nat → Nat} {cs : Nat → ClassId} {P : Nat → Nat → Prop} {sz tU : Nat} {adK adV : Nat → Nat} {K : St → Prop} {x1 : Int32} {S : St} {H : Heap} {locs : List Loc} {ls : Array Slot} (E : Ex p s m args meth c R RX1 cX1_enter 3 none 1 60 D ad cs P (wA ad P) tU adK adV cnA) (hw : wbX1_enter_42 K x1 S) (hh : wH D ad cs P (wA ad P) s.heap sz S H locs) (hl : lv_has ls 3 [(0, .ref (ad 18 0)), (1, .int x1)]) : W p l e R s m args below meth c H locs 0 0 (MQ below (va_Qv K (QX D ad cs P sz) (wA ad P)) args s 0 0 (wA ad P)) (F0 m 42 ls []) := by
  have hx := E.hx
  have hb := E.hb
  refine lv_aload_n hx hb dX1_enter_42 rfl (lv_at hl 0 rfl) ?_
  refine g_18_0 E hh tb74 (E.hn 18 0 (by decide)) dX1_enter_43 ?_
  refine lv_iload_n hx hb dX1_enter_46 rfl (lv_at hl 1 rfl) ?_
  refine lv_dup2_11 hx hb dX1_enter_47 rfl rfl ?_
  obtain ⟨hi7, hw⟩ := hw
  refine x_iald E hh (E.hn 19 0 (by decide)) ly_19 hi7 dX1_enter_48 ?_
  refine lv_iconst (v := 1) hx hb dX1_enter_49 (by decide) ?_
  refine lv_iadd hx hb dX1_enter_50 ?_
  obtain ⟨hi8, hw⟩ := hw
  refine x_iast E hh (E.hn 19 0 (by decide)) ly_19 hi8 dX1_enter_51 (fun S8 H locs e8 hh => ?_)
  have hw := hw S8 e8
  exact x_vret E hh hw dX1_enter_52
def wbX1_enter_19 (K : St → Prop) (x1 : Int32) (x2 : Int32) (S : St) : Prop := (vp_in x1 2 ∧ ∀ S5, S5 = su S 20 0 x1.toNatClampNeg x2 → ((¬ (0 : Int32) < 0 ∧ ¬ (x1 * 4) < 0 ∧ ¬ (4 : Int32) < 0 ∧ (0 : Int32).toNatClampNeg + (4 : Int32).toNatClampNeg ≤ 4 ∧ (x1 * 4).toNatClampNeg + (4 : Int32).toNatClampNeg ≤ 8) ∧ ∀ S6, S6 = sa S5 21 0 (va_cpy (S5.1 24 0) (S5.1 21 0) (0 : Int32).toNatClampNeg (x1 * 4).toNatClampNeg (4 : Int32).toNatClampNeg) → wbX1_enter_42 K x1 S6))
set_option maxRecDepth 4000 in
theorem bX1_enter_19 {p : Program} {l : Launch} {e : Env} {R : Room} {s : State} {m : MethodId} {args : Array Value} {below : List Frame} {meth : Method} {c : Code} {D : va_G} {ad : Nat → Nat → Nat} {cs : Nat → ClassId} {P : Nat → Nat → Prop} {sz tU : Nat} {adK adV : Nat → Nat} {K : St → Prop} {x1 : Int32} {x2 : Int32} {S : St} {H : Heap} {locs : List Loc} {ls : Array Slot} (E : Ex p s m args meth c R RX1 cX1_enter 3 none 1 60 D ad cs P (wA ad P) tU adK adV cnA) (hw : wbX1_enter_19 K x1 x2 S) (hh : wH D ad cs P (wA ad P) s.heap sz S H locs) (hl : lv_has ls 3 [(0, .ref (ad 18 0)), (1, .int x1), (2, .int x2)]) : W p l e R s m args below meth c H locs 0 0 (MQ below (va_Qv K (QX D ad cs P sz) (wA ad P)) args s 0 0 (wA ad P)) (F0 m 19 ls []) := by
  have hx := E.hx
  have hb := E.hb
  refine lv_aload_n hx hb dX1_enter_19 rfl (lv_at hl 0 rfl) ?_
  refine g_18_1 E hh tb76 (E.hn 18 0 (by decide)) dX1_enter_20 ?_
  refine lv_iload_n hx hb dX1_enter_23 rfl (lv_at hl 1 rfl) ?_
  refine lv_iload_n hx hb dX1_enter_24 rfl (lv_at hl 2 rfl) ?_
  obtain ⟨hi5, hw⟩ := hw
  refine x_iast E hh (E.hn 20 0 (by decide)) ly_20 hi5 dX1_enter_25 (fun S5 H locs e5 hh => ?_)
  have hw := hw S5 e5
  refine lv_aload_n hx hb dX1_enter_26 rfl (lv_at hl 0 rfl) ?_
  refine g_18_5 E hh tb81 (E.hn 18 0 (by decide)) dX1_enter_27 ?_
  refine lv_iconst (v := 0) hx hb dX1_enter_30 (by decide) ?_
  refine lv_aload_n hx hb dX1_enter_31 rfl (lv_at hl 0 rfl) ?_
  refine g_18_2 E hh tb78 (E.hn 18 0 (by decide)) dX1_enter_32 ?_
  refine lv_iload_n hx hb dX1_enter_35 rfl (lv_at hl 1 rfl) ?_
  refine lv_iconst (v := 4) hx hb dX1_enter_36 (by decide) ?_
  refine lv_imul hx hb dX1_enter_37 ?_
  refine lv_iconst (v := 4) hx hb dX1_enter_38 (by decide) ?_
  obtain ⟨hy6, hw⟩ := hw
  refine x_copy E hh (E.hn 24 0 (by decide)) (E.hn 21 0 (by decide)) ly_24 ly_21 hy6 (E.hml.trans hl.1.symm) tb604 (Nat.le_trans (by decide) E.hf) (Nat.le_trans (Nat.le_of_ble_eq_true rfl) E.hl) dX1_enter_39 (fun S6 H locs e6 hh => ?_)
  have hw := hw S6 e6
  exact bX1_enter_42 E hw hh (lv_sub hl [0, 1] rfl)
def wpX1_enter (x1 : Int32) (x2 : Int32) (S : St) (K : St → Prop) : Prop := (vp_in x1 2 ∧ if (S.1 19 0 x1.toNatClampNeg) = 0 then (wbX1_enter_19 K x1 x2 S) else ((vp_in x1 2 ∧ if x2 ≤ (S.1 20 0 x1.toNatClampNeg) then (wbX1_enter_42 K x1 S) else (wbX1_enter_19 K x1 x2 S))))
set_option maxRecDepth 4000 in
theorem bX1_enter {p : Program} {l : Launch} {e : Env} {R : Room} {s : State} {m : MethodId} {args : Array Value} {below : List Frame} {meth : Method} {c : Code} {D : va_G} {ad : Nat → Nat → Nat} {cs : Nat → ClassId} {P : Nat → Nat → Prop} {sz tU : Nat} {adK adV : Nat → Nat} {K : St → Prop} {x1 : Int32} {x2 : Int32} {S : St} {H : Heap} {locs : List Loc} {ls : Array Slot} (E : Ex p s m args meth c R RX1 cX1_enter 3 none 1 60 D ad cs P (wA ad P) tU adK adV cnA) (hw : wpX1_enter x1 x2 S K) (hh : wH D ad cs P (wA ad P) s.heap sz S H locs) (hl : lv_has ls 3 [(0, .ref (ad 18 0)), (1, .int x1), (2, .int x2)]) : W p l e R s m args below meth c H locs 0 0 (MQ below (va_Qv K (QX D ad cs P sz) (wA ad P)) args s 0 0 (wA ad P)) (F0 m 0 ls []) := by
  have hx := E.hx
  have hb := E.hb
  refine lv_aload_n hx hb dX1_enter_0 rfl (lv_at hl 0 rfl) ?_
  refine g_18_0 E hh tb74 (E.hn 18 0 (by decide)) dX1_enter_1 ?_
  refine lv_iload_n hx hb dX1_enter_4 rfl (lv_at hl 1 rfl) ?_
  obtain ⟨hi1, hw⟩ := hw
  refine x_iald E hh (E.hn 19 0 (by decide)) ly_19 hi1 dX1_enter_5 ?_
  refine lv_if_eq (tgt := 19) hx hb dX1_enter_6 (by decide) (fun c2 => ?_) (fun c2 => ?_)
  · have hw := ifT hw c2
    exact bX1_enter_19 E hw hh (lv_sub hl [0, 1, 2] rfl)
  · have hw := ifF hw c2
    refine lv_iload_n hx hb dX1_enter_9 rfl (lv_at hl 2 rfl) ?_
    refine lv_aload_n hx hb dX1_enter_10 rfl (lv_at hl 0 rfl) ?_
    refine g_18_1 E hh tb76 (E.hn 18 0 (by decide)) dX1_enter_11 ?_
    refine lv_iload_n hx hb dX1_enter_14 rfl (lv_at hl 1 rfl) ?_
    obtain ⟨hi3, hw⟩ := hw
    refine x_iald E hh (E.hn 20 0 (by decide)) ly_20 hi3 dX1_enter_15 ?_
    refine lv_icmp_le (tgt := 42) hx hb dX1_enter_16 (by decide) (fun c4 => ?_) (fun c4 => ?_)
    · have hw := ifT hw c4
      exact bX1_enter_42 E hw hh (lv_sub hl [0, 1] rfl)
    · have hw := ifF hw c4
      exact bX1_enter_19 E hw hh (lv_sub hl [0, 1, 2] rfl)
theorem kX1_enter : kI yX1_enter cX1_enter 3 none 2 := ⟨tb602, ts23, tb3, tb603, by decide, by decide, by decide +kernel⟩
theorem mX1_enter {l : Launch} {D : va_G} {ad : Nat → Nat → Nat} {cs : Nat → ClassId} {P : Nat → Nat → Prop} {sz tU : Nat} {adK adV : Nat → Nat} {x1 : Int32} {x2 : Int32} {S : St} {K : St → Prop} (hI : wI ad P) (hn : ∀ kd i, i < cnA kd → P kd i) (hw : wpX1_enter x1 x2 S K) : MV l yX1_enter cX1_enter 3 none 1 60 D ad cs P sz tU adK adV [.ref (ad 18 0), .int x1, .int x2] S K :=
  Met_of (by decide) (Nat.le_of_ble_eq_true rfl) hI hn (fun p e R s m args below meth c ls E hl hh => bX1_enter E  hw hh (lv_sub hl [0, 1, 2] rfl))
def wbX1_isSteady_160 (u1 : Nat) (R62 : Int32 → St → Prop) (R103 : Int32 → St → Prop) (K : Int32 → St → Prop) (x2 : Int32) (x3 : Int32) (x4 : Int32) (S : St) : Prop := R103 (x4 + 1) S
set_option maxRecDepth 4000 in
theorem bX1_isSteady_160 {p : Program} {l : Launch} {e : Env} {R : Room} {s : State} {m : MethodId} {args : Array Value} {below : List Frame} {meth : Method} {c : Code} {D : va_G} {ad : Nat → Nat → Nat} {cs : Nat → ClassId} {P : Nat → Nat → Prop} {sz tU : Nat} {adK adV : Nat → Nat} {u1 : Nat} {R62 : Int32 → St → Prop} {R103 : Int32 → St → Prop} {K : Int32 → St → Prop} {x2 : Int32} {x3 : Int32} {x4 : Int32} {S : St} {H : Heap} {locs : List Loc} {ls : Array Slot} (E : Ex p s m args meth c R RX1 cX1_isSteady 6 (some .boolean) 2 83 D ad cs P (wA ad P) tU adK adV cnA) (hu1 : u1 < 3) (hR62 : ∀ (z2 : Int32) (S : St) (H : Heap) (locs : List Loc) (ls : Array Slot), R62 z2 S → wH D ad cs P (wA ad P) s.heap sz S H locs → lv_has ls 6 [(0, .ref (ad 18 0)), (1, .ref (ad 10 u1)), (2, .int z2)] → W p l e R s m args below meth c H locs 0 0 (MQ below (va_Qi (fun r S => K r S ∧ narrow .boolean (.int r) = .int r) (QX D ad cs P sz) (wA ad P)) args s 0 0 (wA ad P)) (F0 m 62 ls [])) (hR103 : ∀ (z4 : Int32) (S : St) (H : Heap) (locs : List Loc) (ls : Array Slot), R103 z4 S → wH D ad cs P (wA ad P) s.heap sz S H locs → lv_has ls 6 [(0, .ref (ad 18 0)), (1, .ref (ad 10 u1)), (2, .int x2), (3, .int x3), (4, .int z4)] → W p l e R s m args below meth c H locs 0 0 (MQ below (va_Qi (fun r S => K r S ∧ narrow .boolean (.int r) = .int r) (QX D ad cs P sz) (wA ad P)) args s 0 0 (wA ad P)) (F0 m 103 ls [])) (hw : wbX1_isSteady_160 u1 R62 R103 K x2 x3 x4 S) (hh : wH D ad cs P (wA ad P) s.heap sz S H locs) (hl : lv_has ls 6 [(0, .ref (ad 18 0)), (1, .ref (ad 10 u1)), (2, .int x2), (3, .int x3), (4, .int x4)]) : W p l e R s m args below meth c H locs 0 0 (MQ below (va_Qi (fun r S => K r S ∧ narrow .boolean (.int r) = .int r) (QX D ad cs P sz) (wA ad P)) args s 0 0 (wA ad P)) (F0 m 160 ls []) := by
  have hx := E.hx
  have hb := E.hb
  refine lv_iinc (k := 4) (v := x4 + 1) (lv' := [(4, .int (x4 + 1)), (0, .ref (ad 18 0)), (1, .ref (ad 10 u1)), (2, .int x2), (3, .int x3)]) hx hb dX1_isSteady_160 hl rfl rfl (by decide) rfl (fun ls hl => ?_)
  refine lv_goto (tgt := 103) hx hb dX1_isSteady_163 (by decide) ?_
  exact hR103 (x4 + 1) S _ _ _ hw hh (lv_sub hl [1, 2, 3, 4, 0] rfl)
def wbX1_isSteady_103 (u1 : Nat) (R62 : Int32 → St → Prop) (K : Int32 → St → Prop) (x2 : Int32) (x3 : Int32) : Nat → Int32 → St → Prop
  | 0, _, _ => False
  | n + 1, x4, S => if (S.1 10 u1 1) ≤ x4 then (R62 (x2 + 1) S) else (wpX5_at x2 x4 S (fun r17 S17 => (vp_in r17 16 ∧ if (S17.1 22 0 r17.toNatClampNeg) = 0 then (wbX1_isSteady_160 u1 R62 (fun yx4 S9 => wbX1_isSteady_103 u1 R62 K x2 x3 n yx4 S9) K x2 x3 x4 S17) else ((vp_in r17 16 ∧ if (S17.1 15 u1 r17.toNatClampNeg) ≤ x3 then (wbX1_isSteady_160 u1 R62 (fun yx4 S9 => wbX1_isSteady_103 u1 R62 K x2 x3 n yx4 S9) K x2 x3 x4 S17) else ((vp_in r17 16 ∧ (vp_in x4 4 ∧ if (S17.1 16 u1 r17.toNatClampNeg) ≤ (S17.1 25 0 x4.toNatClampNeg) then (wbX1_isSteady_160 u1 R62 (fun yx4 S9 => wbX1_isSteady_103 u1 R62 K x2 x3 n yx4 S9) K x2 x3 x4 S17) else (K 0 S17)))))))))
set_option maxRecDepth 4000 in
theorem bX1_isSteady_103 {p : Program} {l : Launch} {e : Env} {R : Room} {s : State} {m : MethodId} {args : Array Value} {below : List Frame} {meth : Method} {c : Code} {D : va_G} {ad : Nat → Nat → Nat} {cs : Nat → ClassId} {P : Nat → Nat → Prop} {sz tU : Nat} {adK adV : Nat → Nat} {u1 : Nat} {R62 : Int32 → St → Prop} {K : Int32 → St → Prop} {x2 : Int32} {x3 : Int32} (E : Ex p s m args meth c R RX1 cX1_isSteady 6 (some .boolean) 2 83 D ad cs P (wA ad P) tU adK adV cnA) (hu1 : u1 < 3) (hR62 : ∀ (z2 : Int32) (S : St) (H : Heap) (locs : List Loc) (ls : Array Slot), R62 z2 S → wH D ad cs P (wA ad P) s.heap sz S H locs → lv_has ls 6 [(0, .ref (ad 18 0)), (1, .ref (ad 10 u1)), (2, .int z2)] → W p l e R s m args below meth c H locs 0 0 (MQ below (va_Qi (fun r S => K r S ∧ narrow .boolean (.int r) = .int r) (QX D ad cs P sz) (wA ad P)) args s 0 0 (wA ad P)) (F0 m 62 ls [])) : ∀ (n : Nat) (x4 : Int32) (S : St) (H : Heap) (locs : List Loc) (ls : Array Slot), wbX1_isSteady_103 u1 R62 K x2 x3 n x4 S → wH D ad cs P (wA ad P) s.heap sz S H locs → lv_has ls 6 [(0, .ref (ad 18 0)), (1, .ref (ad 10 u1)), (2, .int x2), (3, .int x3), (4, .int x4)] → W p l e R s m args below meth c H locs 0 0 (MQ below (va_Qi (fun r S => K r S ∧ narrow .boolean (.int r) = .int r) (QX D ad cs P sz) (wA ad P)) args s 0 0 (wA ad P)) (F0 m 103 ls []) := by
  have hx := E.hx
  have hb := E.hb
  intro n
  induction n with
  | zero => intro x4 S H locs ls hw hh hl; exact hw.elim
  | succ n ih =>
    intro x4 S H locs ls hw hh hl
    refine lv_iload hx hb dX1_isSteady_103 (lv_at hl 4 rfl) ?_
    refine lv_aload_n hx hb dX1_isSteady_105 rfl (lv_at hl 1 rfl) ?_
    refine g_10_1 E hh tb315 (E.hn 10 u1 hu1) dX1_isSteady_106 ?_
    refine lv_icmp_ge (tgt := 166) hx hb dX1_isSteady_109 (by decide) (fun c16 => ?_) (fun c16 => ?_)
    · have hw := ifT hw c16
      refine lv_iinc (k := 2) (v := x2 + 1) (lv' := [(2, .int (x2 + 1)), (0, .ref (ad 18 0)), (1, .ref (ad 10 u1)), (3, .int x3), (4, .int x4)]) hx hb dX1_isSteady_166 hl rfl rfl (by decide) rfl (fun ls hl => ?_)
      refine lv_goto (tgt := 62) hx hb dX1_isSteady_169 (by decide) ?_
      exact hR62 (x2 + 1) S _ _ _ hw hh (lv_sub hl [1, 2, 0] rfl)
    · have hw := ifF hw c16
      refine lv_iload_n hx hb dX1_isSteady_112 rfl (lv_at hl 2 rfl) ?_
      refine lv_iload hx hb dX1_isSteady_113 (lv_at hl 4 rfl) ?_
      refine x_ci E.hA hh (x_runS E hh (mX5_at E.hI (fun _ _ h => absurd h (Nat.not_lt_zero _)) hw) kX5_at tb592 ⟨by decide, by decide⟩ rfl hl.1 rfl (Nat.le_of_ble_eq_true rfl) dX1_isSteady_115 ⟨Nat.zero_le _, Nat.zero_le _⟩) (fun r17 S17 H locs hw hh => ?_)
      refine lv_istore (lv' := [(5, .int r17), (0, .ref (ad 18 0)), (1, .ref (ad 10 u1)), (2, .int x2), (3, .int x3), (4, .int x4)]) hx hb dX1_isSteady_118 hl (by decide) rfl (fun ls hl => ?_)
      refine lv_aload_n hx hb dX1_isSteady_120 rfl (lv_at hl 1 rfl) ?_
      refine g_18_3 E hh tb79 (E.hn 18 0 (by decide)) dX1_isSteady_121 ?_
      refine lv_iload hx hb dX1_isSteady_124 (lv_at hl 0 rfl) ?_
      obtain ⟨hi18, hw⟩ := hw
      refine x_zald E hh (E.hn 22 0 (by decide)) ly_22 hi18 dX1_isSteady_126 ?_
      refine lv_if_eq (tgt := 160) hx hb dX1_isSteady_127 (by decide) (fun c19 => ?_) (fun c19 => ?_)
      · have hw := ifT hw c19
        exact bX1_isSteady_160 E hu1 hR62 ih hw hh (lv_sub hl [1, 2, 3, 4, 5] rfl)
      · have hw := ifF hw c19
        refine lv_aload_n hx hb dX1_isSteady_130 rfl (lv_at hl 2 rfl) ?_
        refine g_10_10 E hh tb337 (E.hn 10 u1 hu1) dX1_isSteady_131 ?_
        refine lv_iload hx hb dX1_isSteady_134 (lv_at hl 0 rfl) ?_
        obtain ⟨hi20, hw⟩ := hw
        refine x_iald E hh (E.hn 15 u1 hu1) ly_15 hi20 dX1_isSteady_136 ?_
        refine lv_iload_n hx hb dX1_isSteady_137 rfl (lv_at hl 4 rfl) ?_
        refine lv_icmp_le (tgt := 160) hx hb dX1_isSteady_138 (by decide) (fun c21 => ?_) (fun c21 => ?_)
        · have hw := ifT hw c21
          exact bX1_isSteady_160 E hu1 hR62 ih hw hh (lv_sub hl [1, 2, 3, 4, 5] rfl)
        · have hw := ifF hw c21
          refine lv_aload_n hx hb dX1_isSteady_141 rfl (lv_at hl 2 rfl) ?_
          refine g_10_11 E hh tb340 (E.hn 10 u1 hu1) dX1_isSteady_142 ?_
          refine lv_iload hx hb dX1_isSteady_145 (lv_at hl 0 rfl) ?_
          obtain ⟨hi22, hw⟩ := hw
          refine x_iald E hh (E.hn 16 u1 hu1) ly_16 hi22 dX1_isSteady_147 ?_
          refine lv_aload_n hx hb dX1_isSteady_148 rfl (lv_at hl 1 rfl) ?_
          refine g_18_6 E hh tb82 (E.hn 18 0 (by decide)) dX1_isSteady_149 ?_
          refine lv_iload hx hb dX1_isSteady_152 (lv_at hl 5 rfl) ?_
          obtain ⟨hi23, hw⟩ := hw
          refine x_iald E hh (E.hn 25 0 (by decide)) ly_25 hi23 dX1_isSteady_154 ?_
          refine lv_icmp_le (tgt := 160) hx hb dX1_isSteady_155 (by decide) (fun c24 => ?_) (fun c24 => ?_)
          · have hw := ifT hw c24
            exact bX1_isSteady_160 E hu1 hR62 ih hw hh (lv_sub hl [1, 2, 3, 4, 5] rfl)
          · have hw := ifF hw c24
            refine lv_iconst (v := 0) hx hb dX1_isSteady_158 (by decide) ?_
            exact x_zret E hh hw rfl dX1_isSteady_159
def wbX1_isSteady_99 (u1 : Nat) (R62 : Int32 → St → Prop) (K : Int32 → St → Prop) (x2 : Int32) (v0 : Int32) (S : St) : Prop := ∃ k, wbX1_isSteady_103 u1 R62 K x2 v0 k 0 S
set_option maxRecDepth 4000 in
theorem bX1_isSteady_99 {p : Program} {l : Launch} {e : Env} {R : Room} {s : State} {m : MethodId} {args : Array Value} {below : List Frame} {meth : Method} {c : Code} {D : va_G} {ad : Nat → Nat → Nat} {cs : Nat → ClassId} {P : Nat → Nat → Prop} {sz tU : Nat} {adK adV : Nat → Nat} {u1 : Nat} {R62 : Int32 → St → Prop} {K : Int32 → St → Prop} {x2 : Int32} {v0 : Int32} {S : St} {H : Heap} {locs : List Loc} {ls : Array Slot} (E : Ex p s m args meth c R RX1 cX1_isSteady 6 (some .boolean) 2 83 D ad cs P (wA ad P) tU adK adV cnA) (hu1 : u1 < 3) (hR62 : ∀ (z2 : Int32) (S : St) (H : Heap) (locs : List Loc) (ls : Array Slot), R62 z2 S → wH D ad cs P (wA ad P) s.heap sz S H locs → lv_has ls 6 [(0, .ref (ad 18 0)), (1, .ref (ad 10 u1)), (2, .int z2)] → W p l e R s m args below meth c H locs 0 0 (MQ below (va_Qi (fun r S => K r S ∧ narrow .boolean (.int r) = .int r) (QX D ad cs P sz) (wA ad P)) args s 0 0 (wA ad P)) (F0 m 62 ls [])) (hw : wbX1_isSteady_99 u1 R62 K x2 v0 S) (hh : wH D ad cs P (wA ad P) s.heap sz S H locs) (hl : lv_has ls 6 [(0, .ref (ad 18 0)), (1, .ref (ad 10 u1)), (2, .int x2)]) : W p l e R s m args below meth c H locs 0 0 (MQ below (va_Qi (fun r S => K r S ∧ narrow .boolean (.int r) = .int r) (QX D ad cs P sz) (wA ad P)) args s 0 0 (wA ad P)) (F0 m 99 ls [.int v0]) := by
  have hx := E.hx
  have hb := E.hb
  refine lv_istore_n (lv' := [(3, .int v0), (0, .ref (ad 18 0)), (1, .ref (ad 10 u1)), (2, .int x2)]) hx hb dX1_isSteady_99 rfl hl (by decide) rfl (fun ls hl => ?_)
  refine lv_iconst (v := 0) hx hb dX1_isSteady_100 (by decide) ?_
  refine lv_istore (lv' := [(4, .int 0), (3, .int v0), (0, .ref (ad 18 0)), (1, .ref (ad 10 u1)), (2, .int x2)]) hx hb dX1_isSteady_101 hl (by decide) rfl (fun ls hl => ?_)
  obtain ⟨k, hw⟩ := hw
  exact bX1_isSteady_103 E hu1 hR62 k 0 S _ _ _ hw hh (lv_sub hl [2, 3, 4, 1, 0] rfl)
def wbX1_isSteady_62 (u1 : Nat) (K : Int32 → St → Prop) : Nat → Int32 → St → Prop
  | 0, _, _ => False
  | n + 1, x2, S => if (S.1 10 u1 0) ≤ x2 then (K 1 S) else ((vp_in x2 4 ∧ if (S.1 24 0 x2.toNatClampNeg) = (-1) then (wbX1_isSteady_99 u1 (fun yx2 S9 => wbX1_isSteady_62 u1 K n yx2 S9) K x2 (-1) S) else ((vp_in x2 4 ∧ wpX5_at x2 (S.1 24 0 x2.toNatClampNeg) S (fun r14 S14 => (vp_in r14 16 ∧ wbX1_isSteady_99 u1 (fun yx2 S9 => wbX1_isSteady_62 u1 K n yx2 S9) K x2 (S14.1 15 u1 r14.toNatClampNeg) S14))))))
set_option maxRecDepth 4000 in
theorem bX1_isSteady_62 {p : Program} {l : Launch} {e : Env} {R : Room} {s : State} {m : MethodId} {args : Array Value} {below : List Frame} {meth : Method} {c : Code} {D : va_G} {ad : Nat → Nat → Nat} {cs : Nat → ClassId} {P : Nat → Nat → Prop} {sz tU : Nat} {adK adV : Nat → Nat} {u1 : Nat} {K : Int32 → St → Prop} (E : Ex p s m args meth c R RX1 cX1_isSteady 6 (some .boolean) 2 83 D ad cs P (wA ad P) tU adK adV cnA) (hu1 : u1 < 3) : ∀ (n : Nat) (x2 : Int32) (S : St) (H : Heap) (locs : List Loc) (ls : Array Slot), wbX1_isSteady_62 u1 K n x2 S → wH D ad cs P (wA ad P) s.heap sz S H locs → lv_has ls 6 [(0, .ref (ad 18 0)), (1, .ref (ad 10 u1)), (2, .int x2)] → W p l e R s m args below meth c H locs 0 0 (MQ below (va_Qi (fun r S => K r S ∧ narrow .boolean (.int r) = .int r) (QX D ad cs P sz) (wA ad P)) args s 0 0 (wA ad P)) (F0 m 62 ls []) := by
  have hx := E.hx
  have hb := E.hb
  intro n
  induction n with
  | zero => intro x2 S H locs ls hw hh hl; exact hw.elim
  | succ n ih =>
    intro x2 S H locs ls hw hh hl
    refine lv_iload_n hx hb dX1_isSteady_62 rfl (lv_at hl 2 rfl) ?_
    refine lv_aload_n hx hb dX1_isSteady_63 rfl (lv_at hl 1 rfl) ?_
    refine g_10_0 E hh tb311 (E.hn 10 u1 hu1) dX1_isSteady_64 ?_
    refine lv_icmp_ge (tgt := 172) hx hb dX1_isSteady_67 (by decide) (fun c10 => ?_) (fun c10 => ?_)
    · have hw := ifT hw c10
      refine lv_iconst (v := 1) hx hb dX1_isSteady_172 (by decide) ?_
      exact x_zret E hh hw rfl dX1_isSteady_173
    · have hw := ifF hw c10
      refine lv_aload_n hx hb dX1_isSteady_70 rfl (lv_at hl 0 rfl) ?_
      refine g_18_5 E hh tb81 (E.hn 18 0 (by decide)) dX1_isSteady_71 ?_
      refine lv_iload_n hx hb dX1_isSteady_74 rfl (lv_at hl 2 rfl) ?_
      obtain ⟨hi11, hw⟩ := hw
      refine x_iald E hh (E.hn 24 0 (by decide)) ly_24 hi11 dX1_isSteady_75 ?_
      refine lv_iconst (v := (-1)) hx hb dX1_isSteady_76 (by decide) ?_
      refine lv_icmp_ne (tgt := 84) hx hb dX1_isSteady_77 (by decide) (fun c12 => ?_) (fun c12 => ?_)
      · have hw := ifF hw c12
        refine lv_aload_n hx hb dX1_isSteady_84 rfl (lv_at hl 1 rfl) ?_
        refine g_10_10 E hh tb337 (E.hn 10 u1 hu1) dX1_isSteady_85 ?_
        refine lv_iload_n hx hb dX1_isSteady_88 rfl (lv_at hl 2 rfl) ?_
        refine lv_aload_n hx hb dX1_isSteady_89 rfl (lv_at hl 0 rfl) ?_
        refine g_18_5 E hh tb81 (E.hn 18 0 (by decide)) dX1_isSteady_90 ?_
        refine lv_iload_n hx hb dX1_isSteady_93 rfl (lv_at hl 2 rfl) ?_
        obtain ⟨hi13, hw⟩ := hw
        refine x_iald E hh (E.hn 24 0 (by decide)) ly_24 hi13 dX1_isSteady_94 ?_
        refine x_ci E.hA hh (x_runS E hh (mX5_at E.hI (fun _ _ h => absurd h (Nat.not_lt_zero _)) hw) kX5_at tb592 ⟨by decide, by decide⟩ rfl hl.1 rfl (Nat.le_of_ble_eq_true rfl) dX1_isSteady_95 ⟨Nat.zero_le _, Nat.zero_le _⟩) (fun r14 S14 H locs hw hh => ?_)
        obtain ⟨hi15, hw⟩ := hw
        refine x_iald E hh (E.hn 15 u1 hu1) ly_15 hi15 dX1_isSteady_98 ?_
        exact bX1_isSteady_99 E hu1 ih hw hh (lv_sub hl [0, 1, 2] rfl)
      · have hw := ifT hw c12
        refine lv_iconst (v := (-1)) hx hb dX1_isSteady_80 (by decide) ?_
        refine lv_goto (tgt := 99) hx hb dX1_isSteady_81 (by decide) ?_
        exact bX1_isSteady_99 E hu1 ih hw hh (lv_sub hl [0, 1, 2] rfl)
def wbX1_isSteady_54 (u1 : Nat) (R10 : Int32 → St → Prop) (K : Int32 → St → Prop) (x2 : Int32) (S : St) : Prop := R10 (x2 + 1) S
set_option maxRecDepth 4000 in
theorem bX1_isSteady_54 {p : Program} {l : Launch} {e : Env} {R : Room} {s : State} {m : MethodId} {args : Array Value} {below : List Frame} {meth : Method} {c : Code} {D : va_G} {ad : Nat → Nat → Nat} {cs : Nat → ClassId} {P : Nat → Nat → Prop} {sz tU : Nat} {adK adV : Nat → Nat} {u1 : Nat} {R10 : Int32 → St → Prop} {K : Int32 → St → Prop} {x2 : Int32} {S : St} {H : Heap} {locs : List Loc} {ls : Array Slot} (E : Ex p s m args meth c R RX1 cX1_isSteady 6 (some .boolean) 2 83 D ad cs P (wA ad P) tU adK adV cnA) (hu1 : u1 < 3) (hR10 : ∀ (z2 : Int32) (S : St) (H : Heap) (locs : List Loc) (ls : Array Slot), R10 z2 S → wH D ad cs P (wA ad P) s.heap sz S H locs → lv_has ls 6 [(0, .ref (ad 18 0)), (1, .ref (ad 10 u1)), (2, .int z2)] → W p l e R s m args below meth c H locs 0 0 (MQ below (va_Qi (fun r S => K r S ∧ narrow .boolean (.int r) = .int r) (QX D ad cs P sz) (wA ad P)) args s 0 0 (wA ad P)) (F0 m 10 ls [])) (hw : wbX1_isSteady_54 u1 R10 K x2 S) (hh : wH D ad cs P (wA ad P) s.heap sz S H locs) (hl : lv_has ls 6 [(0, .ref (ad 18 0)), (1, .ref (ad 10 u1)), (2, .int x2)]) : W p l e R s m args below meth c H locs 0 0 (MQ below (va_Qi (fun r S => K r S ∧ narrow .boolean (.int r) = .int r) (QX D ad cs P sz) (wA ad P)) args s 0 0 (wA ad P)) (F0 m 54 ls []) := by
  have hx := E.hx
  have hb := E.hb
  refine lv_iinc (k := 2) (v := x2 + 1) (lv' := [(2, .int (x2 + 1)), (0, .ref (ad 18 0)), (1, .ref (ad 10 u1))]) hx hb dX1_isSteady_54 hl rfl rfl (by decide) rfl (fun ls hl => ?_)
  refine lv_goto (tgt := 10) hx hb dX1_isSteady_57 (by decide) ?_
  exact hR10 (x2 + 1) S _ _ _ hw hh (lv_sub hl [1, 2, 0] rfl)
def wbX1_isSteady_10 (u1 : Nat) (K : Int32 → St → Prop) : Nat → Int32 → St → Prop
  | 0, _, _ => False
  | n + 1, x2, S => if (S.1 10 u1 0) ≤ x2 then (∃ k, wbX1_isSteady_62 u1 K k 0 S) else ((vp_in x2 4 ∧ if (S.1 24 0 x2.toNatClampNeg) = (-1) then (wbX1_isSteady_54 u1 (fun yx2 S9 => wbX1_isSteady_10 u1 K n yx2 S9) K x2 S) else ((vp_in x2 4 ∧ (vp_in x2 4 ∧ wpX5_at x2 (S.1 24 0 x2.toNatClampNeg) S (fun r7 S7 => (vp_in r7 16 ∧ (vp_in (S.1 24 0 x2.toNatClampNeg) 4 ∧ ∀ S9, S9 = su S7 25 0 (S.1 24 0 x2.toNatClampNeg).toNatClampNeg (S7.1 16 u1 r7.toNatClampNeg) → wbX1_isSteady_54 u1 (fun yx2 S9 => wbX1_isSteady_10 u1 K n yx2 S9) K x2 S9))))))))
set_option maxRecDepth 4000 in
theorem bX1_isSteady_10 {p : Program} {l : Launch} {e : Env} {R : Room} {s : State} {m : MethodId} {args : Array Value} {below : List Frame} {meth : Method} {c : Code} {D : va_G} {ad : Nat → Nat → Nat} {cs : Nat → ClassId} {P : Nat → Nat → Prop} {sz tU : Nat} {adK adV : Nat → Nat} {u1 : Nat} {K : Int32 → St → Prop} (E : Ex p s m args meth c R RX1 cX1_isSteady 6 (some .boolean) 2 83 D ad cs P (wA ad P) tU adK adV cnA) (hu1 : u1 < 3) : ∀ (n : Nat) (x2 : Int32) (S : St) (H : Heap) (locs : List Loc) (ls : Array Slot), wbX1_isSteady_10 u1 K n x2 S → wH D ad cs P (wA ad P) s.heap sz S H locs → lv_has ls 6 [(0, .ref (ad 18 0)), (1, .ref (ad 10 u1)), (2, .int x2)] → W p l e R s m args below meth c H locs 0 0 (MQ below (va_Qi (fun r S => K r S ∧ narrow .boolean (.int r) = .int r) (QX D ad cs P sz) (wA ad P)) args s 0 0 (wA ad P)) (F0 m 10 ls []) := by
  have hx := E.hx
  have hb := E.hb
  intro n
  induction n with
  | zero => intro x2 S H locs ls hw hh hl; exact hw.elim
  | succ n ih =>
    intro x2 S H locs ls hw hh hl
    refine lv_iload_n hx hb dX1_isSteady_10 rfl (lv_at hl 2 rfl) ?_
    refine lv_aload_n hx hb dX1_isSteady_11 rfl (lv_at hl 1 rfl) ?_
    refine g_10_0 E hh tb311 (E.hn 10 u1 hu1) dX1_isSteady_12 ?_
    refine lv_icmp_ge (tgt := 60) hx hb dX1_isSteady_15 (by decide) (fun c2 => ?_) (fun c2 => ?_)
    · have hw := ifT hw c2
      refine lv_iconst (v := 0) hx hb dX1_isSteady_60 (by decide) ?_
      refine lv_istore_n (lv' := [(2, .int 0), (0, .ref (ad 18 0)), (1, .ref (ad 10 u1))]) hx hb dX1_isSteady_61 rfl hl (by decide) rfl (fun ls hl => ?_)
      obtain ⟨k, hw⟩ := hw
      exact bX1_isSteady_62 E hu1 k 0 S _ _ _ hw hh (lv_sub hl [1, 2, 0] rfl)
    · have hw := ifF hw c2
      refine lv_aload_n hx hb dX1_isSteady_18 rfl (lv_at hl 0 rfl) ?_
      refine g_18_5 E hh tb81 (E.hn 18 0 (by decide)) dX1_isSteady_19 ?_
      refine lv_iload_n hx hb dX1_isSteady_22 rfl (lv_at hl 2 rfl) ?_
      obtain ⟨hi3, hw⟩ := hw
      refine x_iald E hh (E.hn 24 0 (by decide)) ly_24 hi3 dX1_isSteady_23 ?_
      refine lv_iconst (v := (-1)) hx hb dX1_isSteady_24 (by decide) ?_
      refine lv_icmp_eq (tgt := 54) hx hb dX1_isSteady_25 (by decide) (fun c4 => ?_) (fun c4 => ?_)
      · have hw := ifT hw c4
        exact bX1_isSteady_54 E hu1 ih hw hh (lv_sub hl [0, 1, 2] rfl)
      · have hw := ifF hw c4
        refine lv_aload_n hx hb dX1_isSteady_28 rfl (lv_at hl 0 rfl) ?_
        refine g_18_6 E hh tb82 (E.hn 18 0 (by decide)) dX1_isSteady_29 ?_
        refine lv_aload_n hx hb dX1_isSteady_32 rfl (lv_at hl 0 rfl) ?_
        refine g_18_5 E hh tb81 (E.hn 18 0 (by decide)) dX1_isSteady_33 ?_
        refine lv_iload_n hx hb dX1_isSteady_36 rfl (lv_at hl 2 rfl) ?_
        obtain ⟨hi5, hw⟩ := hw
        refine x_iald E hh (E.hn 24 0 (by decide)) ly_24 hi5 dX1_isSteady_37 ?_
        refine lv_aload_n hx hb dX1_isSteady_38 rfl (lv_at hl 1 rfl) ?_
        refine g_10_11 E hh tb340 (E.hn 10 u1 hu1) dX1_isSteady_39 ?_
        refine lv_iload_n hx hb dX1_isSteady_42 rfl (lv_at hl 2 rfl) ?_
        refine lv_aload_n hx hb dX1_isSteady_43 rfl (lv_at hl 0 rfl) ?_
        refine g_18_5 E hh tb81 (E.hn 18 0 (by decide)) dX1_isSteady_44 ?_
        refine lv_iload_n hx hb dX1_isSteady_47 rfl (lv_at hl 2 rfl) ?_
        obtain ⟨hi6, hw⟩ := hw
        refine x_iald E hh (E.hn 24 0 (by decide)) ly_24 hi6 dX1_isSteady_48 ?_
        refine x_ci E.hA hh (x_runS E hh (mX5_at E.hI (fun _ _ h => absurd h (Nat.not_lt_zero _)) hw) kX5_at tb592 ⟨by decide, by decide⟩ rfl hl.1 rfl (Nat.le_of_ble_eq_true rfl) dX1_isSteady_49 ⟨Nat.zero_le _, Nat.zero_le _⟩) (fun r7 S7 H locs hw hh => ?_)
        obtain ⟨hi8, hw⟩ := hw
        refine x_iald E hh (E.hn 16 u1 hu1) ly_16 hi8 dX1_isSteady_52 ?_
        obtain ⟨hi9, hw⟩ := hw
        refine x_iast E hh (E.hn 25 0 (by decide)) ly_25 hi9 dX1_isSteady_53 (fun S9 H locs e9 hh => ?_)
        have hw := hw S9 e9
        exact bX1_isSteady_54 E hu1 ih hw hh (lv_sub hl [0, 1, 2] rfl)
def wpX1_isSteady (u1 : Nat) (S : St) (K : Int32 → St → Prop) : Prop := wpJ7_fill_53178 25 0 4 (-1) S (fun S1 => ∃ k, wbX1_isSteady_10 u1 K k 0 S1)
set_option maxRecDepth 4000 in
theorem bX1_isSteady {p : Program} {l : Launch} {e : Env} {R : Room} {s : State} {m : MethodId} {args : Array Value} {below : List Frame} {meth : Method} {c : Code} {D : va_G} {ad : Nat → Nat → Nat} {cs : Nat → ClassId} {P : Nat → Nat → Prop} {sz tU : Nat} {adK adV : Nat → Nat} {K : Int32 → St → Prop} {u1 : Nat} {S : St} {H : Heap} {locs : List Loc} {ls : Array Slot} (E : Ex p s m args meth c R RX1 cX1_isSteady 6 (some .boolean) 2 83 D ad cs P (wA ad P) tU adK adV cnA) (hu1 : u1 < 3) (hw : wpX1_isSteady u1 S K) (hh : wH D ad cs P (wA ad P) s.heap sz S H locs) (hl : lv_has ls 6 [(0, .ref (ad 18 0)), (1, .ref (ad 10 u1))]) : W p l e R s m args below meth c H locs 0 0 (MQ below (va_Qi (fun r S => K r S ∧ narrow .boolean (.int r) = .int r) (QX D ad cs P sz) (wA ad P)) args s 0 0 (wA ad P)) (F0 m 0 ls []) := by
  have hx := E.hx
  have hb := E.hb
  refine lv_aload_n hx hb dX1_isSteady_0 rfl (lv_at hl 0 rfl) ?_
  refine g_18_6 E hh tb82 (E.hn 18 0 (by decide)) dX1_isSteady_1 ?_
  refine lv_iconst (v := (-1)) hx hb dX1_isSteady_4 (by decide) ?_
  refine x_cv E.hA hh (x_runS E hh (mJ7_fill_53178 E.hI (fun _ _ h => absurd h (Nat.not_lt_zero _)) (E.hn 25 0 (by decide)) ly_25 hw) kJ7_fill_53178 tb595 ⟨by decide, by decide⟩ rfl hl.1 rfl (Nat.le_of_ble_eq_true rfl) dX1_isSteady_5 ⟨Nat.zero_le _, Nat.zero_le _⟩) (fun S1 H locs hw hh => ?_)
  refine lv_iconst (v := 0) hx hb dX1_isSteady_8 (by decide) ?_
  refine lv_istore_n (lv' := [(2, .int 0), (0, .ref (ad 18 0)), (1, .ref (ad 10 u1))]) hx hb dX1_isSteady_9 rfl hl (by decide) rfl (fun ls hl => ?_)
  obtain ⟨k, hw⟩ := hw
  exact bX1_isSteady_10 E hu1 k 0 S1 _ _ _ hw hh (lv_sub hl [1, 2, 0] rfl)
theorem kX1_isSteady : kI yX1_isSteady cX1_isSteady 6 (some .boolean) 1 := ⟨tb607, ts24, tb3, tb608, by decide, by decide, by decide +kernel⟩
theorem mX1_isSteady {l : Launch} {D : va_G} {ad : Nat → Nat → Nat} {cs : Nat → ClassId} {P : Nat → Nat → Prop} {sz tU : Nat} {adK adV : Nat → Nat} {u1 : Nat} {S : St} {K : Int32 → St → Prop} (hI : wI ad P) (hn : ∀ kd i, i < cnA kd → P kd i) (hu1 : u1 < 3) (hw : wpX1_isSteady u1 S K) : MI l yX1_isSteady cX1_isSteady 6 (some .boolean) 2 83 D ad cs P sz tU adK adV [.ref (ad 18 0), .ref (ad 10 u1)] S (fun r S => K r S ∧ narrow .boolean (.int r) = .int r) :=
  Met_of (by decide) (Nat.le_of_ble_eq_true rfl) hI hn (fun p e R s m args below meth c ls E hl hh => bX1_isSteady E hu1 hw hh (lv_sub hl [0, 1] rfl))
theorem kX1_pairFrom : kI yX1_pairFrom cX1_pairFrom 6 none 4 := ⟨tb598, ts22, tb3, tb599, by decide, by decide, by decide +kernel⟩
def wbX1_pairFrom_120 (F : Nat → Nat → Int32 → Int32 → Int32 → St → (St → Prop) → Prop) (u1 : Nat) (R52 : Int32 → St → Prop) (K : St → Prop) (x2 : Int32) (x3 : Int32) (x4 : Int32) (x5 : Int32) (S : St) : Prop := R52 (x5 + 1) S
set_option maxRecDepth 4000 in
theorem bX1_pairFrom_120 {p : Program} {l : Launch} {e : Env} {R : Room} {s : State} {m : MethodId} {args : Array Value} {below : List Frame} {meth : Method} {c : Code} {D : va_G} {ad : Nat → Nat → Nat} {cs : Nat → ClassId} {P : Nat → Nat → Prop} {sz tU : Nat} {adK adV : Nat → Nat} {F : Nat → Nat → Int32 → Int32 → Int32 → St → (St → Prop) → Prop} {d : Nat} {u1 : Nat} {R52 : Int32 → St → Prop} {K : St → Prop} {x2 : Int32} {x3 : Int32} {x4 : Int32} {x5 : Int32} {S : St} {H : Heap} {locs : List Loc} {ls : Array Slot} (E : Ex p s m args meth c R RX1 cX1_pairFrom 6 none (3 + (d + 1)) (108 + 25 * (d + 1)) D ad cs P (wA ad P) tU adK adV cnA) (hF0 : ∀ {u1 : Nat} {x2 : Int32} {x3 : Int32} {x4 : Int32} {S : St} {K : St → Prop}, u1 < 3 → F 0 u1 x2 x3 x4 S K → MV l yX1_pairFrom cX1_pairFrom 6 none (3 + d) (108 + 25 * d) D ad cs P sz tU adK adV [.ref (ad 18 0), .ref (ad 10 u1), .int x2, .int x3, .int x4] S K) (hu1 : u1 < 3) (hR52 : ∀ (z5 : Int32) (S : St) (H : Heap) (locs : List Loc) (ls : Array Slot), R52 z5 S → wH D ad cs P (wA ad P) s.heap sz S H locs → lv_has ls 6 [(0, .ref (ad 18 0)), (1, .ref (ad 10 u1)), (2, .int x2), (3, .int x3), (4, .int x4), (5, .int z5)] → W p l e R s m args below meth c H locs 0 0 (MQ below (va_Qv K (QX D ad cs P sz) (wA ad P)) args s 0 0 (wA ad P)) (F0 m 52 ls [])) (hw : wbX1_pairFrom_120 F u1 R52 K x2 x3 x4 x5 S) (hh : wH D ad cs P (wA ad P) s.heap sz S H locs) (hl : lv_has ls 6 [(0, .ref (ad 18 0)), (1, .ref (ad 10 u1)), (2, .int x2), (3, .int x3), (4, .int x4), (5, .int x5)]) : W p l e R s m args below meth c H locs 0 0 (MQ below (va_Qv K (QX D ad cs P sz) (wA ad P)) args s 0 0 (wA ad P)) (F0 m 120 ls []) := by
  have hx := E.hx
  have hb := E.hb
  refine lv_iinc (k := 5) (v := x5 + 1) (lv' := [(5, .int (x5 + 1)), (0, .ref (ad 18 0)), (1, .ref (ad 10 u1)), (2, .int x2), (3, .int x3), (4, .int x4)]) hx hb dX1_pairFrom_120 hl rfl rfl (by decide) rfl (fun ls hl => ?_)
  refine lv_goto (tgt := 52) hx hb dX1_pairFrom_123 (by decide) ?_
  exact hR52 (x5 + 1) S _ _ _ hw hh (lv_sub hl [1, 2, 3, 4, 5, 0] rfl)
def wbX1_pairFrom_52 (F : Nat → Nat → Int32 → Int32 → Int32 → St → (St → Prop) → Prop) (u1 : Nat) (K : St → Prop) (x2 : Int32) (x3 : Int32) (x4 : Int32) : Nat → Int32 → St → Prop
  | 0, _, _ => False
  | n + 1, x5, S => if (S.1 10 u1 1) ≤ x5 then (K S) else (if ((x3 >>> (x5 &&& 31)) &&& 1) = 0 then (wpX5_at x2 x5 S (fun r10 S10 => (vp_in r10 16 ∧ if (S10.1 22 0 r10.toNatClampNeg) = 0 then (wbX1_pairFrom_120 F u1 (fun yx5 S9 => wbX1_pairFrom_52 F u1 K x2 x3 x4 n yx5 S9) K x2 x3 x4 x5 S10) else ((vp_in x2 4 ∧ ∀ S13, S13 = su S10 24 0 x2.toNatClampNeg x5 → wpX5_at x2 x5 S13 (fun r14 S14 => (vp_in r14 16 ∧ F 0 u1 (x2 + 1) (x3 ||| (1 <<< (x5 &&& 31))) (x4 + (S14.1 23 0 r14.toNatClampNeg)) S14 (fun S16 => wbX1_pairFrom_120 F u1 (fun yx5 S9 => wbX1_pairFrom_52 F u1 K x2 x3 x4 n yx5 S9) K x2 x3 x4 x5 S16)))))))) else (wbX1_pairFrom_120 F u1 (fun yx5 S9 => wbX1_pairFrom_52 F u1 K x2 x3 x4 n yx5 S9) K x2 x3 x4 x5 S))
set_option maxRecDepth 4000 in
theorem bX1_pairFrom_52 {p : Program} {l : Launch} {e : Env} {R : Room} {s : State} {m : MethodId} {args : Array Value} {below : List Frame} {meth : Method} {c : Code} {D : va_G} {ad : Nat → Nat → Nat} {cs : Nat → ClassId} {P : Nat → Nat → Prop} {sz tU : Nat} {adK adV : Nat → Nat} {F : Nat → Nat → Int32 → Int32 → Int32 → St → (St → Prop) → Prop} {d : Nat} {u1 : Nat} {K : St → Prop} {x2 : Int32} {x3 : Int32} {x4 : Int32} (E : Ex p s m args meth c R RX1 cX1_pairFrom 6 none (3 + (d + 1)) (108 + 25 * (d + 1)) D ad cs P (wA ad P) tU adK adV cnA) (hF0 : ∀ {u1 : Nat} {x2 : Int32} {x3 : Int32} {x4 : Int32} {S : St} {K : St → Prop}, u1 < 3 → F 0 u1 x2 x3 x4 S K → MV l yX1_pairFrom cX1_pairFrom 6 none (3 + d) (108 + 25 * d) D ad cs P sz tU adK adV [.ref (ad 18 0), .ref (ad 10 u1), .int x2, .int x3, .int x4] S K) (hu1 : u1 < 3) : ∀ (n : Nat) (x5 : Int32) (S : St) (H : Heap) (locs : List Loc) (ls : Array Slot), wbX1_pairFrom_52 F u1 K x2 x3 x4 n x5 S → wH D ad cs P (wA ad P) s.heap sz S H locs → lv_has ls 6 [(0, .ref (ad 18 0)), (1, .ref (ad 10 u1)), (2, .int x2), (3, .int x3), (4, .int x4), (5, .int x5)] → W p l e R s m args below meth c H locs 0 0 (MQ below (va_Qv K (QX D ad cs P sz) (wA ad P)) args s 0 0 (wA ad P)) (F0 m 52 ls []) := by
  have hx := E.hx
  have hb := E.hb
  intro n
  induction n with
  | zero => intro x5 S H locs ls hw hh hl; exact hw.elim
  | succ n ih =>
    intro x5 S H locs ls hw hh hl
    refine lv_iload hx hb dX1_pairFrom_52 (lv_at hl 5 rfl) ?_
    refine lv_aload_n hx hb dX1_pairFrom_54 rfl (lv_at hl 1 rfl) ?_
    refine g_10_1 E hh tb315 (E.hn 10 u1 hu1) dX1_pairFrom_55 ?_
    refine lv_icmp_ge (tgt := 126) hx hb dX1_pairFrom_58 (by decide) (fun c8 => ?_) (fun c8 => ?_)
    · have hw := ifT hw c8
      exact x_vret E hh hw dX1_pairFrom_126
    · have hw := ifF hw c8
      refine lv_iload_n hx hb dX1_pairFrom_61 rfl (lv_at hl 3 rfl) ?_
      refine lv_iload hx hb dX1_pairFrom_62 (lv_at hl 5 rfl) ?_
      refine lv_ishr hx hb dX1_pairFrom_64 ?_
      refine lv_iconst (v := 1) hx hb dX1_pairFrom_65 (by decide) ?_
      refine lv_iand hx hb dX1_pairFrom_66 ?_
      refine lv_if_ne (tgt := 120) hx hb dX1_pairFrom_67 (by decide) (fun c9 => ?_) (fun c9 => ?_)
      · have hw := ifF hw c9
        exact bX1_pairFrom_120 E hF0 hu1 ih hw hh (lv_sub hl [0, 1, 2, 3, 4, 5] rfl)
      · have hw := ifT hw c9
        refine lv_aload_n hx hb dX1_pairFrom_70 rfl (lv_at hl 0 rfl) ?_
        refine g_18_3 E hh tb79 (E.hn 18 0 (by decide)) dX1_pairFrom_71 ?_
        refine lv_iload_n hx hb dX1_pairFrom_74 rfl (lv_at hl 2 rfl) ?_
        refine lv_iload hx hb dX1_pairFrom_75 (lv_at hl 5 rfl) ?_
        refine x_ci E.hA hh (x_runS E hh (mX5_at E.hI (fun _ _ h => absurd h (Nat.not_lt_zero _)) hw) kX5_at tb592 ⟨by omega, by omega⟩ rfl hl.1 rfl (Nat.le_of_ble_eq_true rfl) dX1_pairFrom_77 ⟨Nat.zero_le _, Nat.zero_le _⟩) (fun r10 S10 H locs hw hh => ?_)
        obtain ⟨hi11, hw⟩ := hw
        refine x_zald E hh (E.hn 22 0 (by decide)) ly_22 hi11 dX1_pairFrom_80 ?_
        refine lv_if_eq (tgt := 120) hx hb dX1_pairFrom_81 (by decide) (fun c12 => ?_) (fun c12 => ?_)
        · have hw := ifT hw c12
          exact bX1_pairFrom_120 E hF0 hu1 ih hw hh (lv_sub hl [0, 1, 2, 3, 4, 5] rfl)
        · have hw := ifF hw c12
          refine lv_aload_n hx hb dX1_pairFrom_84 rfl (lv_at hl 0 rfl) ?_
          refine g_18_5 E hh tb81 (E.hn 18 0 (by decide)) dX1_pairFrom_85 ?_
          refine lv_iload_n hx hb dX1_pairFrom_88 rfl (lv_at hl 2 rfl) ?_
          refine lv_iload hx hb dX1_pairFrom_89 (lv_at hl 5 rfl) ?_
          obtain ⟨hi13, hw⟩ := hw
          refine x_iast E hh (E.hn 24 0 (by decide)) ly_24 hi13 dX1_pairFrom_91 (fun S13 H locs e13 hh => ?_)
          have hw := hw S13 e13
          refine lv_aload_n hx hb dX1_pairFrom_92 rfl (lv_at hl 0 rfl) ?_
          refine lv_aload_n hx hb dX1_pairFrom_93 rfl (lv_at hl 1 rfl) ?_
          refine lv_iload_n hx hb dX1_pairFrom_94 rfl (lv_at hl 2 rfl) ?_
          refine lv_iconst (v := 1) hx hb dX1_pairFrom_95 (by decide) ?_
          refine lv_iadd hx hb dX1_pairFrom_96 ?_
          refine lv_iload_n hx hb dX1_pairFrom_97 rfl (lv_at hl 3 rfl) ?_
          refine lv_iconst (v := 1) hx hb dX1_pairFrom_98 (by decide) ?_
          refine lv_iload hx hb dX1_pairFrom_99 (lv_at hl 5 rfl) ?_
          refine lv_ishl hx hb dX1_pairFrom_101 ?_
          refine lv_ior hx hb dX1_pairFrom_102 ?_
          refine lv_iload hx hb dX1_pairFrom_103 (lv_at hl 4 rfl) ?_
          refine lv_aload_n hx hb dX1_pairFrom_105 rfl (lv_at hl 0 rfl) ?_
          refine g_18_4 E hh tb80 (E.hn 18 0 (by decide)) dX1_pairFrom_106 ?_
          refine lv_iload_n hx hb dX1_pairFrom_109 rfl (lv_at hl 2 rfl) ?_
          refine lv_iload hx hb dX1_pairFrom_110 (lv_at hl 5 rfl) ?_
          refine x_ci E.hA hh (x_runS E hh (mX5_at E.hI (fun _ _ h => absurd h (Nat.not_lt_zero _)) hw) kX5_at tb592 ⟨by omega, by omega⟩ rfl hl.1 rfl (Nat.le_of_ble_eq_true rfl) dX1_pairFrom_112 ⟨Nat.zero_le _, Nat.zero_le _⟩) (fun r14 S14 H locs hw hh => ?_)
          obtain ⟨hi15, hw⟩ := hw
          refine x_iald E hh (E.hn 23 0 (by decide)) ly_23 hi15 dX1_pairFrom_115 ?_
          refine lv_iadd hx hb dX1_pairFrom_116 ?_
          refine x_cv E.hA hh (x_runV E hh (hF0 hu1 hw) kX1_pairFrom tb596 (E.hn 18 0 (by decide)) rv_18 ⟨by omega, by omega⟩ rfl hl.1 rfl (Nat.le_of_ble_eq_true rfl) dX1_pairFrom_117 ⟨Nat.zero_le _, Nat.zero_le _⟩) (fun S16 H locs hw hh => ?_)
          exact bX1_pairFrom_120 E hF0 hu1 ih hw hh (lv_sub hl [0, 1, 2, 3, 4, 5] rfl)
def wpX1_pairFrom (F : Nat → Nat → Int32 → Int32 → Int32 → St → (St → Prop) → Prop) (u1 : Nat) (x2 : Int32) (x3 : Int32) (x4 : Int32) (S : St) (K : St → Prop) : Prop := if x2 < (S.1 10 u1 0) then ((vp_in x2 4 ∧ ∀ S2, S2 = su S 24 0 x2.toNatClampNeg (-1) → F 0 u1 (x2 + 1) x3 x4 S2 (fun S3 => ∃ k, wbX1_pairFrom_52 F u1 K x2 x3 x4 k 0 S3))) else (wpX1_enter 0 x4 S (fun S4 => wpX1_isSteady u1 S4 (fun r5 S5 => if r5 = 0 then (K S5) else (wpX1_enter 1 x4 S5 (fun S7 => K S7)))))
set_option maxRecDepth 4000 in
theorem bX1_pairFrom {p : Program} {l : Launch} {e : Env} {R : Room} {s : State} {m : MethodId} {args : Array Value} {below : List Frame} {meth : Method} {c : Code} {D : va_G} {ad : Nat → Nat → Nat} {cs : Nat → ClassId} {P : Nat → Nat → Prop} {sz tU : Nat} {adK adV : Nat → Nat} {F : Nat → Nat → Int32 → Int32 → Int32 → St → (St → Prop) → Prop} {d : Nat} {K : St → Prop} {u1 : Nat} {x2 : Int32} {x3 : Int32} {x4 : Int32} {S : St} {H : Heap} {locs : List Loc} {ls : Array Slot} (E : Ex p s m args meth c R RX1 cX1_pairFrom 6 none (3 + (d + 1)) (108 + 25 * (d + 1)) D ad cs P (wA ad P) tU adK adV cnA) (hF0 : ∀ {u1 : Nat} {x2 : Int32} {x3 : Int32} {x4 : Int32} {S : St} {K : St → Prop}, u1 < 3 → F 0 u1 x2 x3 x4 S K → MV l yX1_pairFrom cX1_pairFrom 6 none (3 + d) (108 + 25 * d) D ad cs P sz tU adK adV [.ref (ad 18 0), .ref (ad 10 u1), .int x2, .int x3, .int x4] S K) (hu1 : u1 < 3) (hw : wpX1_pairFrom F u1 x2 x3 x4 S K) (hh : wH D ad cs P (wA ad P) s.heap sz S H locs) (hl : lv_has ls 6 [(0, .ref (ad 18 0)), (1, .ref (ad 10 u1)), (2, .int x2), (3, .int x3), (4, .int x4)]) : W p l e R s m args below meth c H locs 0 0 (MQ below (va_Qv K (QX D ad cs P sz) (wA ad P)) args s 0 0 (wA ad P)) (F0 m 0 ls []) := by
  have hx := E.hx
  have hb := E.hb
  refine lv_iload_n hx hb dX1_pairFrom_0 rfl (lv_at hl 2 rfl) ?_
  refine lv_aload_n hx hb dX1_pairFrom_1 rfl (lv_at hl 1 rfl) ?_
  refine g_10_0 E hh tb311 (E.hn 10 u1 hu1) dX1_pairFrom_2 ?_
  refine lv_icmp_lt (tgt := 31) hx hb dX1_pairFrom_5 (by decide) (fun c1 => ?_) (fun c1 => ?_)
  · have hw := ifT hw c1
    refine lv_aload_n hx hb dX1_pairFrom_31 rfl (lv_at hl 0 rfl) ?_
    refine g_18_5 E hh tb81 (E.hn 18 0 (by decide)) dX1_pairFrom_32 ?_
    refine lv_iload_n hx hb dX1_pairFrom_35 rfl (lv_at hl 2 rfl) ?_
    refine lv_iconst (v := (-1)) hx hb dX1_pairFrom_36 (by decide) ?_
    obtain ⟨hi2, hw⟩ := hw
    refine x_iast E hh (E.hn 24 0 (by decide)) ly_24 hi2 dX1_pairFrom_37 (fun S2 H locs e2 hh => ?_)
    have hw := hw S2 e2
    refine lv_aload_n hx hb dX1_pairFrom_38 rfl (lv_at hl 0 rfl) ?_
    refine lv_aload_n hx hb dX1_pairFrom_39 rfl (lv_at hl 1 rfl) ?_
    refine lv_iload_n hx hb dX1_pairFrom_40 rfl (lv_at hl 2 rfl) ?_
    refine lv_iconst (v := 1) hx hb dX1_pairFrom_41 (by decide) ?_
    refine lv_iadd hx hb dX1_pairFrom_42 ?_
    refine lv_iload_n hx hb dX1_pairFrom_43 rfl (lv_at hl 3 rfl) ?_
    refine lv_iload hx hb dX1_pairFrom_44 (lv_at hl 4 rfl) ?_
    refine x_cv E.hA hh (x_runV E hh (hF0 hu1 hw) kX1_pairFrom tb596 (E.hn 18 0 (by decide)) rv_18 ⟨by omega, by omega⟩ rfl hl.1 rfl (Nat.le_of_ble_eq_true rfl) dX1_pairFrom_46 ⟨Nat.zero_le _, Nat.zero_le _⟩) (fun S3 H locs hw hh => ?_)
    refine lv_iconst (v := 0) hx hb dX1_pairFrom_49 (by decide) ?_
    refine lv_istore (lv' := [(5, .int 0), (0, .ref (ad 18 0)), (1, .ref (ad 10 u1)), (2, .int x2), (3, .int x3), (4, .int x4)]) hx hb dX1_pairFrom_50 hl (by decide) rfl (fun ls hl => ?_)
    obtain ⟨k, hw⟩ := hw
    exact bX1_pairFrom_52 E hF0 hu1 k 0 S3 _ _ _ hw hh (lv_sub hl [1, 2, 3, 4, 5, 0] rfl)
  · have hw := ifF hw c1
    refine lv_aload_n hx hb dX1_pairFrom_8 rfl (lv_at hl 0 rfl) ?_
    refine lv_iconst (v := 0) hx hb dX1_pairFrom_9 (by decide) ?_
    refine lv_iload hx hb dX1_pairFrom_10 (lv_at hl 4 rfl) ?_
    refine x_cv E.hA hh (x_runV E hh (mX1_enter E.hI E.hn hw) kX1_enter tb600 (E.hn 18 0 (by decide)) rv_18 ⟨by omega, by omega⟩ rfl hl.1 rfl (Nat.le_of_ble_eq_true rfl) dX1_pairFrom_12 ⟨Nat.zero_le _, Nat.zero_le _⟩) (fun S4 H locs hw hh => ?_)
    refine lv_aload_n hx hb dX1_pairFrom_15 rfl (lv_at hl 0 rfl) ?_
    refine lv_aload_n hx hb dX1_pairFrom_16 rfl (lv_at hl 1 rfl) ?_
    refine x_ci E.hA hh (x_runV E hh (mX1_isSteady E.hI E.hn hu1 hw) kX1_isSteady tb605 (E.hn 18 0 (by decide)) rv_18 ⟨by omega, by omega⟩ rfl hl.1 rfl (Nat.le_of_ble_eq_true rfl) dX1_pairFrom_17 ⟨Nat.zero_le _, Nat.zero_le _⟩) (fun r5 S5 H locs hw hh => ?_)
    have hq5 := hw.2
    have hw := hw.1
    refine lv_if_eq (tgt := 30) hx hb dX1_pairFrom_20 (by decide) (fun c6 => ?_) (fun c6 => ?_)
    · have hw := ifT hw c6
      exact x_vret E hh hw dX1_pairFrom_30
    · have hw := ifF hw c6
      refine lv_aload_n hx hb dX1_pairFrom_23 rfl (lv_at hl 0 rfl) ?_
      refine lv_iconst (v := 1) hx hb dX1_pairFrom_24 (by decide) ?_
      refine lv_iload hx hb dX1_pairFrom_25 (lv_at hl 4 rfl) ?_
      refine x_cv E.hA hh (x_runV E hh (mX1_enter E.hI E.hn hw) kX1_enter tb600 (E.hn 18 0 (by decide)) rv_18 ⟨by omega, by omega⟩ rfl hl.1 rfl (Nat.le_of_ble_eq_true rfl) dX1_pairFrom_27 ⟨Nat.zero_le _, Nat.zero_le _⟩) (fun S7 H locs hw hh => ?_)
      exact x_vret E hh hw dX1_pairFrom_30
def wpG2 : Nat → Nat → Nat → Int32 → Int32 → Int32 → St → (St → Prop) → Prop
  | 0 => fun _ _ _ _ _ _ _ => False
  | d + 1 => fun tag u1 x2 x3 x4 S K => wpX1_pairFrom (wpG2 d) u1 x2 x3 x4 S K
theorem mG2 {l : Launch} {D : va_G} {ad : Nat → Nat → Nat} {cs : Nat → ClassId} {P : Nat → Nat → Prop} {sz tU : Nat} {adK adV : Nat → Nat} (hI : wI ad P) (hn : ∀ kd i, i < cnA kd → P kd i) : ∀ d : Nat, (∀ {u1 : Nat} {x2 : Int32} {x3 : Int32} {x4 : Int32} {S : St} {K : St → Prop}, u1 < 3 → wpG2 d 0 u1 x2 x3 x4 S K → MV l yX1_pairFrom cX1_pairFrom 6 none (3 + d) (108 + 25 * d) D ad cs P sz tU adK adV [.ref (ad 18 0), .ref (ad 10 u1), .int x2, .int x3, .int x4] S K) := by
  intro d
  induction d with
  | zero => exact (fun _ hw => hw.elim)
  | succ d ih =>
    have hF0 := @ih
    refine ?_
    · intro u1 x2 x3 x4 S K hu1 hw
      have hw : wpX1_pairFrom (wpG2 d) u1 x2 x3 x4 S K := hw
      exact Met_of (by decide) (Nat.le_of_ble_eq_true rfl) hI hn (fun p e R s m args below meth c ls E hl hh => bX1_pairFrom E @hF0 hu1 hw hh (lv_sub hl [0, 1, 2, 3, 4] rfl))
theorem mG2_X1_pairFrom {l : Launch} {D : va_G} {ad : Nat → Nat → Nat} {cs : Nat → ClassId} {P : Nat → Nat → Prop} {sz tU : Nat} {adK adV : Nat → Nat} {u1 : Nat} {x2 : Int32} {x3 : Int32} {x4 : Int32} {S : St} {K : St → Prop} (hI : wI ad P) (hn : ∀ kd i, i < cnA kd → P kd i) (d : Nat) (hu1 : u1 < 3) (hw : wpG2 d 0 u1 x2 x3 x4 S K) : MV l yX1_pairFrom cX1_pairFrom 6 none (3 + d) (108 + 25 * d) D ad cs P sz tU adK adV [.ref (ad 18 0), .ref (ad 10 u1), .int x2, .int x3, .int x4] S K := (mG2 hI hn d) hu1 hw
def wbX1_weigh_43 (u1 : Nat) (R2 : Int32 → St → Prop) (R12 : Int32 → St → Prop) (K : St → Prop) (x2 : Int32) (x3 : Int32) (v0 : Int32) (v1 : Int32) (S : St) : Prop := (vp_in v1 16 ∧ ∀ S6, S6 = su S 22 0 v1.toNatClampNeg (vp_nar .boolean v0) → wpX5_at x2 x3 S6 (fun r7 S7 => wpX5_worth u1 x2 x3 S7 (fun r8 S8 => (vp_in r7 16 ∧ ∀ S9, S9 = su S8 23 0 r7.toNatClampNeg r8 → R12 (x3 + 1) S9))))
set_option maxRecDepth 4000 in
theorem bX1_weigh_43 {p : Program} {l : Launch} {e : Env} {R : Room} {s : State} {m : MethodId} {args : Array Value} {below : List Frame} {meth : Method} {c : Code} {D : va_G} {ad : Nat → Nat → Nat} {cs : Nat → ClassId} {P : Nat → Nat → Prop} {sz tU : Nat} {adK adV : Nat → Nat} {u1 : Nat} {R2 : Int32 → St → Prop} {R12 : Int32 → St → Prop} {K : St → Prop} {x2 : Int32} {x3 : Int32} {v0 : Int32} {v1 : Int32} {S : St} {H : Heap} {locs : List Loc} {ls : Array Slot} (E : Ex p s m args meth c R RX1 cX1_weigh 4 none 5 152 D ad cs P (wA ad P) tU adK adV cnA) (hu1 : u1 < 3) (hR2 : ∀ (z2 : Int32) (S : St) (H : Heap) (locs : List Loc) (ls : Array Slot), R2 z2 S → wH D ad cs P (wA ad P) s.heap sz S H locs → lv_has ls 4 [(0, .ref (ad 18 0)), (1, .ref (ad 10 u1)), (2, .int z2)] → W p l e R s m args below meth c H locs 0 0 (MQ below (va_Qv K (QX D ad cs P sz) (wA ad P)) args s 0 0 (wA ad P)) (F0 m 2 ls [])) (hR12 : ∀ (z3 : Int32) (S : St) (H : Heap) (locs : List Loc) (ls : Array Slot), R12 z3 S → wH D ad cs P (wA ad P) s.heap sz S H locs → lv_has ls 4 [(0, .ref (ad 18 0)), (1, .ref (ad 10 u1)), (2, .int x2), (3, .int z3)] → W p l e R s m args below meth c H locs 0 0 (MQ below (va_Qv K (QX D ad cs P sz) (wA ad P)) args s 0 0 (wA ad P)) (F0 m 12 ls [])) (hw : wbX1_weigh_43 u1 R2 R12 K x2 x3 v0 v1 S) (hh : wH D ad cs P (wA ad P) s.heap sz S H locs) (hl : lv_has ls 4 [(0, .ref (ad 18 0)), (1, .ref (ad 10 u1)), (2, .int x2), (3, .int x3)]) : W p l e R s m args below meth c H locs 0 0 (MQ below (va_Qv K (QX D ad cs P sz) (wA ad P)) args s 0 0 (wA ad P)) (F0 m 43 ls [.int v0, .int v1, .ref (ad 22 0)]) := by
  have hx := E.hx
  have hb := E.hb
  obtain ⟨hi6, hw⟩ := hw
  refine x_zast E hh (E.hn 22 0 (by decide)) ly_22 hi6 dX1_weigh_43 (fun S6 H locs e6 hh => ?_)
  have hw := hw S6 e6
  refine lv_aload_n hx hb dX1_weigh_44 rfl (lv_at hl 0 rfl) ?_
  refine g_18_4 E hh tb80 (E.hn 18 0 (by decide)) dX1_weigh_45 ?_
  refine lv_iload_n hx hb dX1_weigh_48 rfl (lv_at hl 2 rfl) ?_
  refine lv_iload_n hx hb dX1_weigh_49 rfl (lv_at hl 3 rfl) ?_
  refine x_ci E.hA hh (x_runS E hh (mX5_at E.hI (fun _ _ h => absurd h (Nat.not_lt_zero _)) hw) kX5_at tb592 ⟨by decide, by decide⟩ rfl hl.1 rfl (Nat.le_of_ble_eq_true rfl) dX1_weigh_50 ⟨Nat.zero_le _, Nat.zero_le _⟩) (fun r7 S7 H locs hw hh => ?_)
  refine lv_aload_n hx hb dX1_weigh_53 rfl (lv_at hl 1 rfl) ?_
  refine lv_iload_n hx hb dX1_weigh_54 rfl (lv_at hl 2 rfl) ?_
  refine lv_iload_n hx hb dX1_weigh_55 rfl (lv_at hl 3 rfl) ?_
  refine x_ci E.hA hh (x_runV E hh (mX5_worth E.hI E.hn hu1 hw) kX5_worth tb594 (E.hn 10 u1 hu1) rv_10 ⟨by decide, by decide⟩ rfl hl.1 rfl (Nat.le_of_ble_eq_true rfl) dX1_weigh_56 ⟨Nat.zero_le _, Nat.zero_le _⟩) (fun r8 S8 H locs hw hh => ?_)
  obtain ⟨hi9, hw⟩ := hw
  refine x_iast E hh (E.hn 23 0 (by decide)) ly_23 hi9 dX1_weigh_59 (fun S9 H locs e9 hh => ?_)
  have hw := hw S9 e9
  refine lv_iinc (k := 3) (v := x3 + 1) (lv' := [(3, .int (x3 + 1)), (0, .ref (ad 18 0)), (1, .ref (ad 10 u1)), (2, .int x2)]) hx hb dX1_weigh_60 hl rfl rfl (by decide) rfl (fun ls hl => ?_)
  refine lv_goto (tgt := 12) hx hb dX1_weigh_63 (by decide) ?_
  exact hR12 (x3 + 1) S9 _ _ _ hw hh (lv_sub hl [1, 2, 3, 0] rfl)
def wbX1_weigh_12 (u1 : Nat) (R2 : Int32 → St → Prop) (K : St → Prop) (x2 : Int32) : Nat → Int32 → St → Prop
  | 0, _, _ => False
  | n + 1, x3, S => if (S.1 10 u1 1) ≤ x3 then (R2 (x2 + 1) S) else (wpX5_at x2 x3 S (fun r3 S3 => wpX5_saysNo u1 x2 x3 S3 (fun r4 S4 => if r4 = 0 then (wbX1_weigh_43 u1 R2 (fun yx3 S9 => wbX1_weigh_12 u1 R2 K x2 n yx3 S9) K x2 x3 1 r3 S4) else (wbX1_weigh_43 u1 R2 (fun yx3 S9 => wbX1_weigh_12 u1 R2 K x2 n yx3 S9) K x2 x3 0 r3 S4))))
set_option maxRecDepth 4000 in
theorem bX1_weigh_12 {p : Program} {l : Launch} {e : Env} {R : Room} {s : State} {m : MethodId} {args : Array Value} {below : List Frame} {meth : Method} {c : Code} {D : va_G} {ad : Nat → Nat → Nat} {cs : Nat → ClassId} {P : Nat → Nat → Prop} {sz tU : Nat} {adK adV : Nat → Nat} {u1 : Nat} {R2 : Int32 → St → Prop} {K : St → Prop} {x2 : Int32} (E : Ex p s m args meth c R RX1 cX1_weigh 4 none 5 152 D ad cs P (wA ad P) tU adK adV cnA) (hu1 : u1 < 3) (hR2 : ∀ (z2 : Int32) (S : St) (H : Heap) (locs : List Loc) (ls : Array Slot), R2 z2 S → wH D ad cs P (wA ad P) s.heap sz S H locs → lv_has ls 4 [(0, .ref (ad 18 0)), (1, .ref (ad 10 u1)), (2, .int z2)] → W p l e R s m args below meth c H locs 0 0 (MQ below (va_Qv K (QX D ad cs P sz) (wA ad P)) args s 0 0 (wA ad P)) (F0 m 2 ls [])) : ∀ (n : Nat) (x3 : Int32) (S : St) (H : Heap) (locs : List Loc) (ls : Array Slot), wbX1_weigh_12 u1 R2 K x2 n x3 S → wH D ad cs P (wA ad P) s.heap sz S H locs → lv_has ls 4 [(0, .ref (ad 18 0)), (1, .ref (ad 10 u1)), (2, .int x2), (3, .int x3)] → W p l e R s m args below meth c H locs 0 0 (MQ below (va_Qv K (QX D ad cs P sz) (wA ad P)) args s 0 0 (wA ad P)) (F0 m 12 ls []) := by
  have hx := E.hx
  have hb := E.hb
  intro n
  induction n with
  | zero => intro x3 S H locs ls hw hh hl; exact hw.elim
  | succ n ih =>
    intro x3 S H locs ls hw hh hl
    refine lv_iload_n hx hb dX1_weigh_12 rfl (lv_at hl 3 rfl) ?_
    refine lv_aload_n hx hb dX1_weigh_13 rfl (lv_at hl 1 rfl) ?_
    refine g_10_1 E hh tb315 (E.hn 10 u1 hu1) dX1_weigh_14 ?_
    refine lv_icmp_ge (tgt := 66) hx hb dX1_weigh_17 (by decide) (fun c2 => ?_) (fun c2 => ?_)
    · have hw := ifT hw c2
      refine lv_iinc (k := 2) (v := x2 + 1) (lv' := [(2, .int (x2 + 1)), (0, .ref (ad 18 0)), (1, .ref (ad 10 u1)), (3, .int x3)]) hx hb dX1_weigh_66 hl rfl rfl (by decide) rfl (fun ls hl => ?_)
      refine lv_goto (tgt := 2) hx hb dX1_weigh_69 (by decide) ?_
      exact hR2 (x2 + 1) S _ _ _ hw hh (lv_sub hl [1, 2, 0] rfl)
    · have hw := ifF hw c2
      refine lv_aload_n hx hb dX1_weigh_20 rfl (lv_at hl 0 rfl) ?_
      refine g_18_3 E hh tb79 (E.hn 18 0 (by decide)) dX1_weigh_21 ?_
      refine lv_iload_n hx hb dX1_weigh_24 rfl (lv_at hl 2 rfl) ?_
      refine lv_iload_n hx hb dX1_weigh_25 rfl (lv_at hl 3 rfl) ?_
      refine x_ci E.hA hh (x_runS E hh (mX5_at E.hI (fun _ _ h => absurd h (Nat.not_lt_zero _)) hw) kX5_at tb592 ⟨by decide, by decide⟩ rfl hl.1 rfl (Nat.le_of_ble_eq_true rfl) dX1_weigh_26 ⟨Nat.zero_le _, Nat.zero_le _⟩) (fun r3 S3 H locs hw hh => ?_)
      refine lv_aload_n hx hb dX1_weigh_29 rfl (lv_at hl 1 rfl) ?_
      refine lv_iload_n hx hb dX1_weigh_30 rfl (lv_at hl 2 rfl) ?_
      refine lv_iload_n hx hb dX1_weigh_31 rfl (lv_at hl 3 rfl) ?_
      refine x_ci E.hA hh (x_runV E hh (mX5_saysNo E.hI E.hn hu1 hw) kX5_saysNo tb593 (E.hn 10 u1 hu1) rv_10 ⟨by decide, by decide⟩ rfl hl.1 rfl (Nat.le_of_ble_eq_true rfl) dX1_weigh_32 ⟨Nat.zero_le _, Nat.zero_le _⟩) (fun r4 S4 H locs hw hh => ?_)
      have hq4 := hw.2
      have hw := hw.1
      refine lv_if_ne (tgt := 42) hx hb dX1_weigh_35 (by decide) (fun c5 => ?_) (fun c5 => ?_)
      · have hw := ifF hw c5
        refine lv_iconst (v := 0) hx hb dX1_weigh_42 (by decide) ?_
        exact bX1_weigh_43 E hu1 hR2 ih hw hh (lv_sub hl [0, 1, 2, 3] rfl)
      · have hw := ifT hw c5
        refine lv_iconst (v := 1) hx hb dX1_weigh_38 (by decide) ?_
        refine lv_goto (tgt := 43) hx hb dX1_weigh_39 (by decide) ?_
        exact bX1_weigh_43 E hu1 hR2 ih hw hh (lv_sub hl [0, 1, 2, 3] rfl)
def wbX1_weigh_2 (u1 : Nat) (K : St → Prop) : Nat → Int32 → St → Prop
  | 0, _, _ => False
  | n + 1, x2, S => if (S.1 10 u1 0) ≤ x2 then (K S) else (∃ k, wbX1_weigh_12 u1 (fun yx2 S9 => wbX1_weigh_2 u1 K n yx2 S9) K x2 k 0 S)
set_option maxRecDepth 4000 in
theorem bX1_weigh_2 {p : Program} {l : Launch} {e : Env} {R : Room} {s : State} {m : MethodId} {args : Array Value} {below : List Frame} {meth : Method} {c : Code} {D : va_G} {ad : Nat → Nat → Nat} {cs : Nat → ClassId} {P : Nat → Nat → Prop} {sz tU : Nat} {adK adV : Nat → Nat} {u1 : Nat} {K : St → Prop} (E : Ex p s m args meth c R RX1 cX1_weigh 4 none 5 152 D ad cs P (wA ad P) tU adK adV cnA) (hu1 : u1 < 3) : ∀ (n : Nat) (x2 : Int32) (S : St) (H : Heap) (locs : List Loc) (ls : Array Slot), wbX1_weigh_2 u1 K n x2 S → wH D ad cs P (wA ad P) s.heap sz S H locs → lv_has ls 4 [(0, .ref (ad 18 0)), (1, .ref (ad 10 u1)), (2, .int x2)] → W p l e R s m args below meth c H locs 0 0 (MQ below (va_Qv K (QX D ad cs P sz) (wA ad P)) args s 0 0 (wA ad P)) (F0 m 2 ls []) := by
  have hx := E.hx
  have hb := E.hb
  intro n
  induction n with
  | zero => intro x2 S H locs ls hw hh hl; exact hw.elim
  | succ n ih =>
    intro x2 S H locs ls hw hh hl
    refine lv_iload_n hx hb dX1_weigh_2 rfl (lv_at hl 2 rfl) ?_
    refine lv_aload_n hx hb dX1_weigh_3 rfl (lv_at hl 1 rfl) ?_
    refine g_10_0 E hh tb311 (E.hn 10 u1 hu1) dX1_weigh_4 ?_
    refine lv_icmp_ge (tgt := 72) hx hb dX1_weigh_7 (by decide) (fun c1 => ?_) (fun c1 => ?_)
    · have hw := ifT hw c1
      exact x_vret E hh hw dX1_weigh_72
    · have hw := ifF hw c1
      refine lv_iconst (v := 0) hx hb dX1_weigh_10 (by decide) ?_
      refine lv_istore_n (lv' := [(3, .int 0), (0, .ref (ad 18 0)), (1, .ref (ad 10 u1)), (2, .int x2)]) hx hb dX1_weigh_11 rfl hl (by decide) rfl (fun ls hl => ?_)
      obtain ⟨k, hw⟩ := hw
      exact bX1_weigh_12 E hu1 ih k 0 S _ _ _ hw hh (lv_sub hl [1, 2, 3, 0] rfl)
def wpX1_weigh (u1 : Nat) (S : St) (K : St → Prop) : Prop := ∃ k, wbX1_weigh_2 u1 K k 0 S
set_option maxRecDepth 4000 in
theorem bX1_weigh {p : Program} {l : Launch} {e : Env} {R : Room} {s : State} {m : MethodId} {args : Array Value} {below : List Frame} {meth : Method} {c : Code} {D : va_G} {ad : Nat → Nat → Nat} {cs : Nat → ClassId} {P : Nat → Nat → Prop} {sz tU : Nat} {adK adV : Nat → Nat} {K : St → Prop} {u1 : Nat} {S : St} {H : Heap} {locs : List Loc} {ls : Array Slot} (E : Ex p s m args meth c R RX1 cX1_weigh 4 none 5 152 D ad cs P (wA ad P) tU adK adV cnA) (hu1 : u1 < 3) (hw : wpX1_weigh u1 S K) (hh : wH D ad cs P (wA ad P) s.heap sz S H locs) (hl : lv_has ls 4 [(0, .ref (ad 18 0)), (1, .ref (ad 10 u1))]) : W p l e R s m args below meth c H locs 0 0 (MQ below (va_Qv K (QX D ad cs P sz) (wA ad P)) args s 0 0 (wA ad P)) (F0 m 0 ls []) := by
  have hx := E.hx
  have hb := E.hb
  refine lv_iconst (v := 0) hx hb dX1_weigh_0 (by decide) ?_
  refine lv_istore_n (lv' := [(2, .int 0), (0, .ref (ad 18 0)), (1, .ref (ad 10 u1))]) hx hb dX1_weigh_1 rfl hl (by decide) rfl (fun ls hl => ?_)
  obtain ⟨k, hw⟩ := hw
  exact bX1_weigh_2 E hu1 k 0 S _ _ _ hw hh (lv_sub hl [1, 2, 0] rfl)
theorem kX1_weigh : kI yX1_weigh cX1_weigh 4 none 1 := ⟨tb590, ts21, tb3, tb591, by decide, by decide, by decide +kernel⟩
theorem mX1_weigh {l : Launch} {D : va_G} {ad : Nat → Nat → Nat} {cs : Nat → ClassId} {P : Nat → Nat → Prop} {sz tU : Nat} {adK adV : Nat → Nat} {u1 : Nat} {S : St} {K : St → Prop} (hI : wI ad P) (hn : ∀ kd i, i < cnA kd → P kd i) (hu1 : u1 < 3) (hw : wpX1_weigh u1 S K) : MV l yX1_weigh cX1_weigh 4 none 5 152 D ad cs P sz tU adK adV [.ref (ad 18 0), .ref (ad 10 u1)] S K :=
  Met_of (by decide) (Nat.le_of_ble_eq_true rfl) hI hn (fun p e R s m args below meth c ls E hl hh => bX1_weigh E hu1 hw hh (lv_sub hl [0, 1] rfl))
def wpX1_tryAll (u1 : Nat) (S : St) (K : St → Prop) : Prop := wpX1_weigh u1 S (fun S1 => wpJ7_fill_53178 19 0 2 0 S1 (fun S2 => wpJ7_fill_53178 20 0 2 0 S2 (fun S3 => wpG2 8 0 u1 0 0 0 S3 (fun S4 => K S4))))
set_option maxRecDepth 4000 in
theorem bX1_tryAll {p : Program} {l : Launch} {e : Env} {R : Room} {s : State} {m : MethodId} {args : Array Value} {below : List Frame} {meth : Method} {c : Code} {D : va_G} {ad : Nat → Nat → Nat} {cs : Nat → ClassId} {P : Nat → Nat → Prop} {sz tU : Nat} {adK adV : Nat → Nat} {K : St → Prop} {u1 : Nat} {S : St} {H : Heap} {locs : List Loc} {ls : Array Slot} (E : Ex p s m args meth c R RX1 cX1_tryAll 2 none 12 333 D ad cs P (wA ad P) tU adK adV cnA) (hu1 : u1 < 3) (hw : wpX1_tryAll u1 S K) (hh : wH D ad cs P (wA ad P) s.heap sz S H locs) (hl : lv_has ls 2 [(0, .ref (ad 18 0)), (1, .ref (ad 10 u1))]) : W p l e R s m args below meth c H locs 0 0 (MQ below (va_Qv K (QX D ad cs P sz) (wA ad P)) args s 0 0 (wA ad P)) (F0 m 0 ls []) := by
  have hx := E.hx
  have hb := E.hb
  refine lv_aload_n hx hb dX1_tryAll_0 rfl (lv_at hl 0 rfl) ?_
  refine lv_aload_n hx hb dX1_tryAll_1 rfl (lv_at hl 1 rfl) ?_
  refine x_cv E.hA hh (x_runV E hh (mX1_weigh E.hI E.hn hu1 hw) kX1_weigh tb588 (E.hn 18 0 (by decide)) rv_18 ⟨by decide, by decide⟩ rfl hl.1 rfl (Nat.le_of_ble_eq_true rfl) dX1_tryAll_2 ⟨Nat.zero_le _, Nat.zero_le _⟩) (fun S1 H locs hw hh => ?_)
  refine lv_aload_n hx hb dX1_tryAll_5 rfl (lv_at hl 0 rfl) ?_
  refine g_18_0 E hh tb74 (E.hn 18 0 (by decide)) dX1_tryAll_6 ?_
  refine lv_iconst (v := 0) hx hb dX1_tryAll_9 (by decide) ?_
  refine x_cv E.hA hh (x_runS E hh (mJ7_fill_53178 E.hI (fun _ _ h => absurd h (Nat.not_lt_zero _)) (E.hn 19 0 (by decide)) ly_19 hw) kJ7_fill_53178 tb595 ⟨by decide, by decide⟩ rfl hl.1 rfl (Nat.le_of_ble_eq_true rfl) dX1_tryAll_10 ⟨Nat.zero_le _, Nat.zero_le _⟩) (fun S2 H locs hw hh => ?_)
  refine lv_aload_n hx hb dX1_tryAll_13 rfl (lv_at hl 0 rfl) ?_
  refine g_18_1 E hh tb76 (E.hn 18 0 (by decide)) dX1_tryAll_14 ?_
  refine lv_iconst (v := 0) hx hb dX1_tryAll_17 (by decide) ?_
  refine x_cv E.hA hh (x_runS E hh (mJ7_fill_53178 E.hI (fun _ _ h => absurd h (Nat.not_lt_zero _)) (E.hn 20 0 (by decide)) ly_20 hw) kJ7_fill_53178 tb595 ⟨by decide, by decide⟩ rfl hl.1 rfl (Nat.le_of_ble_eq_true rfl) dX1_tryAll_18 ⟨Nat.zero_le _, Nat.zero_le _⟩) (fun S3 H locs hw hh => ?_)
  refine lv_aload_n hx hb dX1_tryAll_21 rfl (lv_at hl 0 rfl) ?_
  refine lv_aload_n hx hb dX1_tryAll_22 rfl (lv_at hl 1 rfl) ?_
  refine lv_iconst (v := 0) hx hb dX1_tryAll_23 (by decide) ?_
  refine lv_iconst (v := 0) hx hb dX1_tryAll_24 (by decide) ?_
  refine lv_iconst (v := 0) hx hb dX1_tryAll_25 (by decide) ?_
  refine x_cv E.hA hh (x_runV E hh (mG2_X1_pairFrom E.hI E.hn 8 hu1 hw) kX1_pairFrom tb596 (E.hn 18 0 (by decide)) rv_18 ⟨by decide, by decide⟩ rfl hl.1 rfl (Nat.le_of_ble_eq_true rfl) dX1_tryAll_26 ⟨Nat.zero_le _, Nat.zero_le _⟩) (fun S4 H locs hw hh => ?_)
  exact x_vret E hh hw dX1_tryAll_29
theorem kX1_tryAll : kI yX1_tryAll cX1_tryAll 2 none 1 := ⟨tb585, tb586, tb3, tb587, by decide, by decide, by decide +kernel⟩
theorem mX1_tryAll {l : Launch} {D : va_G} {ad : Nat → Nat → Nat} {cs : Nat → ClassId} {P : Nat → Nat → Prop} {sz tU : Nat} {adK adV : Nat → Nat} {u1 : Nat} {S : St} {K : St → Prop} (hI : wI ad P) (hn : ∀ kd i, i < cnA kd → P kd i) (hu1 : u1 < 3) (hw : wpX1_tryAll u1 S K) : MV l yX1_tryAll cX1_tryAll 2 none 12 333 D ad cs P sz tU adK adV [.ref (ad 18 0), .ref (ad 10 u1)] S K :=
  Met_of (by decide) (Nat.le_of_ble_eq_true rfl) hI hn (fun p e R s m args below meth c ls E hl hh => bX1_tryAll E hu1 hw hh (lv_sub hl [0, 1] rfl))
def wpX1_bestMaid (x1 : Int32) (x2 : Int32) (S : St) (K : Int32 → St → Prop) : Prop := (vp_in ((x1 * 4) + x2) 8 ∧ K (S.1 21 0 ((x1 * 4) + x2).toNatClampNeg) S)
set_option maxRecDepth 4000 in
theorem bX1_bestMaid {p : Program} {l : Launch} {e : Env} {R : Room} {s : State} {m : MethodId} {args : Array Value} {below : List Frame} {meth : Method} {c : Code} {D : va_G} {ad : Nat → Nat → Nat} {cs : Nat → ClassId} {P : Nat → Nat → Prop} {sz tU : Nat} {adK adV : Nat → Nat} {K : Int32 → St → Prop} {x1 : Int32} {x2 : Int32} {S : St} {H : Heap} {locs : List Loc} {ls : Array Slot} (E : Ex p s m args meth c R RX1 cX1_bestMaid 3 (some .int) 1 60 D ad cs P (wA ad P) tU adK adV cnA) (hw : wpX1_bestMaid x1 x2 S K) (hh : wH D ad cs P (wA ad P) s.heap sz S H locs) (hl : lv_has ls 3 [(0, .ref (ad 18 0)), (1, .int x1), (2, .int x2)]) : W p l e R s m args below meth c H locs 0 0 (MQ below (va_Qi K (QX D ad cs P sz) (wA ad P)) args s 0 0 (wA ad P)) (F0 m 0 ls []) := by
  have hx := E.hx
  have hb := E.hb
  refine lv_aload_n hx hb dX1_bestMaid_0 rfl (lv_at hl 0 rfl) ?_
  refine g_18_2 E hh tb78 (E.hn 18 0 (by decide)) dX1_bestMaid_1 ?_
  refine lv_iload_n hx hb dX1_bestMaid_4 rfl (lv_at hl 1 rfl) ?_
  refine lv_iconst (v := 4) hx hb dX1_bestMaid_5 (by decide) ?_
  refine lv_imul hx hb dX1_bestMaid_6 ?_
  refine lv_iload_n hx hb dX1_bestMaid_7 rfl (lv_at hl 2 rfl) ?_
  refine lv_iadd hx hb dX1_bestMaid_8 ?_
  obtain ⟨hi1, hw⟩ := hw
  refine x_iald E hh (E.hn 21 0 (by decide)) ly_21 hi1 dX1_bestMaid_9 ?_
  exact x_iret E hh hw dX1_bestMaid_10
theorem kX1_bestMaid : kI yX1_bestMaid cX1_bestMaid 3 (some .int) 2 := ⟨tb614, tb615, tb3, tb616, by decide, by decide, by decide +kernel⟩
theorem mX1_bestMaid {l : Launch} {D : va_G} {ad : Nat → Nat → Nat} {cs : Nat → ClassId} {P : Nat → Nat → Prop} {sz tU : Nat} {adK adV : Nat → Nat} {x1 : Int32} {x2 : Int32} {S : St} {K : Int32 → St → Prop} (hI : wI ad P) (hn : ∀ kd i, i < cnA kd → P kd i) (hw : wpX1_bestMaid x1 x2 S K) : MI l yX1_bestMaid cX1_bestMaid 3 (some .int) 1 60 D ad cs P sz tU adK adV [.ref (ad 18 0), .int x1, .int x2] S K :=
  Met_of (by decide) (Nat.le_of_ble_eq_true rfl) hI hn (fun p e R s m args below meth c ls E hl hh => bX1_bestMaid E  hw hh (lv_sub hl [0, 1, 2] rfl))
def wbX1_rank_101 (u1 : Nat) (u2 : Nat) (R13 : Int32 → Int32 → Int32 → St → Prop) (K : Int32 → St → Prop) (x3 : Int32) (x4 : Int32) (x5 : Int32) (x6 : Int32) (S : St) : Prop := (vp_in x5 4 ∧ ∀ S16, S16 = su S 24 0 x5.toNatClampNeg x6 → R13 x3 x4 (x5 + 1) S16)
set_option maxRecDepth 4000 in
theorem bX1_rank_101 {p : Program} {l : Launch} {e : Env} {R : Room} {s : State} {m : MethodId} {args : Array Value} {below : List Frame} {meth : Method} {c : Code} {D : va_G} {ad : Nat → Nat → Nat} {cs : Nat → ClassId} {P : Nat → Nat → Prop} {sz tU : Nat} {adK adV : Nat → Nat} {u1 : Nat} {u2 : Nat} {R13 : Int32 → Int32 → Int32 → St → Prop} {K : Int32 → St → Prop} {x3 : Int32} {x4 : Int32} {x5 : Int32} {x6 : Int32} {S : St} {H : Heap} {locs : List Loc} {ls : Array Slot} (E : Ex p s m args meth c R RX1 cX1_rank 7 (some .int) 6 175 D ad cs P (wA ad P) tU adK adV cnA) (hu1 : u1 < 3) (hp2 : P 31 u2) (hR13 : ∀ (z3 : Int32) (z4 : Int32) (z5 : Int32) (S : St) (H : Heap) (locs : List Loc) (ls : Array Slot), R13 z3 z4 z5 S → wH D ad cs P (wA ad P) s.heap sz S H locs → lv_has ls 7 [(0, .ref (ad 18 0)), (1, .ref (ad 10 u1)), (2, .ref (ad 31 u2)), (3, .int z3), (4, .int z4), (5, .int z5)] → W p l e R s m args below meth c H locs 0 0 (MQ below (va_Qi K (QX D ad cs P sz) (wA ad P)) args s 0 0 (wA ad P)) (F0 m 13 ls [])) (hw : wbX1_rank_101 u1 u2 R13 K x3 x4 x5 x6 S) (hh : wH D ad cs P (wA ad P) s.heap sz S H locs) (hl : lv_has ls 7 [(0, .ref (ad 18 0)), (1, .ref (ad 10 u1)), (2, .ref (ad 31 u2)), (3, .int x3), (4, .int x4), (5, .int x5), (6, .int x6)]) : W p l e R s m args below meth c H locs 0 0 (MQ below (va_Qi K (QX D ad cs P sz) (wA ad P)) args s 0 0 (wA ad P)) (F0 m 101 ls []) := by
  have hx := E.hx
  have hb := E.hb
  refine lv_aload_n hx hb dX1_rank_101 rfl (lv_at hl 0 rfl) ?_
  refine g_18_5 E hh tb81 (E.hn 18 0 (by decide)) dX1_rank_102 ?_
  refine lv_iload hx hb dX1_rank_105 (lv_at hl 5 rfl) ?_
  refine lv_iload hx hb dX1_rank_107 (lv_at hl 6 rfl) ?_
  obtain ⟨hi16, hw⟩ := hw
  refine x_iast E hh (E.hn 24 0 (by decide)) ly_24 hi16 dX1_rank_109 (fun S16 H locs e16 hh => ?_)
  have hw := hw S16 e16
  refine lv_iinc (k := 5) (v := x5 + 1) (lv' := [(5, .int (x5 + 1)), (0, .ref (ad 18 0)), (1, .ref (ad 10 u1)), (2, .ref (ad 31 u2)), (3, .int x3), (4, .int x4), (6, .int x6)]) hx hb dX1_rank_110 hl rfl rfl (by decide) rfl (fun ls hl => ?_)
  refine lv_goto (tgt := 13) hx hb dX1_rank_113 (by decide) ?_
  exact hR13 x3 x4 (x5 + 1) S16 _ _ _ hw hh (lv_sub hl [1, 2, 3, 4, 5, 0] rfl)
def wbX1_rank_99 (u1 : Nat) (u2 : Nat) (R13 : Int32 → Int32 → Int32 → St → Prop) (K : Int32 → St → Prop) (x3 : Int32) (x5 : Int32) (x6 : Int32) (v0 : Int32) (S : St) : Prop := wbX1_rank_101 u1 u2 R13 K x3 v0 x5 x6 S
set_option maxRecDepth 4000 in
theorem bX1_rank_99 {p : Program} {l : Launch} {e : Env} {R : Room} {s : State} {m : MethodId} {args : Array Value} {below : List Frame} {meth : Method} {c : Code} {D : va_G} {ad : Nat → Nat → Nat} {cs : Nat → ClassId} {P : Nat → Nat → Prop} {sz tU : Nat} {adK adV : Nat → Nat} {u1 : Nat} {u2 : Nat} {R13 : Int32 → Int32 → Int32 → St → Prop} {K : Int32 → St → Prop} {x3 : Int32} {x5 : Int32} {x6 : Int32} {v0 : Int32} {S : St} {H : Heap} {locs : List Loc} {ls : Array Slot} (E : Ex p s m args meth c R RX1 cX1_rank 7 (some .int) 6 175 D ad cs P (wA ad P) tU adK adV cnA) (hu1 : u1 < 3) (hp2 : P 31 u2) (hR13 : ∀ (z3 : Int32) (z4 : Int32) (z5 : Int32) (S : St) (H : Heap) (locs : List Loc) (ls : Array Slot), R13 z3 z4 z5 S → wH D ad cs P (wA ad P) s.heap sz S H locs → lv_has ls 7 [(0, .ref (ad 18 0)), (1, .ref (ad 10 u1)), (2, .ref (ad 31 u2)), (3, .int z3), (4, .int z4), (5, .int z5)] → W p l e R s m args below meth c H locs 0 0 (MQ below (va_Qi K (QX D ad cs P sz) (wA ad P)) args s 0 0 (wA ad P)) (F0 m 13 ls [])) (hw : wbX1_rank_99 u1 u2 R13 K x3 x5 x6 v0 S) (hh : wH D ad cs P (wA ad P) s.heap sz S H locs) (hl : lv_has ls 7 [(0, .ref (ad 18 0)), (1, .ref (ad 10 u1)), (2, .ref (ad 31 u2)), (3, .int x3), (5, .int x5), (6, .int x6)]) : W p l e R s m args below meth c H locs 0 0 (MQ below (va_Qi K (QX D ad cs P sz) (wA ad P)) args s 0 0 (wA ad P)) (F0 m 99 ls [.int v0]) := by
  have hx := E.hx
  have hb := E.hb
  refine lv_istore (lv' := [(4, .int v0), (0, .ref (ad 18 0)), (1, .ref (ad 10 u1)), (2, .ref (ad 31 u2)), (3, .int x3), (5, .int x5), (6, .int x6)]) hx hb dX1_rank_99 hl (by decide) rfl (fun ls hl => ?_)
  exact bX1_rank_101 E hu1 hp2 hR13 hw hh (lv_sub hl [1, 2, 3, 4, 0, 5, 6] rfl)
def wbX1_rank_98 (u1 : Nat) (u2 : Nat) (R13 : Int32 → Int32 → Int32 → St → Prop) (K : Int32 → St → Prop) (x3 : Int32) (x5 : Int32) (x6 : Int32) (S : St) : Prop := wbX1_rank_99 u1 u2 R13 K x3 x5 x6 0 S
set_option maxRecDepth 4000 in
theorem bX1_rank_98 {p : Program} {l : Launch} {e : Env} {R : Room} {s : State} {m : MethodId} {args : Array Value} {below : List Frame} {meth : Method} {c : Code} {D : va_G} {ad : Nat → Nat → Nat} {cs : Nat → ClassId} {P : Nat → Nat → Prop} {sz tU : Nat} {adK adV : Nat → Nat} {u1 : Nat} {u2 : Nat} {R13 : Int32 → Int32 → Int32 → St → Prop} {K : Int32 → St → Prop} {x3 : Int32} {x5 : Int32} {x6 : Int32} {S : St} {H : Heap} {locs : List Loc} {ls : Array Slot} (E : Ex p s m args meth c R RX1 cX1_rank 7 (some .int) 6 175 D ad cs P (wA ad P) tU adK adV cnA) (hu1 : u1 < 3) (hp2 : P 31 u2) (hR13 : ∀ (z3 : Int32) (z4 : Int32) (z5 : Int32) (S : St) (H : Heap) (locs : List Loc) (ls : Array Slot), R13 z3 z4 z5 S → wH D ad cs P (wA ad P) s.heap sz S H locs → lv_has ls 7 [(0, .ref (ad 18 0)), (1, .ref (ad 10 u1)), (2, .ref (ad 31 u2)), (3, .int z3), (4, .int z4), (5, .int z5)] → W p l e R s m args below meth c H locs 0 0 (MQ below (va_Qi K (QX D ad cs P sz) (wA ad P)) args s 0 0 (wA ad P)) (F0 m 13 ls [])) (hw : wbX1_rank_98 u1 u2 R13 K x3 x5 x6 S) (hh : wH D ad cs P (wA ad P) s.heap sz S H locs) (hl : lv_has ls 7 [(0, .ref (ad 18 0)), (1, .ref (ad 10 u1)), (2, .ref (ad 31 u2)), (3, .int x3), (5, .int x5), (6, .int x6)]) : W p l e R s m args below meth c H locs 0 0 (MQ below (va_Qi K (QX D ad cs P sz) (wA ad P)) args s 0 0 (wA ad P)) (F0 m 98 ls []) := by
  have hx := E.hx
  have hb := E.hb
  refine lv_iconst (v := 0) hx hb dX1_rank_98 (by decide) ?_
  exact bX1_rank_99 E hu1 hp2 hR13 hw hh (lv_sub hl [0, 1, 2, 3, 4, 5] rfl)
def wbX1_rank_61 (u1 : Nat) (u2 : Nat) (R13 : Int32 → Int32 → Int32 → St → Prop) (K : Int32 → St → Prop) (x3 : Int32) (x4 : Int32) (x5 : Int32) (x6 : Int32) (S : St) : Prop := if x6 = (-1) then (wbX1_rank_101 u1 u2 R13 K x3 x4 x5 x6 S) else (if x4 = 0 then (wbX1_rank_98 u1 u2 R13 K (x3 ||| (1 <<< (x6 &&& 31))) x5 x6 S) else (wpX5_at x5 x6 S (fun r13 S13 => (vp_in r13 16 ∧ if (S13.1 22 0 r13.toNatClampNeg) = 0 then (wbX1_rank_98 u1 u2 R13 K (x3 ||| (1 <<< (x6 &&& 31))) x5 x6 S13) else (wbX1_rank_99 u1 u2 R13 K (x3 ||| (1 <<< (x6 &&& 31))) x5 x6 1 S13)))))
set_option maxRecDepth 4000 in
theorem bX1_rank_61 {p : Program} {l : Launch} {e : Env} {R : Room} {s : State} {m : MethodId} {args : Array Value} {below : List Frame} {meth : Method} {c : Code} {D : va_G} {ad : Nat → Nat → Nat} {cs : Nat → ClassId} {P : Nat → Nat → Prop} {sz tU : Nat} {adK adV : Nat → Nat} {u1 : Nat} {u2 : Nat} {R13 : Int32 → Int32 → Int32 → St → Prop} {K : Int32 → St → Prop} {x3 : Int32} {x4 : Int32} {x5 : Int32} {x6 : Int32} {S : St} {H : Heap} {locs : List Loc} {ls : Array Slot} (E : Ex p s m args meth c R RX1 cX1_rank 7 (some .int) 6 175 D ad cs P (wA ad P) tU adK adV cnA) (hu1 : u1 < 3) (hp2 : P 31 u2) (hR13 : ∀ (z3 : Int32) (z4 : Int32) (z5 : Int32) (S : St) (H : Heap) (locs : List Loc) (ls : Array Slot), R13 z3 z4 z5 S → wH D ad cs P (wA ad P) s.heap sz S H locs → lv_has ls 7 [(0, .ref (ad 18 0)), (1, .ref (ad 10 u1)), (2, .ref (ad 31 u2)), (3, .int z3), (4, .int z4), (5, .int z5)] → W p l e R s m args below meth c H locs 0 0 (MQ below (va_Qi K (QX D ad cs P sz) (wA ad P)) args s 0 0 (wA ad P)) (F0 m 13 ls [])) (hw : wbX1_rank_61 u1 u2 R13 K x3 x4 x5 x6 S) (hh : wH D ad cs P (wA ad P) s.heap sz S H locs) (hl : lv_has ls 7 [(0, .ref (ad 18 0)), (1, .ref (ad 10 u1)), (2, .ref (ad 31 u2)), (3, .int x3), (4, .int x4), (5, .int x5), (6, .int x6)]) : W p l e R s m args below meth c H locs 0 0 (MQ below (va_Qi K (QX D ad cs P sz) (wA ad P)) args s 0 0 (wA ad P)) (F0 m 61 ls []) := by
  have hx := E.hx
  have hb := E.hb
  refine lv_iload hx hb dX1_rank_61 (lv_at hl 6 rfl) ?_
  refine lv_iconst (v := (-1)) hx hb dX1_rank_63 (by decide) ?_
  refine lv_icmp_eq (tgt := 101) hx hb dX1_rank_64 (by decide) (fun c11 => ?_) (fun c11 => ?_)
  · have hw := ifT hw c11
    exact bX1_rank_101 E hu1 hp2 hR13 hw hh (lv_sub hl [0, 1, 2, 3, 4, 5, 6] rfl)
  · have hw := ifF hw c11
    refine lv_iload_n hx hb dX1_rank_67 rfl (lv_at hl 3 rfl) ?_
    refine lv_iconst (v := 1) hx hb dX1_rank_68 (by decide) ?_
    refine lv_iload hx hb dX1_rank_69 (lv_at hl 6 rfl) ?_
    refine lv_ishl hx hb dX1_rank_71 ?_
    refine lv_ior hx hb dX1_rank_72 ?_
    refine lv_istore_n (lv' := [(3, .int (x3 ||| (1 <<< (x6 &&& 31)))), (0, .ref (ad 18 0)), (1, .ref (ad 10 u1)), (2, .ref (ad 31 u2)), (4, .int x4), (5, .int x5), (6, .int x6)]) hx hb dX1_rank_73 rfl hl (by decide) rfl (fun ls hl => ?_)
    refine lv_iload hx hb dX1_rank_74 (lv_at hl 4 rfl) ?_
    refine lv_if_eq (tgt := 98) hx hb dX1_rank_76 (by decide) (fun c12 => ?_) (fun c12 => ?_)
    · have hw := ifT hw c12
      exact bX1_rank_98 E hu1 hp2 hR13 hw hh (lv_sub hl [1, 2, 3, 0, 5, 6] rfl)
    · have hw := ifF hw c12
      refine lv_aload_n hx hb dX1_rank_79 rfl (lv_at hl 1 rfl) ?_
      refine g_18_3 E hh tb79 (E.hn 18 0 (by decide)) dX1_rank_80 ?_
      refine lv_iload hx hb dX1_rank_83 (lv_at hl 5 rfl) ?_
      refine lv_iload hx hb dX1_rank_85 (lv_at hl 6 rfl) ?_
      refine x_ci E.hA hh (x_runS E hh (mX5_at E.hI (fun _ _ h => absurd h (Nat.not_lt_zero _)) hw) kX5_at tb592 ⟨by decide, by decide⟩ rfl hl.1 rfl (Nat.le_of_ble_eq_true rfl) dX1_rank_87 ⟨Nat.zero_le _, Nat.zero_le _⟩) (fun r13 S13 H locs hw hh => ?_)
      obtain ⟨hi14, hw⟩ := hw
      refine x_zald E hh (E.hn 22 0 (by decide)) ly_22 hi14 dX1_rank_90 ?_
      refine lv_if_eq (tgt := 98) hx hb dX1_rank_91 (by decide) (fun c15 => ?_) (fun c15 => ?_)
      · have hw := ifT hw c15
        exact bX1_rank_98 E hu1 hp2 hR13 hw hh (lv_sub hl [1, 2, 3, 0, 5, 6] rfl)
      · have hw := ifF hw c15
        refine lv_iconst (v := 1) hx hb dX1_rank_94 (by decide) ?_
        refine lv_goto (tgt := 99) hx hb dX1_rank_95 (by decide) ?_
        exact bX1_rank_99 E hu1 hp2 hR13 hw hh (lv_sub hl [1, 2, 3, 0, 5, 6] rfl)
def wbX1_rank_13 (u1 : Nat) (u2 : Nat) (K : Int32 → St → Prop) : Nat → Int32 → Int32 → Int32 → St → Prop
  | 0, _, _, _, _ => False
  | n + 1, x3, x4, x5, S => if (S.1 10 u1 0) ≤ x5 then (if x4 = 0 then (K 1 S) else (wpX1_isSteady u1 S (fun r4 S4 => if r4 = 0 then (K 2 S4) else (K 3 S4)))) else ((vp_in x5 40 ∧ if (S.1 31 u2 x5.toNatClampNeg) < (-1) then (K 0 S) else (if (S.1 10 u1 1) ≤ (S.1 31 u2 x5.toNatClampNeg) then (K 0 S) else (if (S.1 31 u2 x5.toNatClampNeg) = (-1) then (wbX1_rank_61 u1 u2 (fun yx3 yx4 yx5 S9 => wbX1_rank_13 u1 u2 K n yx3 yx4 yx5 S9) K x3 x4 x5 (S.1 31 u2 x5.toNatClampNeg) S) else (if ((x3 >>> ((S.1 31 u2 x5.toNatClampNeg) &&& 31)) &&& 1) = 1 then (K 0 S) else (wbX1_rank_61 u1 u2 (fun yx3 yx4 yx5 S9 => wbX1_rank_13 u1 u2 K n yx3 yx4 yx5 S9) K x3 x4 x5 (S.1 31 u2 x5.toNatClampNeg) S))))))
set_option maxRecDepth 4000 in
theorem bX1_rank_13 {p : Program} {l : Launch} {e : Env} {R : Room} {s : State} {m : MethodId} {args : Array Value} {below : List Frame} {meth : Method} {c : Code} {D : va_G} {ad : Nat → Nat → Nat} {cs : Nat → ClassId} {P : Nat → Nat → Prop} {sz tU : Nat} {adK adV : Nat → Nat} {u1 : Nat} {u2 : Nat} {K : Int32 → St → Prop} (E : Ex p s m args meth c R RX1 cX1_rank 7 (some .int) 6 175 D ad cs P (wA ad P) tU adK adV cnA) (hu1 : u1 < 3) (hp2 : P 31 u2) : ∀ (n : Nat) (x3 : Int32) (x4 : Int32) (x5 : Int32) (S : St) (H : Heap) (locs : List Loc) (ls : Array Slot), wbX1_rank_13 u1 u2 K n x3 x4 x5 S → wH D ad cs P (wA ad P) s.heap sz S H locs → lv_has ls 7 [(0, .ref (ad 18 0)), (1, .ref (ad 10 u1)), (2, .ref (ad 31 u2)), (3, .int x3), (4, .int x4), (5, .int x5)] → W p l e R s m args below meth c H locs 0 0 (MQ below (va_Qi K (QX D ad cs P sz) (wA ad P)) args s 0 0 (wA ad P)) (F0 m 13 ls []) := by
  have hx := E.hx
  have hb := E.hb
  intro n
  induction n with
  | zero => intro x3 x4 x5 S H locs ls hw hh hl; exact hw.elim
  | succ n ih =>
    intro x3 x4 x5 S H locs ls hw hh hl
    refine lv_iload hx hb dX1_rank_13 (lv_at hl 5 rfl) ?_
    refine lv_aload_n hx hb dX1_rank_15 rfl (lv_at hl 1 rfl) ?_
    refine g_10_0 E hh tb311 (E.hn 10 u1 hu1) dX1_rank_16 ?_
    refine lv_icmp_ge (tgt := 116) hx hb dX1_rank_19 (by decide) (fun c2 => ?_) (fun c2 => ?_)
    · have hw := ifT hw c2
      refine lv_iload hx hb dX1_rank_116 (lv_at hl 4 rfl) ?_
      refine lv_if_ne (tgt := 123) hx hb dX1_rank_118 (by decide) (fun c3 => ?_) (fun c3 => ?_)
      · have hw := ifF hw c3
        refine lv_aload_n hx hb dX1_rank_123 rfl (lv_at hl 0 rfl) ?_
        refine lv_aload_n hx hb dX1_rank_124 rfl (lv_at hl 1 rfl) ?_
        refine x_ci E.hA hh (x_runV E hh (mX1_isSteady E.hI E.hn hu1 hw) kX1_isSteady tb605 (E.hn 18 0 (by decide)) rv_18 ⟨by decide, by decide⟩ rfl hl.1 rfl (Nat.le_of_ble_eq_true rfl) dX1_rank_125 ⟨Nat.zero_le _, Nat.zero_le _⟩) (fun r4 S4 H locs hw hh => ?_)
        have hq4 := hw.2
        have hw := hw.1
        refine lv_if_eq (tgt := 135) hx hb dX1_rank_128 (by decide) (fun c5 => ?_) (fun c5 => ?_)
        · have hw := ifT hw c5
          refine lv_iconst (v := 2) hx hb dX1_rank_135 (by decide) ?_
          exact x_iret E hh hw dX1_rank_136
        · have hw := ifF hw c5
          refine lv_iconst (v := 3) hx hb dX1_rank_131 (by decide) ?_
          refine lv_goto (tgt := 136) hx hb dX1_rank_132 (by decide) ?_
          exact x_iret E hh hw dX1_rank_136
      · have hw := ifT hw c3
        refine lv_iconst (v := 1) hx hb dX1_rank_121 (by decide) ?_
        exact x_iret E hh hw dX1_rank_122
    · have hw := ifF hw c2
      refine lv_aload_n hx hb dX1_rank_22 rfl (lv_at hl 2 rfl) ?_
      refine lv_iload hx hb dX1_rank_23 (lv_at hl 5 rfl) ?_
      obtain ⟨hi6, hw⟩ := hw
      refine x_iald E hh hp2 ly_31 hi6 dX1_rank_25 ?_
      refine lv_istore (lv' := [(6, .int (S.1 31 u2 x5.toNatClampNeg)), (0, .ref (ad 18 0)), (1, .ref (ad 10 u1)), (2, .ref (ad 31 u2)), (3, .int x3), (4, .int x4), (5, .int x5)]) hx hb dX1_rank_26 hl (by decide) rfl (fun ls hl => ?_)
      refine lv_iload hx hb dX1_rank_28 (lv_at hl 0 rfl) ?_
      refine lv_iconst (v := (-1)) hx hb dX1_rank_30 (by decide) ?_
      refine lv_icmp_lt (tgt := 59) hx hb dX1_rank_31 (by decide) (fun c7 => ?_) (fun c7 => ?_)
      · have hw := ifT hw c7
        refine lv_iconst (v := 0) hx hb dX1_rank_59 (by decide) ?_
        exact x_iret E hh hw dX1_rank_60
      · have hw := ifF hw c7
        refine lv_iload hx hb dX1_rank_34 (lv_at hl 0 rfl) ?_
        refine lv_aload_n hx hb dX1_rank_36 rfl (lv_at hl 2 rfl) ?_
        refine g_10_1 E hh tb315 (E.hn 10 u1 hu1) dX1_rank_37 ?_
        refine lv_icmp_ge (tgt := 59) hx hb dX1_rank_40 (by decide) (fun c8 => ?_) (fun c8 => ?_)
        · have hw := ifT hw c8
          refine lv_iconst (v := 0) hx hb dX1_rank_59 (by decide) ?_
          exact x_iret E hh hw dX1_rank_60
        · have hw := ifF hw c8
          refine lv_iload hx hb dX1_rank_43 (lv_at hl 0 rfl) ?_
          refine lv_iconst (v := (-1)) hx hb dX1_rank_45 (by decide) ?_
          refine lv_icmp_eq (tgt := 61) hx hb dX1_rank_46 (by decide) (fun c9 => ?_) (fun c9 => ?_)
          · have hw := ifT hw c9
            exact bX1_rank_61 E hu1 hp2 ih hw hh (lv_sub hl [1, 2, 3, 4, 5, 6, 0] rfl)
          · have hw := ifF hw c9
            refine lv_iload_n hx hb dX1_rank_49 rfl (lv_at hl 4 rfl) ?_
            refine lv_iload hx hb dX1_rank_50 (lv_at hl 0 rfl) ?_
            refine lv_ishr hx hb dX1_rank_52 ?_
            refine lv_iconst (v := 1) hx hb dX1_rank_53 (by decide) ?_
            refine lv_iand hx hb dX1_rank_54 ?_
            refine lv_iconst (v := 1) hx hb dX1_rank_55 (by decide) ?_
            refine lv_icmp_ne (tgt := 61) hx hb dX1_rank_56 (by decide) (fun c10 => ?_) (fun c10 => ?_)
            · have hw := ifF hw c10
              exact bX1_rank_61 E hu1 hp2 ih hw hh (lv_sub hl [1, 2, 3, 4, 5, 6, 0] rfl)
            · have hw := ifT hw c10
              refine lv_iconst (v := 0) hx hb dX1_rank_59 (by decide) ?_
              exact x_iret E hh hw dX1_rank_60
def wpX1_rank (u1 : Nat) (u2 : Nat) (S : St) (K : Int32 → St → Prop) : Prop := wpX1_weigh u1 S (fun S1 => ∃ k, wbX1_rank_13 u1 u2 K k 0 1 0 S1)
set_option maxRecDepth 4000 in
theorem bX1_rank {p : Program} {l : Launch} {e : Env} {R : Room} {s : State} {m : MethodId} {args : Array Value} {below : List Frame} {meth : Method} {c : Code} {D : va_G} {ad : Nat → Nat → Nat} {cs : Nat → ClassId} {P : Nat → Nat → Prop} {sz tU : Nat} {adK adV : Nat → Nat} {K : Int32 → St → Prop} {u1 : Nat} {u2 : Nat} {S : St} {H : Heap} {locs : List Loc} {ls : Array Slot} (E : Ex p s m args meth c R RX1 cX1_rank 7 (some .int) 6 175 D ad cs P (wA ad P) tU adK adV cnA) (hu1 : u1 < 3) (hp2 : P 31 u2) (hw : wpX1_rank u1 u2 S K) (hh : wH D ad cs P (wA ad P) s.heap sz S H locs) (hl : lv_has ls 7 [(0, .ref (ad 18 0)), (1, .ref (ad 10 u1)), (2, .ref (ad 31 u2))]) : W p l e R s m args below meth c H locs 0 0 (MQ below (va_Qi K (QX D ad cs P sz) (wA ad P)) args s 0 0 (wA ad P)) (F0 m 0 ls []) := by
  have hx := E.hx
  have hb := E.hb
  refine lv_aload_n hx hb dX1_rank_0 rfl (lv_at hl 0 rfl) ?_
  refine lv_aload_n hx hb dX1_rank_1 rfl (lv_at hl 1 rfl) ?_
  refine x_cv E.hA hh (x_runV E hh (mX1_weigh E.hI E.hn hu1 hw) kX1_weigh tb588 (E.hn 18 0 (by decide)) rv_18 ⟨by decide, by decide⟩ rfl hl.1 rfl (Nat.le_of_ble_eq_true rfl) dX1_rank_2 ⟨Nat.zero_le _, Nat.zero_le _⟩) (fun S1 H locs hw hh => ?_)
  refine lv_iconst (v := 0) hx hb dX1_rank_5 (by decide) ?_
  refine lv_istore_n (lv' := [(3, .int 0), (0, .ref (ad 18 0)), (1, .ref (ad 10 u1)), (2, .ref (ad 31 u2))]) hx hb dX1_rank_6 rfl hl (by decide) rfl (fun ls hl => ?_)
  refine lv_iconst (v := 1) hx hb dX1_rank_7 (by decide) ?_
  refine lv_istore (lv' := [(4, .int 1), (3, .int 0), (0, .ref (ad 18 0)), (1, .ref (ad 10 u1)), (2, .ref (ad 31 u2))]) hx hb dX1_rank_8 hl (by decide) rfl (fun ls hl => ?_)
  refine lv_iconst (v := 0) hx hb dX1_rank_10 (by decide) ?_
  refine lv_istore (lv' := [(5, .int 0), (4, .int 1), (3, .int 0), (0, .ref (ad 18 0)), (1, .ref (ad 10 u1)), (2, .ref (ad 31 u2))]) hx hb dX1_rank_11 hl (by decide) rfl (fun ls hl => ?_)
  obtain ⟨k, hw⟩ := hw
  exact bX1_rank_13 E hu1 hp2 k 0 1 0 S1 _ _ _ hw hh (lv_sub hl [3, 4, 5, 2, 1, 0] rfl)
theorem kX1_rank : kI yX1_rank cX1_rank 7 (some .int) 2 := ⟨tb629, tb630, tb3, tb631, by decide, by decide, by decide +kernel⟩
theorem mX1_rank {l : Launch} {D : va_G} {ad : Nat → Nat → Nat} {cs : Nat → ClassId} {P : Nat → Nat → Prop} {sz tU : Nat} {adK adV : Nat → Nat} {u1 : Nat} {u2 : Nat} {S : St} {K : Int32 → St → Prop} (hI : wI ad P) (hn : ∀ kd i, i < cnA kd → P kd i) (hu1 : u1 < 3) (hp2 : P 31 u2) (hw : wpX1_rank u1 u2 S K) : MI l yX1_rank cX1_rank 7 (some .int) 6 175 D ad cs P sz tU adK adV [.ref (ad 18 0), .ref (ad 10 u1), .ref (ad 31 u2)] S K :=
  Met_of (by decide) (Nat.le_of_ble_eq_true rfl) hI hn (fun p e R s m args below meth c ls E hl hh => bX1_rank E hu1 hp2 hw hh (lv_sub hl [0, 1, 2] rfl))
def wbX6_isBetter_30 (K : Int32 → St → Prop) (S : St) : Prop := K 1 S
set_option maxRecDepth 4000 in
theorem bX6_isBetter_30 {p : Program} {l : Launch} {e : Env} {R : Room} {s : State} {m : MethodId} {args : Array Value} {below : List Frame} {meth : Method} {c : Code} {D : va_G} {ad : Nat → Nat → Nat} {cs : Nat → ClassId} {P : Nat → Nat → Prop} {sz tU : Nat} {adK adV : Nat → Nat} {K : Int32 → St → Prop} {S : St} {H : Heap} {locs : List Loc} {ls : Array Slot} (E : Ex p s m args meth c R RX6 cX6_isBetter 4 (some .boolean) 1 60 D ad cs P (wA ad P) tU adK adV cnA) (hw : wbX6_isBetter_30 K S) (hh : wH D ad cs P (wA ad P) s.heap sz S H locs) (hl : lv_has ls 4 []) : W p l e R s m args below meth c H locs 0 0 (MQ below (va_Qi (fun r S => K r S ∧ narrow .boolean (.int r) = .int r) (QX D ad cs P sz) (wA ad P)) args s 0 0 (wA ad P)) (F0 m 30 ls []) := by
  have hx := E.hx
  have hb := E.hb
  refine lv_iconst (v := 1) hx hb dX6_isBetter_30 (by decide) ?_
  refine lv_goto (tgt := 35) hx hb dX6_isBetter_31 (by decide) ?_
  exact x_zret E hh hw rfl dX6_isBetter_35
def wpX6_isBetter (x1 : Int32) (x2 : Int32) (x3 : Int32) (S : St) (K : Int32 → St → Prop) : Prop := if (S.1 26 0 1) = 0 then (wbX6_isBetter_30 K S) else (if x1 = 0 then (if (S.1 26 0 2) ≤ x2 then (K 0 S) else (wbX6_isBetter_30 K S)) else (if (S.1 26 0 3) ≤ x3 then (K 0 S) else (wbX6_isBetter_30 K S)))
set_option maxRecDepth 4000 in
theorem bX6_isBetter {p : Program} {l : Launch} {e : Env} {R : Room} {s : State} {m : MethodId} {args : Array Value} {below : List Frame} {meth : Method} {c : Code} {D : va_G} {ad : Nat → Nat → Nat} {cs : Nat → ClassId} {P : Nat → Nat → Prop} {sz tU : Nat} {adK adV : Nat → Nat} {K : Int32 → St → Prop} {x1 : Int32} {x2 : Int32} {x3 : Int32} {S : St} {H : Heap} {locs : List Loc} {ls : Array Slot} (E : Ex p s m args meth c R RX6 cX6_isBetter 4 (some .boolean) 1 60 D ad cs P (wA ad P) tU adK adV cnA) (hw : wpX6_isBetter x1 x2 x3 S K) (hh : wH D ad cs P (wA ad P) s.heap sz S H locs) (hl : lv_has ls 4 [(0, .ref (ad 26 0)), (1, .int x1), (2, .int x2), (3, .int x3)]) : W p l e R s m args below meth c H locs 0 0 (MQ below (va_Qi (fun r S => K r S ∧ narrow .boolean (.int r) = .int r) (QX D ad cs P sz) (wA ad P)) args s 0 0 (wA ad P)) (F0 m 0 ls []) := by
  have hx := E.hx
  have hb := E.hb
  refine lv_aload_n hx hb dX6_isBetter_0 rfl (lv_at hl 0 rfl) ?_
  refine g_26_1 E hh tb107 (E.hn 26 0 (by decide)) dX6_isBetter_1 ?_
  refine lv_if_eq (tgt := 30) hx hb dX6_isBetter_4 (by decide) (fun c1 => ?_) (fun c1 => ?_)
  · have hw := ifT hw c1
    exact bX6_isBetter_30 E hw hh (lv_sub hl [] rfl)
  · have hw := ifF hw c1
    refine lv_iload_n hx hb dX6_isBetter_7 rfl (lv_at hl 1 rfl) ?_
    refine lv_if_ne (tgt := 22) hx hb dX6_isBetter_8 (by decide) (fun c2 => ?_) (fun c2 => ?_)
    · have hw := ifF hw c2
      refine lv_iload_n hx hb dX6_isBetter_22 rfl (lv_at hl 3 rfl) ?_
      refine lv_aload_n hx hb dX6_isBetter_23 rfl (lv_at hl 0 rfl) ?_
      refine g_26_3 E hh tb111 (E.hn 26 0 (by decide)) dX6_isBetter_24 ?_
      refine lv_icmp_ge (tgt := 34) hx hb dX6_isBetter_27 (by decide) (fun c3 => ?_) (fun c3 => ?_)
      · have hw := ifT hw c3
        refine lv_iconst (v := 0) hx hb dX6_isBetter_34 (by decide) ?_
        exact x_zret E hh hw rfl dX6_isBetter_35
      · have hw := ifF hw c3
        exact bX6_isBetter_30 E hw hh (lv_sub hl [] rfl)
    · have hw := ifT hw c2
      refine lv_iload_n hx hb dX6_isBetter_11 rfl (lv_at hl 2 rfl) ?_
      refine lv_aload_n hx hb dX6_isBetter_12 rfl (lv_at hl 0 rfl) ?_
      refine g_26_2 E hh tb109 (E.hn 26 0 (by decide)) dX6_isBetter_13 ?_
      refine lv_icmp_ge (tgt := 34) hx hb dX6_isBetter_16 (by decide) (fun c4 => ?_) (fun c4 => ?_)
      · have hw := ifT hw c4
        refine lv_iconst (v := 0) hx hb dX6_isBetter_34 (by decide) ?_
        exact x_zret E hh hw rfl dX6_isBetter_35
      · have hw := ifF hw c4
        refine lv_goto (tgt := 30) hx hb dX6_isBetter_19 (by decide) ?_
        exact bX6_isBetter_30 E hw hh (lv_sub hl [] rfl)
theorem kX6_isBetter : kI yX6_isBetter cX6_isBetter 4 (some .boolean) 3 := ⟨tb559, ts18, tb4, tb560, by decide, by decide, by decide +kernel⟩
theorem mX6_isBetter {l : Launch} {D : va_G} {ad : Nat → Nat → Nat} {cs : Nat → ClassId} {P : Nat → Nat → Prop} {sz tU : Nat} {adK adV : Nat → Nat} {x1 : Int32} {x2 : Int32} {x3 : Int32} {S : St} {K : Int32 → St → Prop} (hI : wI ad P) (hn : ∀ kd i, i < cnA kd → P kd i) (hw : wpX6_isBetter x1 x2 x3 S K) : MI l yX6_isBetter cX6_isBetter 4 (some .boolean) 1 60 D ad cs P sz tU adK adV [.ref (ad 26 0), .int x1, .int x2, .int x3] S (fun r S => K r S ∧ narrow .boolean (.int r) = .int r) :=
  Met_of (by decide) (Nat.le_of_ble_eq_true rfl) hI hn (fun p e R s m args below meth c ls E hl hh => bX6_isBetter E  hw hh (lv_sub hl [0, 1, 2, 3] rfl))
def wpX6_keep (x1 : Int32) (x2 : Int32) (S : St) (K : St → Prop) : Prop := (∀ S1, S1 = su S 26 0 1 1 → (∀ S2, S2 = su S1 26 0 2 x1 → (∀ S3, S3 = su S2 26 0 3 x2 → ((¬ (0 : Int32) < 0 ∧ ¬ (0 : Int32) < 0 ∧ ¬ (4 : Int32) < 0 ∧ (0 : Int32).toNatClampNeg + (4 : Int32).toNatClampNeg ≤ 4 ∧ (0 : Int32).toNatClampNeg + (4 : Int32).toNatClampNeg ≤ 4) ∧ ∀ S4, S4 = sa S3 27 0 (va_cpy (S3.1 28 0) (S3.1 27 0) (0 : Int32).toNatClampNeg (0 : Int32).toNatClampNeg (4 : Int32).toNatClampNeg) → K S4))))
set_option maxRecDepth 4000 in
theorem bX6_keep {p : Program} {l : Launch} {e : Env} {R : Room} {s : State} {m : MethodId} {args : Array Value} {below : List Frame} {meth : Method} {c : Code} {D : va_G} {ad : Nat → Nat → Nat} {cs : Nat → ClassId} {P : Nat → Nat → Prop} {sz tU : Nat} {adK adV : Nat → Nat} {K : St → Prop} {x1 : Int32} {x2 : Int32} {S : St} {H : Heap} {locs : List Loc} {ls : Array Slot} (E : Ex p s m args meth c R RX6 cX6_keep 3 none 1 60 D ad cs P (wA ad P) tU adK adV cnA) (hw : wpX6_keep x1 x2 S K) (hh : wH D ad cs P (wA ad P) s.heap sz S H locs) (hl : lv_has ls 3 [(0, .ref (ad 26 0)), (1, .int x1), (2, .int x2)]) : W p l e R s m args below meth c H locs 0 0 (MQ below (va_Qv K (QX D ad cs P sz) (wA ad P)) args s 0 0 (wA ad P)) (F0 m 0 ls []) := by
  have hx := E.hx
  have hb := E.hb
  refine lv_aload_n hx hb dX6_keep_0 rfl (lv_at hl 0 rfl) ?_
  refine lv_iconst (v := 1) hx hb dX6_keep_1 (by decide) ?_
  refine p_26_1 E hh tb107 (E.hn 26 0 (by decide)) rfl rfl dX6_keep_2 (fun S1 H locs e1 hh => ?_)
  have hw := hw S1 e1
  refine lv_aload_n hx hb dX6_keep_5 rfl (lv_at hl 0 rfl) ?_
  refine lv_iload_n hx hb dX6_keep_6 rfl (lv_at hl 1 rfl) ?_
  refine p_26_2 E hh tb109 (E.hn 26 0 (by decide)) dX6_keep_7 (fun S2 H locs e2 hh => ?_)
  have hw := hw S2 e2
  refine lv_aload_n hx hb dX6_keep_10 rfl (lv_at hl 0 rfl) ?_
  refine lv_iload_n hx hb dX6_keep_11 rfl (lv_at hl 2 rfl) ?_
  refine p_26_3 E hh tb111 (E.hn 26 0 (by decide)) dX6_keep_12 (fun S3 H locs e3 hh => ?_)
  have hw := hw S3 e3
  refine lv_aload_n hx hb dX6_keep_15 rfl (lv_at hl 0 rfl) ?_
  refine g_26_4 E hh tb113 (E.hn 26 0 (by decide)) dX6_keep_16 ?_
  refine lv_iconst (v := 0) hx hb dX6_keep_19 (by decide) ?_
  refine lv_aload_n hx hb dX6_keep_20 rfl (lv_at hl 0 rfl) ?_
  refine g_26_0 E hh tb105 (E.hn 26 0 (by decide)) dX6_keep_21 ?_
  refine lv_iconst (v := 0) hx hb dX6_keep_24 (by decide) ?_
  refine lv_aload_n hx hb dX6_keep_25 rfl (lv_at hl 0 rfl) ?_
  refine g_26_4 E hh tb113 (E.hn 26 0 (by decide)) dX6_keep_26 ?_
  refine x_alen (v := 4) E hh (E.hn 28 0 (by decide)) ly_28 (by decide) rfl dX6_keep_29 ?_
  obtain ⟨hy4, hw⟩ := hw
  refine x_copy E hh (E.hn 28 0 (by decide)) (E.hn 27 0 (by decide)) ly_28 ly_27 hy4 (E.hml.trans hl.1.symm) tb565 (Nat.le_trans (by decide) E.hf) (Nat.le_trans (Nat.le_of_ble_eq_true rfl) E.hl) dX6_keep_30 (fun S4 H locs e4 hh => ?_)
  have hw := hw S4 e4
  exact x_vret E hh hw dX6_keep_33
theorem kX6_keep : kI yX6_keep cX6_keep 3 none 2 := ⟨tb563, ts19, tb4, tb564, by decide, by decide, by decide +kernel⟩
theorem mX6_keep {l : Launch} {D : va_G} {ad : Nat → Nat → Nat} {cs : Nat → ClassId} {P : Nat → Nat → Prop} {sz tU : Nat} {adK adV : Nat → Nat} {x1 : Int32} {x2 : Int32} {S : St} {K : St → Prop} (hI : wI ad P) (hn : ∀ kd i, i < cnA kd → P kd i) (hw : wpX6_keep x1 x2 S K) : MV l yX6_keep cX6_keep 3 none 1 60 D ad cs P sz tU adK adV [.ref (ad 26 0), .int x1, .int x2] S K :=
  Met_of (by decide) (Nat.le_of_ble_eq_true rfl) hI hn (fun p e R s m args below meth c ls E hl hh => bX6_keep E  hw hh (lv_sub hl [0, 1, 2] rfl))
theorem kX6_goOn : kI yX6_goOn cX6_goOn 11 none 6 := ⟨tb554, ts17, tb4, tb555, by decide, by decide, by decide +kernel⟩
def wbX6_goOn_160 (F : Nat → Nat → Int32 → Int32 → Int32 → Int32 → Int32 → St → (St → Prop) → Prop) (u1 : Nat) (R64 : Int32 → St → Prop) (K : St → Prop) (x2 : Int32) (x3 : Int32) (x4 : Int32) (x5 : Int32) (x6 : Int32) (x7 : Int32) (x8 : Int32) (x9 : Int32) (x10 : Int32) (S : St) : Prop := R64 (x10 + 1) S
set_option maxRecDepth 4000 in
theorem bX6_goOn_160 {p : Program} {l : Launch} {e : Env} {R : Room} {s : State} {m : MethodId} {args : Array Value} {below : List Frame} {meth : Method} {c : Code} {D : va_G} {ad : Nat → Nat → Nat} {cs : Nat → ClassId} {P : Nat → Nat → Prop} {sz tU : Nat} {adK adV : Nat → Nat} {F : Nat → Nat → Int32 → Int32 → Int32 → Int32 → Int32 → St → (St → Prop) → Prop} {d : Nat} {u1 : Nat} {R64 : Int32 → St → Prop} {K : St → Prop} {x2 : Int32} {x3 : Int32} {x4 : Int32} {x5 : Int32} {x6 : Int32} {x7 : Int32} {x8 : Int32} {x9 : Int32} {x10 : Int32} {S : St} {H : Heap} {locs : List Loc} {ls : Array Slot} (E : Ex p s m args meth c R RX6 cX6_goOn 11 none (5 + (d + 1)) (152 + 30 * (d + 1)) D ad cs P (wA ad P) tU adK adV cnA) (hF0 : ∀ {u1 : Nat} {x2 : Int32} {x3 : Int32} {x4 : Int32} {x5 : Int32} {x6 : Int32} {S : St} {K : St → Prop}, u1 < 3 → F 0 u1 x2 x3 x4 x5 x6 S K → MV l yX6_goOn cX6_goOn 11 none (5 + d) (152 + 30 * d) D ad cs P sz tU adK adV [.ref (ad 26 0), .ref (ad 10 u1), .int x2, .int x3, .int x4, .int x5, .int x6] S K) (hu1 : u1 < 3) (hR64 : ∀ (z10 : Int32) (S : St) (H : Heap) (locs : List Loc) (ls : Array Slot), R64 z10 S → wH D ad cs P (wA ad P) s.heap sz S H locs → lv_has ls 11 [(0, .ref (ad 26 0)), (1, .ref (ad 10 u1)), (2, .int x2), (3, .int x3), (4, .int x4), (5, .int x5), (6, .int x6), (7, .int x7), (8, .int x8), (9, .int x9), (10, .int z10)] → W p l e R s m args below meth c H locs 0 0 (MQ below (va_Qv K (QX D ad cs P sz) (wA ad P)) args s 0 0 (wA ad P)) (F0 m 64 ls [])) (hw : wbX6_goOn_160 F u1 R64 K x2 x3 x4 x5 x6 x7 x8 x9 x10 S) (hh : wH D ad cs P (wA ad P) s.heap sz S H locs) (hl : lv_has ls 11 [(0, .ref (ad 26 0)), (1, .ref (ad 10 u1)), (2, .int x2), (3, .int x3), (4, .int x4), (5, .int x5), (6, .int x6), (7, .int x7), (8, .int x8), (9, .int x9), (10, .int x10)]) : W p l e R s m args below meth c H locs 0 0 (MQ below (va_Qv K (QX D ad cs P sz) (wA ad P)) args s 0 0 (wA ad P)) (F0 m 160 ls []) := by
  have hx := E.hx
  have hb := E.hb
  refine lv_iinc (k := 10) (v := x10 + 1) (lv' := [(10, .int (x10 + 1)), (0, .ref (ad 26 0)), (1, .ref (ad 10 u1)), (2, .int x2), (3, .int x3), (4, .int x4), (5, .int x5), (6, .int x6), (7, .int x7), (8, .int x8), (9, .int x9)]) hx hb dX6_goOn_160 hl rfl rfl (by decide) rfl (fun ls hl => ?_)
  refine lv_goto (tgt := 64) hx hb dX6_goOn_163 (by decide) ?_
  exact hR64 (x10 + 1) S _ _ _ hw hh (lv_sub hl [1, 2, 3, 4, 5, 6, 7, 8, 9, 10, 0] rfl)
def wbX6_goOn_64 (F : Nat → Nat → Int32 → Int32 → Int32 → Int32 → Int32 → St → (St → Prop) → Prop) (u1 : Nat) (K : St → Prop) (x2 : Int32) (x3 : Int32) (x4 : Int32) (x5 : Int32) (x6 : Int32) (x7 : Int32) (x8 : Int32) (x9 : Int32) : Nat → Int32 → St → Prop
  | 0, _, _ => False
  | n + 1, x10, S => if (S.1 10 u1 1) ≤ x10 then (K S) else (if ((x6 >>> (x10 &&& 31)) &&& 1) = 0 then (wpX5_mayAsk u1 x2 x10 S (fun r10 S10 => if r10 = 0 then (wbX6_goOn_160 F u1 (fun yx10 S9 => wbX6_goOn_64 F u1 K x2 x3 x4 x5 x6 x7 x8 x9 n yx10 S9) K x2 x3 x4 x5 x6 x7 x8 x9 x10 S10) else (wpX5_saysNo u1 x2 x10 S10 (fun r12 S12 => if r12 = 0 then (wbX6_goOn_160 F u1 (fun yx10 S9 => wbX6_goOn_64 F u1 K x2 x3 x4 x5 x6 x7 x8 x9 n yx10 S9) K x2 x3 x4 x5 x6 x7 x8 x9 x10 S12) else ((vp_in x5 4 ∧ ∀ S14, S14 = su S12 28 0 x5.toNatClampNeg x10 → wpX5_endAsking u1 x2 x10 0 S14 (fun S15 => F 0 u1 x2 x3 x4 (x5 + 1) (x6 ||| (1 <<< (x10 &&& 31))) S15 (fun S16 => (vp_in x2 4 ∧ ∀ S17, S17 = su S16 11 u1 x2.toNatClampNeg x7 → (∀ S18, S18 = su S17 10 u1 2 x8 → (∀ S19, S19 = su S18 10 u1 5 x9 → wbX6_goOn_160 F u1 (fun yx10 S9 => wbX6_goOn_64 F u1 K x2 x3 x4 x5 x6 x7 x8 x9 n yx10 S9) K x2 x3 x4 x5 x6 x7 x8 x9 x10 S19))))))))))) else (wbX6_goOn_160 F u1 (fun yx10 S9 => wbX6_goOn_64 F u1 K x2 x3 x4 x5 x6 x7 x8 x9 n yx10 S9) K x2 x3 x4 x5 x6 x7 x8 x9 x10 S))
set_option maxRecDepth 4000 in
theorem bX6_goOn_64 {p : Program} {l : Launch} {e : Env} {R : Room} {s : State} {m : MethodId} {args : Array Value} {below : List Frame} {meth : Method} {c : Code} {D : va_G} {ad : Nat → Nat → Nat} {cs : Nat → ClassId} {P : Nat → Nat → Prop} {sz tU : Nat} {adK adV : Nat → Nat} {F : Nat → Nat → Int32 → Int32 → Int32 → Int32 → Int32 → St → (St → Prop) → Prop} {d : Nat} {u1 : Nat} {K : St → Prop} {x2 : Int32} {x3 : Int32} {x4 : Int32} {x5 : Int32} {x6 : Int32} {x7 : Int32} {x8 : Int32} {x9 : Int32} (E : Ex p s m args meth c R RX6 cX6_goOn 11 none (5 + (d + 1)) (152 + 30 * (d + 1)) D ad cs P (wA ad P) tU adK adV cnA) (hF0 : ∀ {u1 : Nat} {x2 : Int32} {x3 : Int32} {x4 : Int32} {x5 : Int32} {x6 : Int32} {S : St} {K : St → Prop}, u1 < 3 → F 0 u1 x2 x3 x4 x5 x6 S K → MV l yX6_goOn cX6_goOn 11 none (5 + d) (152 + 30 * d) D ad cs P sz tU adK adV [.ref (ad 26 0), .ref (ad 10 u1), .int x2, .int x3, .int x4, .int x5, .int x6] S K) (hu1 : u1 < 3) : ∀ (n : Nat) (x10 : Int32) (S : St) (H : Heap) (locs : List Loc) (ls : Array Slot), wbX6_goOn_64 F u1 K x2 x3 x4 x5 x6 x7 x8 x9 n x10 S → wH D ad cs P (wA ad P) s.heap sz S H locs → lv_has ls 11 [(0, .ref (ad 26 0)), (1, .ref (ad 10 u1)), (2, .int x2), (3, .int x3), (4, .int x4), (5, .int x5), (6, .int x6), (7, .int x7), (8, .int x8), (9, .int x9), (10, .int x10)] → W p l e R s m args below meth c H locs 0 0 (MQ below (va_Qv K (QX D ad cs P sz) (wA ad P)) args s 0 0 (wA ad P)) (F0 m 64 ls []) := by
  have hx := E.hx
  have hb := E.hb
  intro n
  induction n with
  | zero => intro x10 S H locs ls hw hh hl; exact hw.elim
  | succ n ih =>
    intro x10 S H locs ls hw hh hl
    refine lv_iload hx hb dX6_goOn_64 (lv_at hl 10 rfl) ?_
    refine lv_aload_n hx hb dX6_goOn_66 rfl (lv_at hl 1 rfl) ?_
    refine g_10_1 E hh tb314 (E.hn 10 u1 hu1) dX6_goOn_67 ?_
    refine lv_icmp_ge (tgt := 166) hx hb dX6_goOn_70 (by decide) (fun c8 => ?_) (fun c8 => ?_)
    · have hw := ifT hw c8
      exact x_vret E hh hw dX6_goOn_166
    · have hw := ifF hw c8
      refine lv_iload hx hb dX6_goOn_73 (lv_at hl 6 rfl) ?_
      refine lv_iload hx hb dX6_goOn_75 (lv_at hl 10 rfl) ?_
      refine lv_ishr hx hb dX6_goOn_77 ?_
      refine lv_iconst (v := 1) hx hb dX6_goOn_78 (by decide) ?_
      refine lv_iand hx hb dX6_goOn_79 ?_
      refine lv_if_ne (tgt := 160) hx hb dX6_goOn_80 (by decide) (fun c9 => ?_) (fun c9 => ?_)
      · have hw := ifF hw c9
        exact bX6_goOn_160 E hF0 hu1 ih hw hh (lv_sub hl [0, 1, 2, 3, 4, 5, 6, 7, 8, 9, 10] rfl)
      · have hw := ifT hw c9
        refine lv_aload_n hx hb dX6_goOn_83 rfl (lv_at hl 1 rfl) ?_
        refine lv_iload_n hx hb dX6_goOn_84 rfl (lv_at hl 2 rfl) ?_
        refine lv_iload hx hb dX6_goOn_85 (lv_at hl 10 rfl) ?_
        refine x_ci E.hA hh (x_runV E hh (mX5_mayAsk E.hI E.hn hu1 hw) kX5_mayAsk tb556 (E.hn 10 u1 hu1) rv_10 ⟨by omega, by omega⟩ rfl hl.1 rfl (Nat.le_of_ble_eq_true rfl) dX6_goOn_87 ⟨Nat.zero_le _, Nat.zero_le _⟩) (fun r10 S10 H locs hw hh => ?_)
        have hq10 := hw.2
        have hw := hw.1
        refine lv_if_eq (tgt := 160) hx hb dX6_goOn_90 (by decide) (fun c11 => ?_) (fun c11 => ?_)
        · have hw := ifT hw c11
          exact bX6_goOn_160 E hF0 hu1 ih hw hh (lv_sub hl [0, 1, 2, 3, 4, 5, 6, 7, 8, 9, 10] rfl)
        · have hw := ifF hw c11
          refine lv_aload_n hx hb dX6_goOn_93 rfl (lv_at hl 1 rfl) ?_
          refine lv_iload_n hx hb dX6_goOn_94 rfl (lv_at hl 2 rfl) ?_
          refine lv_iload hx hb dX6_goOn_95 (lv_at hl 10 rfl) ?_
          refine x_ci E.hA hh (x_runV E hh (mX5_saysNo E.hI E.hn hu1 hw) kX5_saysNo tb566 (E.hn 10 u1 hu1) rv_10 ⟨by omega, by omega⟩ rfl hl.1 rfl (Nat.le_of_ble_eq_true rfl) dX6_goOn_97 ⟨Nat.zero_le _, Nat.zero_le _⟩) (fun r12 S12 H locs hw hh => ?_)
          have hq12 := hw.2
          have hw := hw.1
          refine lv_if_eq (tgt := 160) hx hb dX6_goOn_100 (by decide) (fun c13 => ?_) (fun c13 => ?_)
          · have hw := ifT hw c13
            exact bX6_goOn_160 E hF0 hu1 ih hw hh (lv_sub hl [0, 1, 2, 3, 4, 5, 6, 7, 8, 9, 10] rfl)
          · have hw := ifF hw c13
            refine lv_aload_n hx hb dX6_goOn_103 rfl (lv_at hl 0 rfl) ?_
            refine g_26_4 E hh tb113 (E.hn 26 0 (by decide)) dX6_goOn_104 ?_
            refine lv_iload hx hb dX6_goOn_107 (lv_at hl 5 rfl) ?_
            refine lv_iload hx hb dX6_goOn_109 (lv_at hl 10 rfl) ?_
            obtain ⟨hi14, hw⟩ := hw
            refine x_iast E hh (E.hn 28 0 (by decide)) ly_28 hi14 dX6_goOn_111 (fun S14 H locs e14 hh => ?_)
            have hw := hw S14 e14
            refine lv_aload_n hx hb dX6_goOn_112 rfl (lv_at hl 1 rfl) ?_
            refine lv_iload_n hx hb dX6_goOn_113 rfl (lv_at hl 2 rfl) ?_
            refine lv_iload hx hb dX6_goOn_114 (lv_at hl 10 rfl) ?_
            refine lv_iconst (v := 0) hx hb dX6_goOn_116 (by decide) ?_
            refine x_cv E.hA hh (x_runV E hh (mX5_endAsking E.hI E.hn hu1 hw) kX5_endAsking tb567 (E.hn 10 u1 hu1) rv_10 ⟨by omega, by omega⟩ rfl hl.1 rfl (Nat.le_of_ble_eq_true rfl) dX6_goOn_117 ⟨Nat.zero_le _, Nat.zero_le _⟩) (fun S15 H locs hw hh => ?_)
            refine lv_aload_n hx hb dX6_goOn_120 rfl (lv_at hl 0 rfl) ?_
            refine lv_aload_n hx hb dX6_goOn_121 rfl (lv_at hl 1 rfl) ?_
            refine lv_iload_n hx hb dX6_goOn_122 rfl (lv_at hl 2 rfl) ?_
            refine lv_iload_n hx hb dX6_goOn_123 rfl (lv_at hl 3 rfl) ?_
            refine lv_iload hx hb dX6_goOn_124 (lv_at hl 4 rfl) ?_
            refine lv_iload hx hb dX6_goOn_126 (lv_at hl 5 rfl) ?_
            refine lv_iconst (v := 1) hx hb dX6_goOn_128 (by decide) ?_
            refine lv_iadd hx hb dX6_goOn_129 ?_
            refine lv_iload hx hb dX6_goOn_130 (lv_at hl 6 rfl) ?_
            refine lv_iconst (v := 1) hx hb dX6_goOn_132 (by decide) ?_
            refine lv_iload hx hb dX6_goOn_133 (lv_at hl 10 rfl) ?_
            refine lv_ishl hx hb dX6_goOn_135 ?_
            refine lv_ior hx hb dX6_goOn_136 ?_
            refine x_cv E.hA hh (x_runV E hh (hF0 hu1 hw) kX6_goOn tb552 (E.hn 26 0 (by decide)) rv_26 ⟨by omega, by omega⟩ rfl hl.1 rfl (Nat.le_of_ble_eq_true rfl) dX6_goOn_137 ⟨Nat.zero_le _, Nat.zero_le _⟩) (fun S16 H locs hw hh => ?_)
            refine lv_aload_n hx hb dX6_goOn_140 rfl (lv_at hl 1 rfl) ?_
            refine g_10_6 E hh tb328 (E.hn 10 u1 hu1) dX6_goOn_141 ?_
            refine lv_iload_n hx hb dX6_goOn_144 rfl (lv_at hl 2 rfl) ?_
            refine lv_iload hx hb dX6_goOn_145 (lv_at hl 7 rfl) ?_
            obtain ⟨hi17, hw⟩ := hw
            refine x_iast E hh (E.hn 11 u1 hu1) ly_11 hi17 dX6_goOn_147 (fun S17 H locs e17 hh => ?_)
            have hw := hw S17 e17
            refine lv_aload_n hx hb dX6_goOn_148 rfl (lv_at hl 1 rfl) ?_
            refine lv_iload hx hb dX6_goOn_149 (lv_at hl 8 rfl) ?_
            refine p_10_2 E hh tb317 (E.hn 10 u1 hu1) dX6_goOn_151 (fun S18 H locs e18 hh => ?_)
            have hw := hw S18 e18
            refine lv_aload_n hx hb dX6_goOn_154 rfl (lv_at hl 1 rfl) ?_
            refine lv_iload hx hb dX6_goOn_155 (lv_at hl 9 rfl) ?_
            refine p_10_5 E hh tb324 (E.hn 10 u1 hu1) dX6_goOn_157 (fun S19 H locs e19 hh => ?_)
            have hw := hw S19 e19
            exact bX6_goOn_160 E hF0 hu1 ih hw hh (lv_sub hl [0, 1, 2, 3, 4, 5, 6, 7, 8, 9, 10] rfl)
def wbX6_goOn_34 (F : Nat → Nat → Int32 → Int32 → Int32 → Int32 → Int32 → St → (St → Prop) → Prop) (u1 : Nat) (K : St → Prop) (x2 : Int32) (x3 : Int32) (x4 : Int32) (x5 : Int32) (x6 : Int32) (S : St) : Prop := if x5 < 4 then ((vp_in x2 4 ∧ ∃ k, wbX6_goOn_64 F u1 K x2 x3 x4 x5 x6 (S.1 11 u1 x2.toNatClampNeg) (S.1 10 u1 2) (S.1 10 u1 5) k 0 S)) else (K S)
set_option maxRecDepth 4000 in
theorem bX6_goOn_34 {p : Program} {l : Launch} {e : Env} {R : Room} {s : State} {m : MethodId} {args : Array Value} {below : List Frame} {meth : Method} {c : Code} {D : va_G} {ad : Nat → Nat → Nat} {cs : Nat → ClassId} {P : Nat → Nat → Prop} {sz tU : Nat} {adK adV : Nat → Nat} {F : Nat → Nat → Int32 → Int32 → Int32 → Int32 → Int32 → St → (St → Prop) → Prop} {d : Nat} {u1 : Nat} {K : St → Prop} {x2 : Int32} {x3 : Int32} {x4 : Int32} {x5 : Int32} {x6 : Int32} {S : St} {H : Heap} {locs : List Loc} {ls : Array Slot} (E : Ex p s m args meth c R RX6 cX6_goOn 11 none (5 + (d + 1)) (152 + 30 * (d + 1)) D ad cs P (wA ad P) tU adK adV cnA) (hF0 : ∀ {u1 : Nat} {x2 : Int32} {x3 : Int32} {x4 : Int32} {x5 : Int32} {x6 : Int32} {S : St} {K : St → Prop}, u1 < 3 → F 0 u1 x2 x3 x4 x5 x6 S K → MV l yX6_goOn cX6_goOn 11 none (5 + d) (152 + 30 * d) D ad cs P sz tU adK adV [.ref (ad 26 0), .ref (ad 10 u1), .int x2, .int x3, .int x4, .int x5, .int x6] S K) (hu1 : u1 < 3) (hw : wbX6_goOn_34 F u1 K x2 x3 x4 x5 x6 S) (hh : wH D ad cs P (wA ad P) s.heap sz S H locs) (hl : lv_has ls 11 [(0, .ref (ad 26 0)), (1, .ref (ad 10 u1)), (2, .int x2), (3, .int x3), (4, .int x4), (5, .int x5), (6, .int x6)]) : W p l e R s m args below meth c H locs 0 0 (MQ below (va_Qv K (QX D ad cs P sz) (wA ad P)) args s 0 0 (wA ad P)) (F0 m 34 ls []) := by
  have hx := E.hx
  have hb := E.hb
  refine lv_iload hx hb dX6_goOn_34 (lv_at hl 5 rfl) ?_
  refine lv_iconst (v := 4) hx hb dX6_goOn_36 (by decide) ?_
  refine lv_icmp_lt (tgt := 41) hx hb dX6_goOn_37 (by decide) (fun c6 => ?_) (fun c6 => ?_)
  · have hw := ifT hw c6
    refine lv_aload_n hx hb dX6_goOn_41 rfl (lv_at hl 1 rfl) ?_
    refine g_10_6 E hh tb328 (E.hn 10 u1 hu1) dX6_goOn_42 ?_
    refine lv_iload_n hx hb dX6_goOn_45 rfl (lv_at hl 2 rfl) ?_
    obtain ⟨hi7, hw⟩ := hw
    refine x_iald E hh (E.hn 11 u1 hu1) ly_11 hi7 dX6_goOn_46 ?_
    refine lv_istore (lv' := [(7, .int (S.1 11 u1 x2.toNatClampNeg)), (0, .ref (ad 26 0)), (1, .ref (ad 10 u1)), (2, .int x2), (3, .int x3), (4, .int x4), (5, .int x5), (6, .int x6)]) hx hb dX6_goOn_47 hl (by decide) rfl (fun ls hl => ?_)
    refine lv_aload_n hx hb dX6_goOn_49 rfl (lv_at hl 2 rfl) ?_
    refine g_10_2 E hh tb317 (E.hn 10 u1 hu1) dX6_goOn_50 ?_
    refine lv_istore (lv' := [(8, .int (S.1 10 u1 2)), (7, .int (S.1 11 u1 x2.toNatClampNeg)), (0, .ref (ad 26 0)), (1, .ref (ad 10 u1)), (2, .int x2), (3, .int x3), (4, .int x4), (5, .int x5), (6, .int x6)]) hx hb dX6_goOn_53 hl (by decide) rfl (fun ls hl => ?_)
    refine lv_aload_n hx hb dX6_goOn_55 rfl (lv_at hl 3 rfl) ?_
    refine g_10_5 E hh tb324 (E.hn 10 u1 hu1) dX6_goOn_56 ?_
    refine lv_istore (lv' := [(9, .int (S.1 10 u1 5)), (8, .int (S.1 10 u1 2)), (7, .int (S.1 11 u1 x2.toNatClampNeg)), (0, .ref (ad 26 0)), (1, .ref (ad 10 u1)), (2, .int x2), (3, .int x3), (4, .int x4), (5, .int x5), (6, .int x6)]) hx hb dX6_goOn_59 hl (by decide) rfl (fun ls hl => ?_)
    refine lv_iconst (v := 0) hx hb dX6_goOn_61 (by decide) ?_
    refine lv_istore (lv' := [(10, .int 0), (9, .int (S.1 10 u1 5)), (8, .int (S.1 10 u1 2)), (7, .int (S.1 11 u1 x2.toNatClampNeg)), (0, .ref (ad 26 0)), (1, .ref (ad 10 u1)), (2, .int x2), (3, .int x3), (4, .int x4), (5, .int x5), (6, .int x6)]) hx hb dX6_goOn_62 hl (by decide) rfl (fun ls hl => ?_)
    obtain ⟨k, hw⟩ := hw
    exact bX6_goOn_64 E hF0 hu1 k 0 S _ _ _ hw hh (lv_sub hl [4, 5, 6, 7, 8, 9, 10, 3, 2, 1, 0] rfl)
  · have hw := ifF hw c6
    exact x_vret E hh hw dX6_goOn_40
def wpX6_goOn (F : Nat → Nat → Int32 → Int32 → Int32 → Int32 → Int32 → St → (St → Prop) → Prop) (u1 : Nat) (x2 : Int32) (x3 : Int32) (x4 : Int32) (x5 : Int32) (x6 : Int32) (S : St) (K : St → Prop) : Prop := wpX5_mayAsk u1 x2 x3 S (fun r1 S1 => if r1 = 0 then (wbX6_goOn_34 F u1 K x2 x3 x4 x5 x6 S1) else (wpX6_isBetter x4 x5 (S1.1 10 u1 5) S1 (fun r3 S3 => if r3 = 0 then (wbX6_goOn_34 F u1 K x2 x3 x4 x5 x6 S3) else (wpX6_keep x5 (S3.1 10 u1 5) S3 (fun S5 => wbX6_goOn_34 F u1 K x2 x3 x4 x5 x6 S5)))))
set_option maxRecDepth 4000 in
theorem bX6_goOn {p : Program} {l : Launch} {e : Env} {R : Room} {s : State} {m : MethodId} {args : Array Value} {below : List Frame} {meth : Method} {c : Code} {D : va_G} {ad : Nat → Nat → Nat} {cs : Nat → ClassId} {P : Nat → Nat → Prop} {sz tU : Nat} {adK adV : Nat → Nat} {F : Nat → Nat → Int32 → Int32 → Int32 → Int32 → Int32 → St → (St → Prop) → Prop} {d : Nat} {K : St → Prop} {u1 : Nat} {x2 : Int32} {x3 : Int32} {x4 : Int32} {x5 : Int32} {x6 : Int32} {S : St} {H : Heap} {locs : List Loc} {ls : Array Slot} (E : Ex p s m args meth c R RX6 cX6_goOn 11 none (5 + (d + 1)) (152 + 30 * (d + 1)) D ad cs P (wA ad P) tU adK adV cnA) (hF0 : ∀ {u1 : Nat} {x2 : Int32} {x3 : Int32} {x4 : Int32} {x5 : Int32} {x6 : Int32} {S : St} {K : St → Prop}, u1 < 3 → F 0 u1 x2 x3 x4 x5 x6 S K → MV l yX6_goOn cX6_goOn 11 none (5 + d) (152 + 30 * d) D ad cs P sz tU adK adV [.ref (ad 26 0), .ref (ad 10 u1), .int x2, .int x3, .int x4, .int x5, .int x6] S K) (hu1 : u1 < 3) (hw : wpX6_goOn F u1 x2 x3 x4 x5 x6 S K) (hh : wH D ad cs P (wA ad P) s.heap sz S H locs) (hl : lv_has ls 11 [(0, .ref (ad 26 0)), (1, .ref (ad 10 u1)), (2, .int x2), (3, .int x3), (4, .int x4), (5, .int x5), (6, .int x6)]) : W p l e R s m args below meth c H locs 0 0 (MQ below (va_Qv K (QX D ad cs P sz) (wA ad P)) args s 0 0 (wA ad P)) (F0 m 0 ls []) := by
  have hx := E.hx
  have hb := E.hb
  refine lv_aload_n hx hb dX6_goOn_0 rfl (lv_at hl 1 rfl) ?_
  refine lv_iload_n hx hb dX6_goOn_1 rfl (lv_at hl 2 rfl) ?_
  refine lv_iload_n hx hb dX6_goOn_2 rfl (lv_at hl 3 rfl) ?_
  refine x_ci E.hA hh (x_runV E hh (mX5_mayAsk E.hI E.hn hu1 hw) kX5_mayAsk tb556 (E.hn 10 u1 hu1) rv_10 ⟨by omega, by omega⟩ rfl hl.1 rfl (Nat.le_of_ble_eq_true rfl) dX6_goOn_3 ⟨Nat.zero_le _, Nat.zero_le _⟩) (fun r1 S1 H locs hw hh => ?_)
  have hq1 := hw.2
  have hw := hw.1
  refine lv_if_eq (tgt := 34) hx hb dX6_goOn_6 (by decide) (fun c2 => ?_) (fun c2 => ?_)
  · have hw := ifT hw c2
    exact bX6_goOn_34 E hF0 hu1 hw hh (lv_sub hl [0, 1, 2, 3, 4, 5, 6] rfl)
  · have hw := ifF hw c2
    refine lv_aload_n hx hb dX6_goOn_9 rfl (lv_at hl 0 rfl) ?_
    refine lv_iload hx hb dX6_goOn_10 (lv_at hl 4 rfl) ?_
    refine lv_iload hx hb dX6_goOn_12 (lv_at hl 5 rfl) ?_
    refine lv_aload_n hx hb dX6_goOn_14 rfl (lv_at hl 1 rfl) ?_
    refine g_10_5 E hh tb324 (E.hn 10 u1 hu1) dX6_goOn_15 ?_
    refine x_ci E.hA hh (x_runV E hh (mX6_isBetter E.hI E.hn hw) kX6_isBetter tb557 (E.hn 26 0 (by decide)) rv_26 ⟨by omega, by omega⟩ rfl hl.1 rfl (Nat.le_of_ble_eq_true rfl) dX6_goOn_18 ⟨Nat.zero_le _, Nat.zero_le _⟩) (fun r3 S3 H locs hw hh => ?_)
    have hq3 := hw.2
    have hw := hw.1
    refine lv_if_eq (tgt := 34) hx hb dX6_goOn_21 (by decide) (fun c4 => ?_) (fun c4 => ?_)
    · have hw := ifT hw c4
      exact bX6_goOn_34 E hF0 hu1 hw hh (lv_sub hl [0, 1, 2, 3, 4, 5, 6] rfl)
    · have hw := ifF hw c4
      refine lv_aload_n hx hb dX6_goOn_24 rfl (lv_at hl 0 rfl) ?_
      refine lv_iload hx hb dX6_goOn_25 (lv_at hl 5 rfl) ?_
      refine lv_aload_n hx hb dX6_goOn_27 rfl (lv_at hl 1 rfl) ?_
      refine g_10_5 E hh tb324 (E.hn 10 u1 hu1) dX6_goOn_28 ?_
      refine x_cv E.hA hh (x_runV E hh (mX6_keep E.hI E.hn hw) kX6_keep tb561 (E.hn 26 0 (by decide)) rv_26 ⟨by omega, by omega⟩ rfl hl.1 rfl (Nat.le_of_ble_eq_true rfl) dX6_goOn_31 ⟨Nat.zero_le _, Nat.zero_le _⟩) (fun S5 H locs hw hh => ?_)
      exact bX6_goOn_34 E hF0 hu1 hw hh (lv_sub hl [0, 1, 2, 3, 4, 5, 6] rfl)
def wpG1 : Nat → Nat → Nat → Int32 → Int32 → Int32 → Int32 → Int32 → St → (St → Prop) → Prop
  | 0 => fun _ _ _ _ _ _ _ _ _ => False
  | d + 1 => fun tag u1 x2 x3 x4 x5 x6 S K => wpX6_goOn (wpG1 d) u1 x2 x3 x4 x5 x6 S K
theorem mG1 {l : Launch} {D : va_G} {ad : Nat → Nat → Nat} {cs : Nat → ClassId} {P : Nat → Nat → Prop} {sz tU : Nat} {adK adV : Nat → Nat} (hI : wI ad P) (hn : ∀ kd i, i < cnA kd → P kd i) : ∀ d : Nat, (∀ {u1 : Nat} {x2 : Int32} {x3 : Int32} {x4 : Int32} {x5 : Int32} {x6 : Int32} {S : St} {K : St → Prop}, u1 < 3 → wpG1 d 0 u1 x2 x3 x4 x5 x6 S K → MV l yX6_goOn cX6_goOn 11 none (5 + d) (152 + 30 * d) D ad cs P sz tU adK adV [.ref (ad 26 0), .ref (ad 10 u1), .int x2, .int x3, .int x4, .int x5, .int x6] S K) := by
  intro d
  induction d with
  | zero => exact (fun _ hw => hw.elim)
  | succ d ih =>
    have hF0 := @ih
    refine ?_
    · intro u1 x2 x3 x4 x5 x6 S K hu1 hw
      have hw : wpX6_goOn (wpG1 d) u1 x2 x3 x4 x5 x6 S K := hw
      exact Met_of (by decide) (Nat.le_of_ble_eq_true rfl) hI hn (fun p e R s m args below meth c ls E hl hh => bX6_goOn E @hF0 hu1 hw hh (lv_sub hl [0, 1, 2, 3, 4, 5, 6] rfl))
theorem mG1_X6_goOn {l : Launch} {D : va_G} {ad : Nat → Nat → Nat} {cs : Nat → ClassId} {P : Nat → Nat → Prop} {sz tU : Nat} {adK adV : Nat → Nat} {u1 : Nat} {x2 : Int32} {x3 : Int32} {x4 : Int32} {x5 : Int32} {x6 : Int32} {S : St} {K : St → Prop} (hI : wI ad P) (hn : ∀ kd i, i < cnA kd → P kd i) (d : Nat) (hu1 : u1 < 3) (hw : wpG1 d 0 u1 x2 x3 x4 x5 x6 S K) : MV l yX6_goOn cX6_goOn 11 none (5 + d) (152 + 30 * d) D ad cs P sz tU adK adV [.ref (ad 26 0), .ref (ad 10 u1), .int x2, .int x3, .int x4, .int x5, .int x6] S K := (mG1 hI hn d) hu1 hw
def wpX6_seek (u1 : Nat) (x2 : Int32) (x3 : Int32) (x4 : Int32) (S : St) (K : St → Prop) : Prop := (∀ S1, S1 = su S 26 0 1 0 → wpG1 8 0 u1 x2 x3 x4 0 (1 <<< (x3 &&& 31)) S1 (fun S2 => K S2))
set_option maxRecDepth 4000 in
theorem bX6_seek {p : Program} {l : Launch} {e : Env} {R : Room} {s : State} {m : MethodId} {args : Array Value} {below : List Frame} {meth : Method} {c : Code} {D : va_G} {ad : Nat → Nat → Nat} {cs : Nat → ClassId} {P : Nat → Nat → Prop} {sz tU : Nat} {adK adV : Nat → Nat} {K : St → Prop} {u1 : Nat} {x2 : Int32} {x3 : Int32} {x4 : Int32} {S : St} {H : Heap} {locs : List Loc} {ls : Array Slot} (E : Ex p s m args meth c R RX6 cX6_seek 5 none 14 422 D ad cs P (wA ad P) tU adK adV cnA) (hu1 : u1 < 3) (hw : wpX6_seek u1 x2 x3 x4 S K) (hh : wH D ad cs P (wA ad P) s.heap sz S H locs) (hl : lv_has ls 5 [(0, .ref (ad 26 0)), (1, .ref (ad 10 u1)), (2, .int x2), (3, .int x3), (4, .int x4)]) : W p l e R s m args below meth c H locs 0 0 (MQ below (va_Qv K (QX D ad cs P sz) (wA ad P)) args s 0 0 (wA ad P)) (F0 m 0 ls []) := by
  have hx := E.hx
  have hb := E.hb
  refine lv_aload_n hx hb dX6_seek_0 rfl (lv_at hl 0 rfl) ?_
  refine lv_iconst (v := 0) hx hb dX6_seek_1 (by decide) ?_
  refine p_26_1 E hh tb107 (E.hn 26 0 (by decide)) rfl rfl dX6_seek_2 (fun S1 H locs e1 hh => ?_)
  have hw := hw S1 e1
  refine lv_aload_n hx hb dX6_seek_5 rfl (lv_at hl 0 rfl) ?_
  refine lv_aload_n hx hb dX6_seek_6 rfl (lv_at hl 1 rfl) ?_
  refine lv_iload_n hx hb dX6_seek_7 rfl (lv_at hl 2 rfl) ?_
  refine lv_iload_n hx hb dX6_seek_8 rfl (lv_at hl 3 rfl) ?_
  refine lv_iload hx hb dX6_seek_9 (lv_at hl 4 rfl) ?_
  refine lv_iconst (v := 0) hx hb dX6_seek_11 (by decide) ?_
  refine lv_iconst (v := 1) hx hb dX6_seek_12 (by decide) ?_
  refine lv_iload_n hx hb dX6_seek_13 rfl (lv_at hl 3 rfl) ?_
  refine lv_ishl hx hb dX6_seek_14 ?_
  refine x_cv E.hA hh (x_runV E hh (mG1_X6_goOn E.hI E.hn 8 hu1 hw) kX6_goOn tb552 (E.hn 26 0 (by decide)) rv_26 ⟨by decide, by decide⟩ rfl hl.1 rfl (Nat.le_of_ble_eq_true rfl) dX6_seek_15 ⟨Nat.zero_le _, Nat.zero_le _⟩) (fun S2 H locs hw hh => ?_)
  exact x_vret E hh hw dX6_seek_18
theorem kX6_seek : kI yX6_seek cX6_seek 5 none 4 := ⟨tb549, tb550, tb4, tb551, by decide, by decide, by decide +kernel⟩
theorem mX6_seek {l : Launch} {D : va_G} {ad : Nat → Nat → Nat} {cs : Nat → ClassId} {P : Nat → Nat → Prop} {sz tU : Nat} {adK adV : Nat → Nat} {u1 : Nat} {x2 : Int32} {x3 : Int32} {x4 : Int32} {S : St} {K : St → Prop} (hI : wI ad P) (hn : ∀ kd i, i < cnA kd → P kd i) (hu1 : u1 < 3) (hw : wpX6_seek u1 x2 x3 x4 S K) : MV l yX6_seek cX6_seek 5 none 14 422 D ad cs P sz tU adK adV [.ref (ad 26 0), .ref (ad 10 u1), .int x2, .int x3, .int x4] S K :=
  Met_of (by decide) (Nat.le_of_ble_eq_true rfl) hI hn (fun p e R s m args below meth c ls E hl hh => bX6_seek E hu1 hw hh (lv_sub hl [0, 1, 2, 3, 4] rfl))
