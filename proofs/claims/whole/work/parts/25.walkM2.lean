/-! walks, written by wip/whole/tools/walk.py: 25.walkM2 -/
def wbX8_part_48 (K : Int32 → St → Prop) (x2 : Int32) (S : St) : Prop := if (S.1 40 0 30) = 0 then (wpX8_next S (fun S11 => K x2 S11)) else (K x2 S)
set_option maxRecDepth 4000 in
theorem bX8_part_48 {p : Program} {l : Launch} {e : Env} {R : Room} {s : State} {m : MethodId} {args : Array Value} {below : List Frame} {meth : Method} {c : Code} {D : va_G} {ad : Nat → Nat → Nat} {cs : Nat → ClassId} {P : Nat → Nat → Prop} {sz tU : Nat} {adK adV : Nat → Nat} {K : Int32 → St → Prop} {x2 : Int32} {S : St} {H : Heap} {locs : List Loc} {ls : Array Slot} (E : Ex p s m args meth c R RX8 cX8_part 3 (some .int) 66 1553 D ad cs P (wA ad P) tU adK adV cnM) (hw : wbX8_part_48 K x2 S) (hh : wH D ad cs P (wA ad P) s.heap sz S H locs) (hl : lv_has ls 3 [(0, .ref (ad 40 0)), (2, .int x2)]) : W p l e R s m args below meth c H locs 0 0 (MQ below (va_Qi K (QX D ad cs P sz) (wA ad P)) args s 0 0 (wA ad P)) (F0 m 48 ls []) := by
  have hx := E.hx
  have hb := E.hb
  refine lv_aload_n hx hb dX8_part_48 rfl (lv_at hl 0 rfl) ?_
  refine g_40_30 E hh tb764 (E.hn 40 0 (by decide)) dX8_part_49 ?_
  refine lv_if_ne (tgt := 59) hx hb dX8_part_52 (by decide) (fun c10 => ?_) (fun c10 => ?_)
  · have hw := ifF hw c10
    refine lv_iload_n hx hb dX8_part_59 rfl (lv_at hl 1 rfl) ?_
    exact x_iret E hh hw dX8_part_60
  · have hw := ifT hw c10
    refine lv_aload_n hx hb dX8_part_55 rfl (lv_at hl 0 rfl) ?_
    refine x_cv E.hA hh (x_runV E hh (mX8_next E.hI E.hn hw) kX8_next tb966 (E.hn 40 0 (by decide)) rv_40 ⟨by decide, by decide⟩ rfl hl.1 rfl (Nat.le_of_ble_eq_true rfl) dX8_part_56 ⟨Nat.zero_le _, Nat.zero_le _⟩) (fun S11 H locs hw hh => ?_)
    refine lv_iload_n hx hb dX8_part_59 rfl (lv_at hl 1 rfl) ?_
    exact x_iret E hh hw dX8_part_60
def wbX8_part_34 (K : Int32 → St → Prop) (v0 : Int32) (S : St) : Prop := wpX8_isSign 59 S (fun r7 S7 => if r7 = 0 then (wpX8_fail S7 (fun S9 => wbX8_part_48 K v0 S9)) else (wbX8_part_48 K v0 S7))
set_option maxRecDepth 4000 in
theorem bX8_part_34 {p : Program} {l : Launch} {e : Env} {R : Room} {s : State} {m : MethodId} {args : Array Value} {below : List Frame} {meth : Method} {c : Code} {D : va_G} {ad : Nat → Nat → Nat} {cs : Nat → ClassId} {P : Nat → Nat → Prop} {sz tU : Nat} {adK adV : Nat → Nat} {K : Int32 → St → Prop} {v0 : Int32} {S : St} {H : Heap} {locs : List Loc} {ls : Array Slot} (E : Ex p s m args meth c R RX8 cX8_part 3 (some .int) 66 1553 D ad cs P (wA ad P) tU adK adV cnM) (hw : wbX8_part_34 K v0 S) (hh : wH D ad cs P (wA ad P) s.heap sz S H locs) (hl : lv_has ls 3 [(0, .ref (ad 40 0))]) : W p l e R s m args below meth c H locs 0 0 (MQ below (va_Qi K (QX D ad cs P sz) (wA ad P)) args s 0 0 (wA ad P)) (F0 m 34 ls [.int v0]) := by
  have hx := E.hx
  have hb := E.hb
  refine lv_istore_n (lv' := [(2, .int v0), (0, .ref (ad 40 0))]) hx hb dX8_part_34 rfl hl (by decide) rfl (fun ls hl => ?_)
  refine lv_aload_n hx hb dX8_part_35 rfl (lv_at hl 1 rfl) ?_
  refine lv_bipush (v := 59) hx hb dX8_part_36 (by decide) ?_
  refine x_ci E.hA hh (x_runV E hh (mX8_isSign E.hI E.hn hw) kX8_isSign tb1023 (E.hn 40 0 (by decide)) rv_40 ⟨by decide, by decide⟩ rfl hl.1 rfl (Nat.le_of_ble_eq_true rfl) dX8_part_38 ⟨Nat.zero_le _, Nat.zero_le _⟩) (fun r7 S7 H locs hw hh => ?_)
  have hq7 := hw.2
  have hw := hw.1
  refine lv_if_ne (tgt := 48) hx hb dX8_part_41 (by decide) (fun c8 => ?_) (fun c8 => ?_)
  · have hw := ifF hw c8
    exact bX8_part_48 E hw hh (lv_sub hl [1, 0] rfl)
  · have hw := ifT hw c8
    refine lv_aload_n hx hb dX8_part_44 rfl (lv_at hl 1 rfl) ?_
    refine x_cv E.hA hh (x_runV E hh (mX8_fail E.hI E.hn hw) kX8_fail tb991 (E.hn 40 0 (by decide)) rv_40 ⟨by decide, by decide⟩ rfl hl.1 rfl (Nat.le_of_ble_eq_true rfl) dX8_part_45 ⟨Nat.zero_le _, Nat.zero_le _⟩) (fun S9 H locs hw hh => ?_)
    exact bX8_part_48 E hw hh (lv_sub hl [1, 0] rfl)
def wbX8_part_19 (K : Int32 → St → Prop) (S : St) : Prop := if (S.1 40 0 30) = 0 then (wpG3 60 0 S (fun r6 S6 => wbX8_part_34 K r6 S6)) else (wbX8_part_34 K 0 S)
set_option maxRecDepth 4000 in
theorem bX8_part_19 {p : Program} {l : Launch} {e : Env} {R : Room} {s : State} {m : MethodId} {args : Array Value} {below : List Frame} {meth : Method} {c : Code} {D : va_G} {ad : Nat → Nat → Nat} {cs : Nat → ClassId} {P : Nat → Nat → Prop} {sz tU : Nat} {adK adV : Nat → Nat} {K : Int32 → St → Prop} {S : St} {H : Heap} {locs : List Loc} {ls : Array Slot} (E : Ex p s m args meth c R RX8 cX8_part 3 (some .int) 66 1553 D ad cs P (wA ad P) tU adK adV cnM) (hw : wbX8_part_19 K S) (hh : wH D ad cs P (wA ad P) s.heap sz S H locs) (hl : lv_has ls 3 [(0, .ref (ad 40 0))]) : W p l e R s m args below meth c H locs 0 0 (MQ below (va_Qi K (QX D ad cs P sz) (wA ad P)) args s 0 0 (wA ad P)) (F0 m 19 ls []) := by
  have hx := E.hx
  have hb := E.hb
  refine lv_aload_n hx hb dX8_part_19 rfl (lv_at hl 0 rfl) ?_
  refine g_40_30 E hh tb764 (E.hn 40 0 (by decide)) dX8_part_20 ?_
  refine lv_if_eq (tgt := 30) hx hb dX8_part_23 (by decide) (fun c5 => ?_) (fun c5 => ?_)
  · have hw := ifT hw c5
    refine lv_aload_n hx hb dX8_part_30 rfl (lv_at hl 0 rfl) ?_
    refine x_ci E.hA hh (x_runV E hh (mG3_X8_either E.hI E.hn 60 hw) kX8_either tb995 (E.hn 40 0 (by decide)) rv_40 ⟨by decide, by decide⟩ rfl hl.1 rfl (Nat.le_of_ble_eq_true rfl) dX8_part_31 ⟨Nat.zero_le _, Nat.zero_le _⟩) (fun r6 S6 H locs hw hh => ?_)
    exact bX8_part_34 E hw hh (lv_sub hl [0] rfl)
  · have hw := ifF hw c5
    refine lv_iconst (v := 0) hx hb dX8_part_26 (by decide) ?_
    refine lv_goto (tgt := 34) hx hb dX8_part_27 (by decide) ?_
    exact bX8_part_34 E hw hh (lv_sub hl [0] rfl)
def wbX8_part_8 (K : Int32 → St → Prop) (S : St) : Prop := if (S.1 40 0 30) = 0 then (wpX8_next S (fun S4 => wbX8_part_19 K S4)) else (wbX8_part_19 K S)
set_option maxRecDepth 4000 in
theorem bX8_part_8 {p : Program} {l : Launch} {e : Env} {R : Room} {s : State} {m : MethodId} {args : Array Value} {below : List Frame} {meth : Method} {c : Code} {D : va_G} {ad : Nat → Nat → Nat} {cs : Nat → ClassId} {P : Nat → Nat → Prop} {sz tU : Nat} {adK adV : Nat → Nat} {K : Int32 → St → Prop} {S : St} {H : Heap} {locs : List Loc} {ls : Array Slot} (E : Ex p s m args meth c R RX8 cX8_part 3 (some .int) 66 1553 D ad cs P (wA ad P) tU adK adV cnM) (hw : wbX8_part_8 K S) (hh : wH D ad cs P (wA ad P) s.heap sz S H locs) (hl : lv_has ls 3 [(0, .ref (ad 40 0))]) : W p l e R s m args below meth c H locs 0 0 (MQ below (va_Qi K (QX D ad cs P sz) (wA ad P)) args s 0 0 (wA ad P)) (F0 m 8 ls []) := by
  have hx := E.hx
  have hb := E.hb
  refine lv_aload_n hx hb dX8_part_8 rfl (lv_at hl 0 rfl) ?_
  refine g_40_30 E hh tb764 (E.hn 40 0 (by decide)) dX8_part_9 ?_
  refine lv_if_ne (tgt := 19) hx hb dX8_part_12 (by decide) (fun c3 => ?_) (fun c3 => ?_)
  · have hw := ifF hw c3
    exact bX8_part_19 E hw hh (lv_sub hl [0] rfl)
  · have hw := ifT hw c3
    refine lv_aload_n hx hb dX8_part_15 rfl (lv_at hl 0 rfl) ?_
    refine x_cv E.hA hh (x_runV E hh (mX8_next E.hI E.hn hw) kX8_next tb966 (E.hn 40 0 (by decide)) rv_40 ⟨by decide, by decide⟩ rfl hl.1 rfl (Nat.le_of_ble_eq_true rfl) dX8_part_16 ⟨Nat.zero_le _, Nat.zero_le _⟩) (fun S4 H locs hw hh => ?_)
    exact bX8_part_19 E hw hh (lv_sub hl [0] rfl)
def wpX8_part (x1 : Int32) (S : St) (K : Int32 → St → Prop) : Prop := if x1 = 0 then (wpX8_fail S (fun S2 => wbX8_part_8 K S2)) else (wbX8_part_8 K S)
set_option maxRecDepth 4000 in
theorem bX8_part {p : Program} {l : Launch} {e : Env} {R : Room} {s : State} {m : MethodId} {args : Array Value} {below : List Frame} {meth : Method} {c : Code} {D : va_G} {ad : Nat → Nat → Nat} {cs : Nat → ClassId} {P : Nat → Nat → Prop} {sz tU : Nat} {adK adV : Nat → Nat} {K : Int32 → St → Prop} {x1 : Int32} {S : St} {H : Heap} {locs : List Loc} {ls : Array Slot} (E : Ex p s m args meth c R RX8 cX8_part 3 (some .int) 66 1553 D ad cs P (wA ad P) tU adK adV cnM) (hw : wpX8_part x1 S K) (hh : wH D ad cs P (wA ad P) s.heap sz S H locs) (hl : lv_has ls 3 [(0, .ref (ad 40 0)), (1, .int x1)]) : W p l e R s m args below meth c H locs 0 0 (MQ below (va_Qi K (QX D ad cs P sz) (wA ad P)) args s 0 0 (wA ad P)) (F0 m 0 ls []) := by
  have hx := E.hx
  have hb := E.hb
  refine lv_iload_n hx hb dX8_part_0 rfl (lv_at hl 1 rfl) ?_
  refine lv_if_ne (tgt := 8) hx hb dX8_part_1 (by decide) (fun c1 => ?_) (fun c1 => ?_)
  · have hw := ifF hw c1
    exact bX8_part_8 E hw hh (lv_sub hl [0] rfl)
  · have hw := ifT hw c1
    refine lv_aload_n hx hb dX8_part_4 rfl (lv_at hl 0 rfl) ?_
    refine x_cv E.hA hh (x_runV E hh (mX8_fail E.hI E.hn hw) kX8_fail tb991 (E.hn 40 0 (by decide)) rv_40 ⟨by decide, by decide⟩ rfl hl.1 rfl (Nat.le_of_ble_eq_true rfl) dX8_part_5 ⟨Nat.zero_le _, Nat.zero_le _⟩) (fun S2 H locs hw hh => ?_)
    exact bX8_part_8 E hw hh (lv_sub hl [0] rfl)
theorem kX8_part : kI yX8_part cX8_part 3 (some .int) 1 := ⟨tb989, ts36, tb15, tb990, by decide, by decide, by decide +kernel⟩
theorem mX8_part {l : Launch} {D : va_G} {ad : Nat → Nat → Nat} {cs : Nat → ClassId} {P : Nat → Nat → Prop} {sz tU : Nat} {adK adV : Nat → Nat} {x1 : Int32} {S : St} {K : Int32 → St → Prop} (hI : wI ad P) (hn : ∀ kd i, i < cnM kd → P kd i) (hw : wpX8_part x1 S K) : MI l yX8_part cX8_part 3 (some .int) 66 1553 D ad cs P sz tU adK adV [.ref (ad 40 0), .int x1] S K :=
  Met_of (by decide) (Nat.le_of_ble_eq_true rfl) hI hn (fun p e R s m args below meth c ls E hl hh => bX8_part E  hw hh (lv_sub hl [0, 1] rfl))
def wbX8_read_146 (K : Int32 → St → Prop) (x2 : Int32) (x3 : Int32) (x4 : Int32) (x5 : Int32) (S : St) : Prop := if x2 = 0 then (K x3 S) else (if x2 = 1 then (K x4 S) else (K x5 S))
set_option maxRecDepth 4000 in
theorem bX8_read_146 {p : Program} {l : Launch} {e : Env} {R : Room} {s : State} {m : MethodId} {args : Array Value} {below : List Frame} {meth : Method} {c : Code} {D : va_G} {ad : Nat → Nat → Nat} {cs : Nat → ClassId} {P : Nat → Nat → Prop} {sz tU : Nat} {adK adV : Nat → Nat} {K : Int32 → St → Prop} {x2 : Int32} {x3 : Int32} {x4 : Int32} {x5 : Int32} {S : St} {H : Heap} {locs : List Loc} {ls : Array Slot} (E : Ex p s m args meth c R RX8 cX8_read 6 (some .int) 67 1575 D ad cs P (wA ad P) tU adK adV cnM) (hw : wbX8_read_146 K x2 x3 x4 x5 S) (hh : wH D ad cs P (wA ad P) s.heap sz S H locs) (hl : lv_has ls 6 [(2, .int x2), (3, .int x3), (4, .int x4), (5, .int x5)]) : W p l e R s m args below meth c H locs 0 0 (MQ below (va_Qi K (QX D ad cs P sz) (wA ad P)) args s 0 0 (wA ad P)) (F0 m 146 ls []) := by
  have hx := E.hx
  have hb := E.hb
  refine lv_iload_n hx hb dX8_read_146 rfl (lv_at hl 0 rfl) ?_
  refine lv_if_ne (tgt := 154) hx hb dX8_read_147 (by decide) (fun c19 => ?_) (fun c19 => ?_)
  · have hw := ifF hw c19
    refine lv_iload_n hx hb dX8_read_154 rfl (lv_at hl 0 rfl) ?_
    refine lv_iconst (v := 1) hx hb dX8_read_155 (by decide) ?_
    refine lv_icmp_ne (tgt := 164) hx hb dX8_read_156 (by decide) (fun c20 => ?_) (fun c20 => ?_)
    · have hw := ifF hw c20
      refine lv_iload hx hb dX8_read_164 (lv_at hl 3 rfl) ?_
      exact x_iret E hh hw dX8_read_166
    · have hw := ifT hw c20
      refine lv_iload hx hb dX8_read_159 (lv_at hl 2 rfl) ?_
      refine lv_goto (tgt := 166) hx hb dX8_read_161 (by decide) ?_
      exact x_iret E hh hw dX8_read_166
  · have hw := ifT hw c19
    refine lv_iload_n hx hb dX8_read_150 rfl (lv_at hl 1 rfl) ?_
    refine lv_goto (tgt := 166) hx hb dX8_read_151 (by decide) ?_
    exact x_iret E hh hw dX8_read_166
def wbX8_read_126 (K : Int32 → St → Prop) (x2 : Int32) (x3 : Int32) (x4 : Int32) (v0 : Int32) (S : St) : Prop := if (S.1 40 0 30) = 0 then (if (S.1 40 0 26) = 0 then (wbX8_read_146 K x2 x3 x4 v0 S) else (wpX8_fail S (fun S18 => wbX8_read_146 K x2 x3 x4 v0 S18))) else (wbX8_read_146 K x2 x3 x4 v0 S)
set_option maxRecDepth 4000 in
theorem bX8_read_126 {p : Program} {l : Launch} {e : Env} {R : Room} {s : State} {m : MethodId} {args : Array Value} {below : List Frame} {meth : Method} {c : Code} {D : va_G} {ad : Nat → Nat → Nat} {cs : Nat → ClassId} {P : Nat → Nat → Prop} {sz tU : Nat} {adK adV : Nat → Nat} {K : Int32 → St → Prop} {x2 : Int32} {x3 : Int32} {x4 : Int32} {v0 : Int32} {S : St} {H : Heap} {locs : List Loc} {ls : Array Slot} (E : Ex p s m args meth c R RX8 cX8_read 6 (some .int) 67 1575 D ad cs P (wA ad P) tU adK adV cnM) (hw : wbX8_read_126 K x2 x3 x4 v0 S) (hh : wH D ad cs P (wA ad P) s.heap sz S H locs) (hl : lv_has ls 6 [(0, .ref (ad 40 0)), (2, .int x2), (3, .int x3), (4, .int x4)]) : W p l e R s m args below meth c H locs 0 0 (MQ below (va_Qi K (QX D ad cs P sz) (wA ad P)) args s 0 0 (wA ad P)) (F0 m 126 ls [.int v0]) := by
  have hx := E.hx
  have hb := E.hb
  refine lv_istore (lv' := [(5, .int v0), (0, .ref (ad 40 0)), (2, .int x2), (3, .int x3), (4, .int x4)]) hx hb dX8_read_126 hl (by decide) rfl (fun ls hl => ?_)
  refine lv_aload_n hx hb dX8_read_128 rfl (lv_at hl 1 rfl) ?_
  refine g_40_30 E hh tb764 (E.hn 40 0 (by decide)) dX8_read_129 ?_
  refine lv_if_ne (tgt := 146) hx hb dX8_read_132 (by decide) (fun c16 => ?_) (fun c16 => ?_)
  · have hw := ifF hw c16
    exact bX8_read_146 E hw hh (lv_sub hl [2, 3, 4, 0] rfl)
  · have hw := ifT hw c16
    refine lv_aload_n hx hb dX8_read_135 rfl (lv_at hl 1 rfl) ?_
    refine g_40_26 E hh tb760 (E.hn 40 0 (by decide)) dX8_read_136 ?_
    refine lv_if_eq (tgt := 146) hx hb dX8_read_139 (by decide) (fun c17 => ?_) (fun c17 => ?_)
    · have hw := ifT hw c17
      exact bX8_read_146 E hw hh (lv_sub hl [2, 3, 4, 0] rfl)
    · have hw := ifF hw c17
      refine lv_aload_n hx hb dX8_read_142 rfl (lv_at hl 1 rfl) ?_
      refine x_cv E.hA hh (x_runV E hh (mX8_fail E.hI E.hn hw) kX8_fail tb991 (E.hn 40 0 (by decide)) rv_40 ⟨by decide, by decide⟩ rfl hl.1 rfl (Nat.le_of_ble_eq_true rfl) dX8_read_143 ⟨Nat.zero_le _, Nat.zero_le _⟩) (fun S18 H locs hw hh => ?_)
      exact bX8_read_146 E hw hh (lv_sub hl [2, 3, 4, 0] rfl)
def wbX8_read_92 (K : Int32 → St → Prop) (x2 : Int32) (x3 : Int32) (v0 : Int32) (S : St) : Prop := if (S.1 40 0 30) = 0 then (wpX8_isWord 119 97 110 116 115 0 0 0 S (fun r14 S14 => wpX8_part r14 S14 (fun r15 S15 => wbX8_read_126 K x2 x3 v0 r15 S15))) else (wbX8_read_126 K x2 x3 v0 0 S)
set_option maxRecDepth 4000 in
theorem bX8_read_92 {p : Program} {l : Launch} {e : Env} {R : Room} {s : State} {m : MethodId} {args : Array Value} {below : List Frame} {meth : Method} {c : Code} {D : va_G} {ad : Nat → Nat → Nat} {cs : Nat → ClassId} {P : Nat → Nat → Prop} {sz tU : Nat} {adK adV : Nat → Nat} {K : Int32 → St → Prop} {x2 : Int32} {x3 : Int32} {v0 : Int32} {S : St} {H : Heap} {locs : List Loc} {ls : Array Slot} (E : Ex p s m args meth c R RX8 cX8_read 6 (some .int) 67 1575 D ad cs P (wA ad P) tU adK adV cnM) (hw : wbX8_read_92 K x2 x3 v0 S) (hh : wH D ad cs P (wA ad P) s.heap sz S H locs) (hl : lv_has ls 6 [(0, .ref (ad 40 0)), (2, .int x2), (3, .int x3)]) : W p l e R s m args below meth c H locs 0 0 (MQ below (va_Qi K (QX D ad cs P sz) (wA ad P)) args s 0 0 (wA ad P)) (F0 m 92 ls [.int v0]) := by
  have hx := E.hx
  have hb := E.hb
  refine lv_istore (lv' := [(4, .int v0), (0, .ref (ad 40 0)), (2, .int x2), (3, .int x3)]) hx hb dX8_read_92 hl (by decide) rfl (fun ls hl => ?_)
  refine lv_aload_n hx hb dX8_read_94 rfl (lv_at hl 1 rfl) ?_
  refine g_40_30 E hh tb764 (E.hn 40 0 (by decide)) dX8_read_95 ?_
  refine lv_if_eq (tgt := 105) hx hb dX8_read_98 (by decide) (fun c13 => ?_) (fun c13 => ?_)
  · have hw := ifT hw c13
    refine lv_aload_n hx hb dX8_read_105 rfl (lv_at hl 1 rfl) ?_
    refine lv_aload_n hx hb dX8_read_106 rfl (lv_at hl 1 rfl) ?_
    refine lv_bipush (v := 119) hx hb dX8_read_107 (by decide) ?_
    refine lv_bipush (v := 97) hx hb dX8_read_109 (by decide) ?_
    refine lv_bipush (v := 110) hx hb dX8_read_111 (by decide) ?_
    refine lv_bipush (v := 116) hx hb dX8_read_113 (by decide) ?_
    refine lv_bipush (v := 115) hx hb dX8_read_115 (by decide) ?_
    refine lv_iconst (v := 0) hx hb dX8_read_117 (by decide) ?_
    refine lv_iconst (v := 0) hx hb dX8_read_118 (by decide) ?_
    refine lv_iconst (v := 0) hx hb dX8_read_119 (by decide) ?_
    refine x_ci E.hA hh (x_runV E hh (mX8_isWord E.hI E.hn hw) kX8_isWord tb979 (E.hn 40 0 (by decide)) rv_40 ⟨by decide, by decide⟩ rfl hl.1 rfl (Nat.le_of_ble_eq_true rfl) dX8_read_120 ⟨Nat.zero_le _, Nat.zero_le _⟩) (fun r14 S14 H locs hw hh => ?_)
    have hq14 := hw.2
    have hw := hw.1
    refine x_ci E.hA hh (x_runV E hh (mX8_part E.hI E.hn hw) kX8_part tb987 (E.hn 40 0 (by decide)) rv_40 ⟨by decide, by decide⟩ rfl hl.1 rfl (Nat.le_of_ble_eq_true rfl) dX8_read_123 ⟨Nat.zero_le _, Nat.zero_le _⟩) (fun r15 S15 H locs hw hh => ?_)
    exact bX8_read_126 E hw hh (lv_sub hl [1, 2, 3, 0] rfl)
  · have hw := ifF hw c13
    refine lv_iconst (v := 0) hx hb dX8_read_101 (by decide) ?_
    refine lv_goto (tgt := 126) hx hb dX8_read_102 (by decide) ?_
    exact bX8_read_126 E hw hh (lv_sub hl [1, 2, 3, 0] rfl)
def wpX8_read (x1 : Int32) (x2 : Int32) (S : St) (K : Int32 → St → Prop) : Prop := (∀ S1, S1 = su S 40 0 23 (160 * x1) → (vp_in x1 6 ∧ (∀ S3, S3 = su S1 40 0 24 (S1.1 42 0 x1.toNatClampNeg) → (∀ S4, S4 = su S3 40 0 25 0 → (∀ S5, S5 = su S4 40 0 29 0 → (∀ S6, S6 = su S5 40 0 30 0 → wpX8_next S6 (fun S7 => wpX8_isWord 116 97 107 101 115 0 0 0 S7 (fun r8 S8 => wpX8_part r8 S8 (fun r9 S9 => if (S9.1 40 0 30) = 0 then (wpX8_isWord 119 111 114 116 104 0 0 0 S9 (fun r11 S11 => wpX8_part r11 S11 (fun r12 S12 => wbX8_read_92 K x2 r9 r12 S12))) else (wbX8_read_92 K x2 r9 0 S9))))))))))
set_option maxRecDepth 4000 in
theorem bX8_read {p : Program} {l : Launch} {e : Env} {R : Room} {s : State} {m : MethodId} {args : Array Value} {below : List Frame} {meth : Method} {c : Code} {D : va_G} {ad : Nat → Nat → Nat} {cs : Nat → ClassId} {P : Nat → Nat → Prop} {sz tU : Nat} {adK adV : Nat → Nat} {K : Int32 → St → Prop} {x1 : Int32} {x2 : Int32} {S : St} {H : Heap} {locs : List Loc} {ls : Array Slot} (E : Ex p s m args meth c R RX8 cX8_read 6 (some .int) 67 1575 D ad cs P (wA ad P) tU adK adV cnM) (hw : wpX8_read x1 x2 S K) (hh : wH D ad cs P (wA ad P) s.heap sz S H locs) (hl : lv_has ls 6 [(0, .ref (ad 40 0)), (1, .int x1), (2, .int x2)]) : W p l e R s m args below meth c H locs 0 0 (MQ below (va_Qi K (QX D ad cs P sz) (wA ad P)) args s 0 0 (wA ad P)) (F0 m 0 ls []) := by
  have hx := E.hx
  have hb := E.hb
  refine lv_aload_n hx hb dX8_read_0 rfl (lv_at hl 0 rfl) ?_
  refine lv_sipush (v := 160) hx hb dX8_read_1 (by decide) ?_
  refine lv_iload_n hx hb dX8_read_4 rfl (lv_at hl 1 rfl) ?_
  refine lv_imul hx hb dX8_read_5 ?_
  refine p_40_23 E hh tb757 (E.hn 40 0 (by decide)) dX8_read_6 (fun S1 H locs e1 hh => ?_)
  have hw := hw S1 e1
  refine lv_aload_n hx hb dX8_read_9 rfl (lv_at hl 0 rfl) ?_
  refine lv_aload_n hx hb dX8_read_10 rfl (lv_at hl 0 rfl) ?_
  refine g_40_2 E hh tb736 (E.hn 40 0 (by decide)) dX8_read_11 ?_
  refine lv_iload_n hx hb dX8_read_14 rfl (lv_at hl 1 rfl) ?_
  obtain ⟨hi2, hw⟩ := hw
  refine x_iald E hh (E.hn 42 0 (by decide)) ly_42 hi2 dX8_read_15 ?_
  refine p_40_24 E hh tb758 (E.hn 40 0 (by decide)) dX8_read_16 (fun S3 H locs e3 hh => ?_)
  have hw := hw S3 e3
  refine lv_aload_n hx hb dX8_read_19 rfl (lv_at hl 0 rfl) ?_
  refine lv_iconst (v := 0) hx hb dX8_read_20 (by decide) ?_
  refine p_40_25 E hh tb759 (E.hn 40 0 (by decide)) dX8_read_21 (fun S4 H locs e4 hh => ?_)
  have hw := hw S4 e4
  refine lv_aload_n hx hb dX8_read_24 rfl (lv_at hl 0 rfl) ?_
  refine lv_iconst (v := 0) hx hb dX8_read_25 (by decide) ?_
  refine p_40_29 E hh tb763 (E.hn 40 0 (by decide)) dX8_read_26 (fun S5 H locs e5 hh => ?_)
  have hw := hw S5 e5
  refine lv_aload_n hx hb dX8_read_29 rfl (lv_at hl 0 rfl) ?_
  refine lv_iconst (v := 0) hx hb dX8_read_30 (by decide) ?_
  refine p_40_30 E hh tb764 (E.hn 40 0 (by decide)) rfl rfl dX8_read_31 (fun S6 H locs e6 hh => ?_)
  have hw := hw S6 e6
  refine lv_aload_n hx hb dX8_read_34 rfl (lv_at hl 0 rfl) ?_
  refine x_cv E.hA hh (x_runV E hh (mX8_next E.hI E.hn hw) kX8_next tb966 (E.hn 40 0 (by decide)) rv_40 ⟨by decide, by decide⟩ rfl hl.1 rfl (Nat.le_of_ble_eq_true rfl) dX8_read_35 ⟨Nat.zero_le _, Nat.zero_le _⟩) (fun S7 H locs hw hh => ?_)
  refine lv_aload_n hx hb dX8_read_38 rfl (lv_at hl 0 rfl) ?_
  refine lv_aload_n hx hb dX8_read_39 rfl (lv_at hl 0 rfl) ?_
  refine lv_bipush (v := 116) hx hb dX8_read_40 (by decide) ?_
  refine lv_bipush (v := 97) hx hb dX8_read_42 (by decide) ?_
  refine lv_bipush (v := 107) hx hb dX8_read_44 (by decide) ?_
  refine lv_bipush (v := 101) hx hb dX8_read_46 (by decide) ?_
  refine lv_bipush (v := 115) hx hb dX8_read_48 (by decide) ?_
  refine lv_iconst (v := 0) hx hb dX8_read_50 (by decide) ?_
  refine lv_iconst (v := 0) hx hb dX8_read_51 (by decide) ?_
  refine lv_iconst (v := 0) hx hb dX8_read_52 (by decide) ?_
  refine x_ci E.hA hh (x_runV E hh (mX8_isWord E.hI E.hn hw) kX8_isWord tb979 (E.hn 40 0 (by decide)) rv_40 ⟨by decide, by decide⟩ rfl hl.1 rfl (Nat.le_of_ble_eq_true rfl) dX8_read_53 ⟨Nat.zero_le _, Nat.zero_le _⟩) (fun r8 S8 H locs hw hh => ?_)
  have hq8 := hw.2
  have hw := hw.1
  refine x_ci E.hA hh (x_runV E hh (mX8_part E.hI E.hn hw) kX8_part tb987 (E.hn 40 0 (by decide)) rv_40 ⟨by decide, by decide⟩ rfl hl.1 rfl (Nat.le_of_ble_eq_true rfl) dX8_read_56 ⟨Nat.zero_le _, Nat.zero_le _⟩) (fun r9 S9 H locs hw hh => ?_)
  refine lv_istore_n (lv' := [(3, .int r9), (0, .ref (ad 40 0)), (1, .int x1), (2, .int x2)]) hx hb dX8_read_59 rfl hl (by decide) rfl (fun ls hl => ?_)
  refine lv_aload_n hx hb dX8_read_60 rfl (lv_at hl 1 rfl) ?_
  refine g_40_30 E hh tb764 (E.hn 40 0 (by decide)) dX8_read_61 ?_
  refine lv_if_eq (tgt := 71) hx hb dX8_read_64 (by decide) (fun c10 => ?_) (fun c10 => ?_)
  · have hw := ifT hw c10
    refine lv_aload_n hx hb dX8_read_71 rfl (lv_at hl 1 rfl) ?_
    refine lv_aload_n hx hb dX8_read_72 rfl (lv_at hl 1 rfl) ?_
    refine lv_bipush (v := 119) hx hb dX8_read_73 (by decide) ?_
    refine lv_bipush (v := 111) hx hb dX8_read_75 (by decide) ?_
    refine lv_bipush (v := 114) hx hb dX8_read_77 (by decide) ?_
    refine lv_bipush (v := 116) hx hb dX8_read_79 (by decide) ?_
    refine lv_bipush (v := 104) hx hb dX8_read_81 (by decide) ?_
    refine lv_iconst (v := 0) hx hb dX8_read_83 (by decide) ?_
    refine lv_iconst (v := 0) hx hb dX8_read_84 (by decide) ?_
    refine lv_iconst (v := 0) hx hb dX8_read_85 (by decide) ?_
    refine x_ci E.hA hh (x_runV E hh (mX8_isWord E.hI E.hn hw) kX8_isWord tb979 (E.hn 40 0 (by decide)) rv_40 ⟨by decide, by decide⟩ rfl hl.1 rfl (Nat.le_of_ble_eq_true rfl) dX8_read_86 ⟨Nat.zero_le _, Nat.zero_le _⟩) (fun r11 S11 H locs hw hh => ?_)
    have hq11 := hw.2
    have hw := hw.1
    refine x_ci E.hA hh (x_runV E hh (mX8_part E.hI E.hn hw) kX8_part tb987 (E.hn 40 0 (by decide)) rv_40 ⟨by decide, by decide⟩ rfl hl.1 rfl (Nat.le_of_ble_eq_true rfl) dX8_read_89 ⟨Nat.zero_le _, Nat.zero_le _⟩) (fun r12 S12 H locs hw hh => ?_)
    exact bX8_read_92 E hw hh (lv_sub hl [1, 3, 0] rfl)
  · have hw := ifF hw c10
    refine lv_iconst (v := 0) hx hb dX8_read_67 (by decide) ?_
    refine lv_goto (tgt := 92) hx hb dX8_read_68 (by decide) ?_
    exact bX8_read_92 E hw hh (lv_sub hl [1, 3, 0] rfl)
theorem kX8_read : kI yX8_read cX8_read 6 (some .int) 2 := ⟨tb964, ts31, tb15, tb965, by decide, by decide, by decide +kernel⟩
theorem mX8_read {l : Launch} {D : va_G} {ad : Nat → Nat → Nat} {cs : Nat → ClassId} {P : Nat → Nat → Prop} {sz tU : Nat} {adK adV : Nat → Nat} {x1 : Int32} {x2 : Int32} {S : St} {K : Int32 → St → Prop} (hI : wI ad P) (hn : ∀ kd i, i < cnM kd → P kd i) (hw : wpX8_read x1 x2 S K) : MI l yX8_read cX8_read 6 (some .int) 67 1575 D ad cs P sz tU adK adV [.ref (ad 40 0), .int x1, .int x2] S K :=
  Met_of (by decide) (Nat.le_of_ble_eq_true rfl) hI hn (fun p e R s m args below meth c ls E hl hh => bX8_read E  hw hh (lv_sub hl [0, 1, 2] rfl))
def wbX8_text_14 (K : Int32 → St → Prop) : Nat → Int32 → St → Prop
  | 0, _, _ => False
  | n + 1, x1, S => if (S.1 40 0 6) ≤ x1 then ((vp_in (S.1 40 0 3) 6 ∧ ∀ S3, S3 = su S 42 0 (S.1 40 0 3).toNatClampNeg (S.1 40 0 6) → (∀ S4, S4 = su S3 40 0 6 0 → wpX8_read (S4.1 40 0 3) 0 S4 (fun r5 S5 => if (S5.1 40 0 30) = 0 then ((∀ S7, S7 = su S5 40 0 3 ((S5.1 40 0 3) + 1) → K ((S7.1 40 0 3) - 1) S7)) else (K ((-100) - (S5.1 40 0 31)) S5))))) else ((vp_in x1 160 ∧ (vp_in ((160 * (S.1 40 0 3)) + x1) 960 ∧ ∀ S9, S9 = su S 41 0 ((160 * (S.1 40 0 3)) + x1).toNatClampNeg (S.1 43 0 x1.toNatClampNeg) → wbX8_text_14 K n (x1 + 1) S9)))
set_option maxRecDepth 4000 in
theorem bX8_text_14 {p : Program} {l : Launch} {e : Env} {R : Room} {s : State} {m : MethodId} {args : Array Value} {below : List Frame} {meth : Method} {c : Code} {D : va_G} {ad : Nat → Nat → Nat} {cs : Nat → ClassId} {P : Nat → Nat → Prop} {sz tU : Nat} {adK adV : Nat → Nat} {K : Int32 → St → Prop} (E : Ex p s m args meth c R RX8 cX8_text 2 (some .int) 68 1600 D ad cs P (wA ad P) tU adK adV cnM) : ∀ (n : Nat) (x1 : Int32) (S : St) (H : Heap) (locs : List Loc) (ls : Array Slot), wbX8_text_14 K n x1 S → wH D ad cs P (wA ad P) s.heap sz S H locs → lv_has ls 2 [(0, .ref (ad 40 0)), (1, .int x1)] → W p l e R s m args below meth c H locs 0 0 (MQ below (va_Qi K (QX D ad cs P sz) (wA ad P)) args s 0 0 (wA ad P)) (F0 m 14 ls []) := by
  have hx := E.hx
  have hb := E.hb
  intro n
  induction n with
  | zero => intro x1 S H locs ls hw hh hl; exact hw.elim
  | succ n ih =>
    intro x1 S H locs ls hw hh hl
    refine lv_iload_n hx hb dX8_text_14 rfl (lv_at hl 1 rfl) ?_
    refine lv_aload_n hx hb dX8_text_15 rfl (lv_at hl 0 rfl) ?_
    refine g_40_6 E hh tb740 (E.hn 40 0 (by decide)) dX8_text_16 ?_
    refine lv_icmp_ge (tgt := 49) hx hb dX8_text_19 (by decide) (fun c2 => ?_) (fun c2 => ?_)
    · have hw := ifT hw c2
      refine lv_aload_n hx hb dX8_text_49 rfl (lv_at hl 0 rfl) ?_
      refine g_40_2 E hh tb736 (E.hn 40 0 (by decide)) dX8_text_50 ?_
      refine lv_aload_n hx hb dX8_text_53 rfl (lv_at hl 0 rfl) ?_
      refine g_40_3 E hh tb737 (E.hn 40 0 (by decide)) dX8_text_54 ?_
      refine lv_aload_n hx hb dX8_text_57 rfl (lv_at hl 0 rfl) ?_
      refine g_40_6 E hh tb740 (E.hn 40 0 (by decide)) dX8_text_58 ?_
      obtain ⟨hi3, hw⟩ := hw
      refine x_iast E hh (E.hn 42 0 (by decide)) ly_42 hi3 dX8_text_61 (fun S3 H locs e3 hh => ?_)
      have hw := hw S3 e3
      refine lv_aload_n hx hb dX8_text_62 rfl (lv_at hl 0 rfl) ?_
      refine lv_iconst (v := 0) hx hb dX8_text_63 (by decide) ?_
      refine p_40_6 E hh tb740 (E.hn 40 0 (by decide)) dX8_text_64 (fun S4 H locs e4 hh => ?_)
      have hw := hw S4 e4
      refine lv_aload_n hx hb dX8_text_67 rfl (lv_at hl 0 rfl) ?_
      refine lv_aload_n hx hb dX8_text_68 rfl (lv_at hl 0 rfl) ?_
      refine g_40_3 E hh tb737 (E.hn 40 0 (by decide)) dX8_text_69 ?_
      refine lv_iconst (v := 0) hx hb dX8_text_72 (by decide) ?_
      refine x_ci E.hA hh (x_runV E hh (mX8_read E.hI E.hn hw) kX8_read tb962 (E.hn 40 0 (by decide)) rv_40 ⟨by decide, by decide⟩ rfl hl.1 rfl (Nat.le_of_ble_eq_true rfl) dX8_text_73 ⟨Nat.zero_le _, Nat.zero_le _⟩) (fun r5 S5 H locs hw hh => ?_)
      refine lv_istore_n (lv' := [(1, .int r5), (0, .ref (ad 40 0))]) hx hb dX8_text_76 rfl hl (by decide) rfl (fun ls hl => ?_)
      refine lv_aload_n hx hb dX8_text_77 rfl (lv_at hl 1 rfl) ?_
      refine g_40_30 E hh tb764 (E.hn 40 0 (by decide)) dX8_text_78 ?_
      refine lv_if_eq (tgt := 92) hx hb dX8_text_81 (by decide) (fun c6 => ?_) (fun c6 => ?_)
      · have hw := ifT hw c6
        refine lv_aload_n hx hb dX8_text_92 rfl (lv_at hl 1 rfl) ?_
        refine lv_dup hx hb dX8_text_93 rfl ?_
        refine g_40_3 E hh tb737 (E.hn 40 0 (by decide)) dX8_text_94 ?_
        refine lv_iconst (v := 1) hx hb dX8_text_97 (by decide) ?_
        refine lv_iadd hx hb dX8_text_98 ?_
        refine p_40_3 E hh tb737 (E.hn 40 0 (by decide)) dX8_text_99 (fun S7 H locs e7 hh => ?_)
        have hw := hw S7 e7
        refine lv_aload_n hx hb dX8_text_102 rfl (lv_at hl 1 rfl) ?_
        refine g_40_3 E hh tb737 (E.hn 40 0 (by decide)) dX8_text_103 ?_
        refine lv_iconst (v := 1) hx hb dX8_text_106 (by decide) ?_
        refine lv_isub hx hb dX8_text_107 ?_
        exact x_iret E hh hw dX8_text_108
      · have hw := ifF hw c6
        refine lv_bipush (v := (-100)) hx hb dX8_text_84 (by decide) ?_
        refine lv_aload_n hx hb dX8_text_86 rfl (lv_at hl 1 rfl) ?_
        refine g_40_31 E hh tb765 (E.hn 40 0 (by decide)) dX8_text_87 ?_
        refine lv_isub hx hb dX8_text_90 ?_
        exact x_iret E hh hw dX8_text_91
    · have hw := ifF hw c2
      refine lv_aload_n hx hb dX8_text_22 rfl (lv_at hl 0 rfl) ?_
      refine g_40_1 E hh tb735 (E.hn 40 0 (by decide)) dX8_text_23 ?_
      refine lv_sipush (v := 160) hx hb dX8_text_26 (by decide) ?_
      refine lv_aload_n hx hb dX8_text_29 rfl (lv_at hl 0 rfl) ?_
      refine g_40_3 E hh tb737 (E.hn 40 0 (by decide)) dX8_text_30 ?_
      refine lv_imul hx hb dX8_text_33 ?_
      refine lv_iload_n hx hb dX8_text_34 rfl (lv_at hl 1 rfl) ?_
      refine lv_iadd hx hb dX8_text_35 ?_
      refine lv_aload_n hx hb dX8_text_36 rfl (lv_at hl 0 rfl) ?_
      refine g_40_5 E hh tb739 (E.hn 40 0 (by decide)) dX8_text_37 ?_
      refine lv_iload_n hx hb dX8_text_40 rfl (lv_at hl 1 rfl) ?_
      obtain ⟨hi8, hw⟩ := hw
      refine x_iald E hh (E.hn 43 0 (by decide)) ly_43 hi8 dX8_text_41 ?_
      obtain ⟨hi9, hw⟩ := hw
      refine x_iast E hh (E.hn 41 0 (by decide)) ly_41 hi9 dX8_text_42 (fun S9 H locs e9 hh => ?_)
      have hw := hw S9 e9
      refine lv_iinc (k := 1) (v := x1 + 1) (lv' := [(1, .int (x1 + 1)), (0, .ref (ad 40 0))]) hx hb dX8_text_43 hl rfl rfl (by decide) rfl (fun ls hl => ?_)
      refine lv_goto (tgt := 14) hx hb dX8_text_46 (by decide) ?_
      exact ih (x1 + 1) S9 _ _ _ hw hh (lv_sub hl [1, 0] rfl)
def wpX8_text (S : St) (K : Int32 → St → Prop) : Prop := if (S.1 40 0 3) = 6 then (K (-4) S) else (∃ k, wbX8_text_14 K k 0 S)
set_option maxRecDepth 4000 in
theorem bX8_text {p : Program} {l : Launch} {e : Env} {R : Room} {s : State} {m : MethodId} {args : Array Value} {below : List Frame} {meth : Method} {c : Code} {D : va_G} {ad : Nat → Nat → Nat} {cs : Nat → ClassId} {P : Nat → Nat → Prop} {sz tU : Nat} {adK adV : Nat → Nat} {K : Int32 → St → Prop} {S : St} {H : Heap} {locs : List Loc} {ls : Array Slot} (E : Ex p s m args meth c R RX8 cX8_text 2 (some .int) 68 1600 D ad cs P (wA ad P) tU adK adV cnM) (hw : wpX8_text S K) (hh : wH D ad cs P (wA ad P) s.heap sz S H locs) (hl : lv_has ls 2 [(0, .ref (ad 40 0))]) : W p l e R s m args below meth c H locs 0 0 (MQ below (va_Qi K (QX D ad cs P sz) (wA ad P)) args s 0 0 (wA ad P)) (F0 m 0 ls []) := by
  have hx := E.hx
  have hb := E.hb
  refine lv_aload_n hx hb dX8_text_0 rfl (lv_at hl 0 rfl) ?_
  refine g_40_3 E hh tb737 (E.hn 40 0 (by decide)) dX8_text_1 ?_
  refine lv_bipush (v := 6) hx hb dX8_text_4 (by decide) ?_
  refine lv_icmp_ne (tgt := 12) hx hb dX8_text_6 (by decide) (fun c1 => ?_) (fun c1 => ?_)
  · have hw := ifF hw c1
    refine lv_iconst (v := 0) hx hb dX8_text_12 (by decide) ?_
    refine lv_istore_n (lv' := [(1, .int 0), (0, .ref (ad 40 0))]) hx hb dX8_text_13 rfl hl (by decide) rfl (fun ls hl => ?_)
    obtain ⟨k, hw⟩ := hw
    exact bX8_text_14 E k 0 S _ _ _ hw hh (lv_sub hl [1, 0] rfl)
  · have hw := ifT hw c1
    refine lv_bipush (v := (-4)) hx hb dX8_text_9 (by decide) ?_
    exact x_iret E hh hw dX8_text_11
theorem kX8_text : kI yX8_text cX8_text 2 (some .int) 0 := ⟨tb959, tb960, tb15, tb961, by decide, by decide, by decide +kernel⟩
theorem mX8_text {l : Launch} {D : va_G} {ad : Nat → Nat → Nat} {cs : Nat → ClassId} {P : Nat → Nat → Prop} {sz tU : Nat} {adK adV : Nat → Nat} {S : St} {K : Int32 → St → Prop} (hI : wI ad P) (hn : ∀ kd i, i < cnM kd → P kd i) (hw : wpX8_text S K) : MI l yX8_text cX8_text 2 (some .int) 68 1600 D ad cs P sz tU adK adV [.ref (ad 40 0)] S K :=
  Met_of (by decide) (Nat.le_of_ble_eq_true rfl) hI hn (fun p e R s m args below meth c ls E hl hh => bX8_text E  hw hh (lv_sub hl [0] rfl))
def wpX8_force (x1 : Int32) (S : St) (K : Int32 → St → Prop) : Prop := wpX8_in x1.toInt64 0 (((S.1 40 0 3) - 1).toInt64) S (fun r1 S1 => if r1 = 0 then (K (-2) S1) else ((∀ S3, S3 = su S1 40 0 4 x1 → K (S1.1 40 0 4) S3)))
set_option maxRecDepth 4000 in
theorem bX8_force {p : Program} {l : Launch} {e : Env} {R : Room} {s : State} {m : MethodId} {args : Array Value} {below : List Frame} {meth : Method} {c : Code} {D : va_G} {ad : Nat → Nat → Nat} {cs : Nat → ClassId} {P : Nat → Nat → Prop} {sz tU : Nat} {adK adV : Nat → Nat} {K : Int32 → St → Prop} {x1 : Int32} {S : St} {H : Heap} {locs : List Loc} {ls : Array Slot} (E : Ex p s m args meth c R RX8 cX8_force 3 (some .int) 2 85 D ad cs P (wA ad P) tU adK adV cnM) (hw : wpX8_force x1 S K) (hh : wH D ad cs P (wA ad P) s.heap sz S H locs) (hl : lv_has ls 3 [(0, .ref (ad 40 0)), (1, .int x1)]) : W p l e R s m args below meth c H locs 0 0 (MQ below (va_Qi K (QX D ad cs P sz) (wA ad P)) args s 0 0 (wA ad P)) (F0 m 0 ls []) := by
  have hx := E.hx
  have hb := E.hb
  refine lv_iload_n hx hb dX8_force_0 rfl (lv_at hl 1 rfl) ?_
  refine lv_i2l hx hb dX8_force_1 rfl ?_
  refine lv_lconst (v := 0) hx hb dX8_force_2 (by decide) ?_
  refine lv_aload_n hx hb dX8_force_3 rfl (lv_at hl 0 rfl) ?_
  refine g_40_3 E hh tb737 (E.hn 40 0 (by decide)) dX8_force_4 ?_
  refine lv_iconst (v := 1) hx hb dX8_force_7 (by decide) ?_
  refine lv_isub hx hb dX8_force_8 ?_
  refine lv_i2l hx hb dX8_force_9 rfl ?_
  refine x_ci E.hA hh (x_runS E hh (mX8_in E.hI (fun _ _ h => absurd h (Nat.not_lt_zero _)) hw) kX8_in tb914 ⟨by decide, by decide⟩ rfl hl.1 rfl (Nat.le_of_ble_eq_true rfl) dX8_force_10 ⟨Nat.zero_le _, Nat.zero_le _⟩) (fun r1 S1 H locs hw hh => ?_)
  have hq1 := hw.2
  have hw := hw.1
  refine lv_if_ne (tgt := 19) hx hb dX8_force_13 (by decide) (fun c2 => ?_) (fun c2 => ?_)
  · have hw := ifF hw c2
    refine lv_aload_n hx hb dX8_force_19 rfl (lv_at hl 0 rfl) ?_
    refine g_40_4 E hh tb738 (E.hn 40 0 (by decide)) dX8_force_20 ?_
    refine lv_istore_n (lv' := [(2, .int (S1.1 40 0 4)), (0, .ref (ad 40 0)), (1, .int x1)]) hx hb dX8_force_23 rfl hl (by decide) rfl (fun ls hl => ?_)
    refine lv_aload_n hx hb dX8_force_24 rfl (lv_at hl 1 rfl) ?_
    refine lv_iload_n hx hb dX8_force_25 rfl (lv_at hl 2 rfl) ?_
    refine p_40_4 E hh tb738 (E.hn 40 0 (by decide)) dX8_force_26 (fun S3 H locs e3 hh => ?_)
    have hw := hw S3 e3
    refine lv_iload_n hx hb dX8_force_29 rfl (lv_at hl 0 rfl) ?_
    exact x_iret E hh hw dX8_force_30
  · have hw := ifT hw c2
    refine lv_bipush (v := (-2)) hx hb dX8_force_16 (by decide) ?_
    exact x_iret E hh hw dX8_force_18
theorem kX8_force : kI yX8_force cX8_force 3 (some .int) 1 := ⟨tb1034, tb1035, tb15, tb1036, by decide, by decide, by decide +kernel⟩
theorem mX8_force {l : Launch} {D : va_G} {ad : Nat → Nat → Nat} {cs : Nat → ClassId} {P : Nat → Nat → Prop} {sz tU : Nat} {adK adV : Nat → Nat} {x1 : Int32} {S : St} {K : Int32 → St → Prop} (hI : wI ad P) (hn : ∀ kd i, i < cnM kd → P kd i) (hw : wpX8_force x1 S K) : MI l yX8_force cX8_force 3 (some .int) 2 85 D ad cs P sz tU adK adV [.ref (ad 40 0), .int x1] S K :=
  Met_of (by decide) (Nat.le_of_ble_eq_true rfl) hI hn (fun p e R s m args below meth c ls E hl hh => bX8_force E  hw hh (lv_sub hl [0, 1] rfl))
def wpX8_says (x1 : Int32) (x2 : Int32) (x3 : Int32) (x4 : Int32) (S : St) (K : Int32 → St → Prop) : Prop := (vp_in ((4 * x2) + x3) 16 ∧ (∀ S2, S2 = su S 40 0 17 (S.1 44 0 ((4 * x2) + x3).toNatClampNeg) → (vp_in ((4 * x2) + x3) 16 ∧ (∀ S4, S4 = su S2 40 0 18 (S2.1 45 0 ((4 * x2) + x3).toNatClampNeg) → (∀ S5, S5 = su S4 40 0 19 x4 → (∀ S6, S6 = su S5 40 0 20 (S5.1 40 0 16) → (∀ S7, S7 = su S6 40 0 21 x2 → (∀ S8, S8 = su S7 40 0 22 x3 → wpX8_read (S8.1 40 0 4) x1 S8 (fun r9 S9 => K r9 S9)))))))))
set_option maxRecDepth 4000 in
theorem bX8_says {p : Program} {l : Launch} {e : Env} {R : Room} {s : State} {m : MethodId} {args : Array Value} {below : List Frame} {meth : Method} {c : Code} {D : va_G} {ad : Nat → Nat → Nat} {cs : Nat → ClassId} {P : Nat → Nat → Prop} {sz tU : Nat} {adK adV : Nat → Nat} {K : Int32 → St → Prop} {x1 : Int32} {x2 : Int32} {x3 : Int32} {x4 : Int32} {S : St} {H : Heap} {locs : List Loc} {ls : Array Slot} (E : Ex p s m args meth c R RX8 cX8_says 5 (some .int) 68 1600 D ad cs P (wA ad P) tU adK adV cnM) (hw : wpX8_says x1 x2 x3 x4 S K) (hh : wH D ad cs P (wA ad P) s.heap sz S H locs) (hl : lv_has ls 5 [(0, .ref (ad 40 0)), (1, .int x1), (2, .int x2), (3, .int x3), (4, .int x4)]) : W p l e R s m args below meth c H locs 0 0 (MQ below (va_Qi K (QX D ad cs P sz) (wA ad P)) args s 0 0 (wA ad P)) (F0 m 0 ls []) := by
  have hx := E.hx
  have hb := E.hb
  refine lv_aload_n hx hb dX8_says_0 rfl (lv_at hl 0 rfl) ?_
  refine lv_aload_n hx hb dX8_says_1 rfl (lv_at hl 0 rfl) ?_
  refine g_40_9 E hh tb743 (E.hn 40 0 (by decide)) dX8_says_2 ?_
  refine lv_iconst (v := 4) hx hb dX8_says_5 (by decide) ?_
  refine lv_iload_n hx hb dX8_says_6 rfl (lv_at hl 2 rfl) ?_
  refine lv_imul hx hb dX8_says_7 ?_
  refine lv_iload_n hx hb dX8_says_8 rfl (lv_at hl 3 rfl) ?_
  refine lv_iadd hx hb dX8_says_9 ?_
  obtain ⟨hi1, hw⟩ := hw
  refine x_iald E hh (E.hn 44 0 (by decide)) ly_44 hi1 dX8_says_10 ?_
  refine p_40_17 E hh tb751 (E.hn 40 0 (by decide)) dX8_says_11 (fun S2 H locs e2 hh => ?_)
  have hw := hw S2 e2
  refine lv_aload_n hx hb dX8_says_14 rfl (lv_at hl 0 rfl) ?_
  refine lv_aload_n hx hb dX8_says_15 rfl (lv_at hl 0 rfl) ?_
  refine g_40_10 E hh tb744 (E.hn 40 0 (by decide)) dX8_says_16 ?_
  refine lv_iconst (v := 4) hx hb dX8_says_19 (by decide) ?_
  refine lv_iload_n hx hb dX8_says_20 rfl (lv_at hl 2 rfl) ?_
  refine lv_imul hx hb dX8_says_21 ?_
  refine lv_iload_n hx hb dX8_says_22 rfl (lv_at hl 3 rfl) ?_
  refine lv_iadd hx hb dX8_says_23 ?_
  obtain ⟨hi3, hw⟩ := hw
  refine x_iald E hh (E.hn 45 0 (by decide)) ly_45 hi3 dX8_says_24 ?_
  refine p_40_18 E hh tb752 (E.hn 40 0 (by decide)) dX8_says_25 (fun S4 H locs e4 hh => ?_)
  have hw := hw S4 e4
  refine lv_aload_n hx hb dX8_says_28 rfl (lv_at hl 0 rfl) ?_
  refine lv_iload hx hb dX8_says_29 (lv_at hl 4 rfl) ?_
  refine p_40_19 E hh tb753 (E.hn 40 0 (by decide)) dX8_says_31 (fun S5 H locs e5 hh => ?_)
  have hw := hw S5 e5
  refine lv_aload_n hx hb dX8_says_34 rfl (lv_at hl 0 rfl) ?_
  refine lv_aload_n hx hb dX8_says_35 rfl (lv_at hl 0 rfl) ?_
  refine g_40_16 E hh tb750 (E.hn 40 0 (by decide)) dX8_says_36 ?_
  refine p_40_20 E hh tb754 (E.hn 40 0 (by decide)) dX8_says_39 (fun S6 H locs e6 hh => ?_)
  have hw := hw S6 e6
  refine lv_aload_n hx hb dX8_says_42 rfl (lv_at hl 0 rfl) ?_
  refine lv_iload_n hx hb dX8_says_43 rfl (lv_at hl 2 rfl) ?_
  refine p_40_21 E hh tb755 (E.hn 40 0 (by decide)) dX8_says_44 (fun S7 H locs e7 hh => ?_)
  have hw := hw S7 e7
  refine lv_aload_n hx hb dX8_says_47 rfl (lv_at hl 0 rfl) ?_
  refine lv_iload_n hx hb dX8_says_48 rfl (lv_at hl 3 rfl) ?_
  refine p_40_22 E hh tb756 (E.hn 40 0 (by decide)) dX8_says_49 (fun S8 H locs e8 hh => ?_)
  have hw := hw S8 e8
  refine lv_aload_n hx hb dX8_says_52 rfl (lv_at hl 0 rfl) ?_
  refine lv_aload_n hx hb dX8_says_53 rfl (lv_at hl 0 rfl) ?_
  refine g_40_4 E hh tb738 (E.hn 40 0 (by decide)) dX8_says_54 ?_
  refine lv_iload_n hx hb dX8_says_57 rfl (lv_at hl 1 rfl) ?_
  refine x_ci E.hA hh (x_runV E hh (mX8_read E.hI E.hn hw) kX8_read tb962 (E.hn 40 0 (by decide)) rv_40 ⟨by decide, by decide⟩ rfl hl.1 rfl (Nat.le_of_ble_eq_true rfl) dX8_says_58 ⟨Nat.zero_le _, Nat.zero_le _⟩) (fun r9 S9 H locs hw hh => ?_)
  exact x_iret E hh hw dX8_says_61
theorem kX8_says : kI yX8_says cX8_says 5 (some .int) 4 := ⟨tb1047, ts48, tb15, tb1048, by decide, by decide, by decide +kernel⟩
theorem mX8_says {l : Launch} {D : va_G} {ad : Nat → Nat → Nat} {cs : Nat → ClassId} {P : Nat → Nat → Prop} {sz tU : Nat} {adK adV : Nat → Nat} {x1 : Int32} {x2 : Int32} {x3 : Int32} {x4 : Int32} {S : St} {K : Int32 → St → Prop} (hI : wI ad P) (hn : ∀ kd i, i < cnM kd → P kd i) (hw : wpX8_says x1 x2 x3 x4 S K) : MI l yX8_says cX8_says 5 (some .int) 68 1600 D ad cs P sz tU adK adV [.ref (ad 40 0), .int x1, .int x2, .int x3, .int x4] S K :=
  Met_of (by decide) (Nat.le_of_ble_eq_true rfl) hI hn (fun p e R s m args below meth c ls E hl hh => bX8_says E  hw hh (lv_sub hl [0, 1, 2, 3, 4] rfl))
def wbX8_saysNo_30 (K : Int32 → St → Prop) (S : St) : Prop := K 1 S
set_option maxRecDepth 4000 in
theorem bX8_saysNo_30 {p : Program} {l : Launch} {e : Env} {R : Room} {s : State} {m : MethodId} {args : Array Value} {below : List Frame} {meth : Method} {c : Code} {D : va_G} {ad : Nat → Nat → Nat} {cs : Nat → ClassId} {P : Nat → Nat → Prop} {sz tU : Nat} {adK adV : Nat → Nat} {K : Int32 → St → Prop} {S : St} {H : Heap} {locs : List Loc} {ls : Array Slot} (E : Ex p s m args meth c R RX8 cX8_saysNo 4 (some .boolean) 69 1624 D ad cs P (wA ad P) tU adK adV cnM) (hw : wbX8_saysNo_30 K S) (hh : wH D ad cs P (wA ad P) s.heap sz S H locs) (hl : lv_has ls 4 []) : W p l e R s m args below meth c H locs 0 0 (MQ below (va_Qi (fun r S => K r S ∧ narrow .boolean (.int r) = .int r) (QX D ad cs P sz) (wA ad P)) args s 0 0 (wA ad P)) (F0 m 30 ls []) := by
  have hx := E.hx
  have hb := E.hb
  refine lv_iconst (v := 1) hx hb dX8_saysNo_30 (by decide) ?_
  refine lv_goto (tgt := 35) hx hb dX8_saysNo_31 (by decide) ?_
  exact x_zret E hh hw rfl dX8_saysNo_35
def wpX8_saysNo (x1 : Int32) (x2 : Int32) (x3 : Int32) (S : St) (K : Int32 → St → Prop) : Prop := (vp_in ((4 * x1) + x2) 16 ∧ wpX8_refuses x2 (S.1 45 0 ((4 * x1) + x2).toNatClampNeg) x3 S (fun r2 S2 => if r2 = 0 then (wpX8_says 0 x1 x2 x3 S2 (fun r4 S4 => if r4 = 0 then (wbX8_saysNo_30 K S4) else (K 0 S4))) else (wbX8_saysNo_30 K S2)))
set_option maxRecDepth 4000 in
theorem bX8_saysNo {p : Program} {l : Launch} {e : Env} {R : Room} {s : State} {m : MethodId} {args : Array Value} {below : List Frame} {meth : Method} {c : Code} {D : va_G} {ad : Nat → Nat → Nat} {cs : Nat → ClassId} {P : Nat → Nat → Prop} {sz tU : Nat} {adK adV : Nat → Nat} {K : Int32 → St → Prop} {x1 : Int32} {x2 : Int32} {x3 : Int32} {S : St} {H : Heap} {locs : List Loc} {ls : Array Slot} (E : Ex p s m args meth c R RX8 cX8_saysNo 4 (some .boolean) 69 1624 D ad cs P (wA ad P) tU adK adV cnM) (hw : wpX8_saysNo x1 x2 x3 S K) (hh : wH D ad cs P (wA ad P) s.heap sz S H locs) (hl : lv_has ls 4 [(0, .ref (ad 40 0)), (1, .int x1), (2, .int x2), (3, .int x3)]) : W p l e R s m args below meth c H locs 0 0 (MQ below (va_Qi (fun r S => K r S ∧ narrow .boolean (.int r) = .int r) (QX D ad cs P sz) (wA ad P)) args s 0 0 (wA ad P)) (F0 m 0 ls []) := by
  have hx := E.hx
  have hb := E.hb
  refine lv_aload_n hx hb dX8_saysNo_0 rfl (lv_at hl 0 rfl) ?_
  refine lv_iload_n hx hb dX8_saysNo_1 rfl (lv_at hl 2 rfl) ?_
  refine lv_aload_n hx hb dX8_saysNo_2 rfl (lv_at hl 0 rfl) ?_
  refine g_40_10 E hh tb744 (E.hn 40 0 (by decide)) dX8_saysNo_3 ?_
  refine lv_iconst (v := 4) hx hb dX8_saysNo_6 (by decide) ?_
  refine lv_iload_n hx hb dX8_saysNo_7 rfl (lv_at hl 1 rfl) ?_
  refine lv_imul hx hb dX8_saysNo_8 ?_
  refine lv_iload_n hx hb dX8_saysNo_9 rfl (lv_at hl 2 rfl) ?_
  refine lv_iadd hx hb dX8_saysNo_10 ?_
  obtain ⟨hi1, hw⟩ := hw
  refine x_iald E hh (E.hn 45 0 (by decide)) ly_45 hi1 dX8_saysNo_11 ?_
  refine lv_iload_n hx hb dX8_saysNo_12 rfl (lv_at hl 3 rfl) ?_
  refine x_ci E.hA hh (x_runV E hh (mX8_refuses E.hI E.hn hw) kX8_refuses tb1060 (E.hn 40 0 (by decide)) rv_40 ⟨by decide, by decide⟩ rfl hl.1 rfl (Nat.le_of_ble_eq_true rfl) dX8_saysNo_13 ⟨Nat.zero_le _, Nat.zero_le _⟩) (fun r2 S2 H locs hw hh => ?_)
  have hq2 := hw.2
  have hw := hw.1
  refine lv_if_ne (tgt := 30) hx hb dX8_saysNo_16 (by decide) (fun c3 => ?_) (fun c3 => ?_)
  · have hw := ifF hw c3
    exact bX8_saysNo_30 E hw hh (lv_sub hl [] rfl)
  · have hw := ifT hw c3
    refine lv_aload_n hx hb dX8_saysNo_19 rfl (lv_at hl 0 rfl) ?_
    refine lv_iconst (v := 0) hx hb dX8_saysNo_20 (by decide) ?_
    refine lv_iload_n hx hb dX8_saysNo_21 rfl (lv_at hl 1 rfl) ?_
    refine lv_iload_n hx hb dX8_saysNo_22 rfl (lv_at hl 2 rfl) ?_
    refine lv_iload_n hx hb dX8_saysNo_23 rfl (lv_at hl 3 rfl) ?_
    refine x_ci E.hA hh (x_runV E hh (mX8_says E.hI E.hn hw) kX8_says tb1045 (E.hn 40 0 (by decide)) rv_40 ⟨by decide, by decide⟩ rfl hl.1 rfl (Nat.le_of_ble_eq_true rfl) dX8_saysNo_24 ⟨Nat.zero_le _, Nat.zero_le _⟩) (fun r4 S4 H locs hw hh => ?_)
    refine lv_if_ne (tgt := 34) hx hb dX8_saysNo_27 (by decide) (fun c5 => ?_) (fun c5 => ?_)
    · have hw := ifF hw c5
      refine lv_iconst (v := 0) hx hb dX8_saysNo_34 (by decide) ?_
      exact x_zret E hh hw rfl dX8_saysNo_35
    · have hw := ifT hw c5
      exact bX8_saysNo_30 E hw hh (lv_sub hl [] rfl)
theorem kX8_saysNo : kI yX8_saysNo cX8_saysNo 4 (some .boolean) 3 := ⟨tb1058, ts50, tb15, tb1059, by decide, by decide, by decide +kernel⟩
theorem mX8_saysNo {l : Launch} {D : va_G} {ad : Nat → Nat → Nat} {cs : Nat → ClassId} {P : Nat → Nat → Prop} {sz tU : Nat} {adK adV : Nat → Nat} {x1 : Int32} {x2 : Int32} {x3 : Int32} {S : St} {K : Int32 → St → Prop} (hI : wI ad P) (hn : ∀ kd i, i < cnM kd → P kd i) (hw : wpX8_saysNo x1 x2 x3 S K) : MI l yX8_saysNo cX8_saysNo 4 (some .boolean) 69 1624 D ad cs P sz tU adK adV [.ref (ad 40 0), .int x1, .int x2, .int x3] S (fun r S => K r S ∧ narrow .boolean (.int r) = .int r) :=
  Met_of (by decide) (Nat.le_of_ble_eq_true rfl) hI hn (fun p e R s m args below meth c ls E hl hh => bX8_saysNo E  hw hh (lv_sub hl [0, 1, 2, 3] rfl))
def wpX8_mayAsk (x1 : Int32) (x2 : Int32) (S : St) (K : Int32 → St → Prop) : Prop := (vp_in x1 4 ∧ if (S.1 47 0 x1.toNatClampNeg) = (-1) then ((vp_in x2 4 ∧ if (S.1 48 0 x2.toNatClampNeg) = (-1) then ((vp_in x1 4 ∧ wpX8_needs x2 S (fun r6 S6 => if (S.1 46 0 x1.toNatClampNeg) < r6 then (K 0 S6) else (K 1 S6)))) else (K 0 S))) else (K 0 S))
set_option maxRecDepth 4000 in
theorem bX8_mayAsk {p : Program} {l : Launch} {e : Env} {R : Room} {s : State} {m : MethodId} {args : Array Value} {below : List Frame} {meth : Method} {c : Code} {D : va_G} {ad : Nat → Nat → Nat} {cs : Nat → ClassId} {P : Nat → Nat → Prop} {sz tU : Nat} {adK adV : Nat → Nat} {K : Int32 → St → Prop} {x1 : Int32} {x2 : Int32} {S : St} {H : Heap} {locs : List Loc} {ls : Array Slot} (E : Ex p s m args meth c R RX8 cX8_mayAsk 3 (some .boolean) 2 82 D ad cs P (wA ad P) tU adK adV cnM) (hw : wpX8_mayAsk x1 x2 S K) (hh : wH D ad cs P (wA ad P) s.heap sz S H locs) (hl : lv_has ls 3 [(0, .ref (ad 40 0)), (1, .int x1), (2, .int x2)]) : W p l e R s m args below meth c H locs 0 0 (MQ below (va_Qi (fun r S => K r S ∧ narrow .boolean (.int r) = .int r) (QX D ad cs P sz) (wA ad P)) args s 0 0 (wA ad P)) (F0 m 0 ls []) := by
  have hx := E.hx
  have hb := E.hb
  refine lv_aload_n hx hb dX8_mayAsk_0 rfl (lv_at hl 0 rfl) ?_
  refine g_40_12 E hh tb746 (E.hn 40 0 (by decide)) dX8_mayAsk_1 ?_
  refine lv_iload_n hx hb dX8_mayAsk_4 rfl (lv_at hl 1 rfl) ?_
  obtain ⟨hi1, hw⟩ := hw
  refine x_iald E hh (E.hn 47 0 (by decide)) ly_47 hi1 dX8_mayAsk_5 ?_
  refine lv_iconst (v := (-1)) hx hb dX8_mayAsk_6 (by decide) ?_
  refine lv_icmp_ne (tgt := 38) hx hb dX8_mayAsk_7 (by decide) (fun c2 => ?_) (fun c2 => ?_)
  · have hw := ifF hw c2
    refine lv_iconst (v := 0) hx hb dX8_mayAsk_38 (by decide) ?_
    exact x_zret E hh hw rfl dX8_mayAsk_39
  · have hw := ifT hw c2
    refine lv_aload_n hx hb dX8_mayAsk_10 rfl (lv_at hl 0 rfl) ?_
    refine g_40_13 E hh tb747 (E.hn 40 0 (by decide)) dX8_mayAsk_11 ?_
    refine lv_iload_n hx hb dX8_mayAsk_14 rfl (lv_at hl 2 rfl) ?_
    obtain ⟨hi3, hw⟩ := hw
    refine x_iald E hh (E.hn 48 0 (by decide)) ly_48 hi3 dX8_mayAsk_15 ?_
    refine lv_iconst (v := (-1)) hx hb dX8_mayAsk_16 (by decide) ?_
    refine lv_icmp_ne (tgt := 38) hx hb dX8_mayAsk_17 (by decide) (fun c4 => ?_) (fun c4 => ?_)
    · have hw := ifF hw c4
      refine lv_iconst (v := 0) hx hb dX8_mayAsk_38 (by decide) ?_
      exact x_zret E hh hw rfl dX8_mayAsk_39
    · have hw := ifT hw c4
      refine lv_aload_n hx hb dX8_mayAsk_20 rfl (lv_at hl 0 rfl) ?_
      refine g_40_11 E hh tb745 (E.hn 40 0 (by decide)) dX8_mayAsk_21 ?_
      refine lv_iload_n hx hb dX8_mayAsk_24 rfl (lv_at hl 1 rfl) ?_
      obtain ⟨hi5, hw⟩ := hw
      refine x_iald E hh (E.hn 46 0 (by decide)) ly_46 hi5 dX8_mayAsk_25 ?_
      refine lv_aload_n hx hb dX8_mayAsk_26 rfl (lv_at hl 0 rfl) ?_
      refine lv_iload_n hx hb dX8_mayAsk_27 rfl (lv_at hl 2 rfl) ?_
      refine x_ci E.hA hh (x_runV E hh (mX8_needs E.hI E.hn hw) kX8_needs tb945 (E.hn 40 0 (by decide)) rv_40 ⟨by decide, by decide⟩ rfl hl.1 rfl (Nat.le_of_ble_eq_true rfl) dX8_mayAsk_28 ⟨Nat.zero_le _, Nat.zero_le _⟩) (fun r6 S6 H locs hw hh => ?_)
      refine lv_icmp_lt (tgt := 38) hx hb dX8_mayAsk_31 (by decide) (fun c7 => ?_) (fun c7 => ?_)
      · have hw := ifT hw c7
        refine lv_iconst (v := 0) hx hb dX8_mayAsk_38 (by decide) ?_
        exact x_zret E hh hw rfl dX8_mayAsk_39
      · have hw := ifF hw c7
        refine lv_iconst (v := 1) hx hb dX8_mayAsk_34 (by decide) ?_
        refine lv_goto (tgt := 39) hx hb dX8_mayAsk_35 (by decide) ?_
        exact x_zret E hh hw rfl dX8_mayAsk_39
theorem kX8_mayAsk : kI yX8_mayAsk cX8_mayAsk 3 (some .boolean) 2 := ⟨tb1054, ts49, tb15, tb1055, by decide, by decide, by decide +kernel⟩
theorem mX8_mayAsk {l : Launch} {D : va_G} {ad : Nat → Nat → Nat} {cs : Nat → ClassId} {P : Nat → Nat → Prop} {sz tU : Nat} {adK adV : Nat → Nat} {x1 : Int32} {x2 : Int32} {S : St} {K : Int32 → St → Prop} (hI : wI ad P) (hn : ∀ kd i, i < cnM kd → P kd i) (hw : wpX8_mayAsk x1 x2 S K) : MI l yX8_mayAsk cX8_mayAsk 3 (some .boolean) 2 82 D ad cs P sz tU adK adV [.ref (ad 40 0), .int x1, .int x2] S (fun r S => K r S ∧ narrow .boolean (.int r) = .int r) :=
  Met_of (by decide) (Nat.le_of_ble_eq_true rfl) hI hn (fun p e R s m args below meth c ls E hl hh => bX8_mayAsk E  hw hh (lv_sub hl [0, 1, 2] rfl))
def wpX8_worth (x1 : Int32) (x2 : Int32) (S : St) (K : Int32 → St → Prop) : Prop := (vp_in x1 4 ∧ wpX8_says 1 x1 x2 (S.1 46 0 x1.toNatClampNeg) S (fun r2 S2 => wpX8_within r2 0 99 S2 (fun r3 S3 => K r3 S3)))
set_option maxRecDepth 4000 in
theorem bX8_worth {p : Program} {l : Launch} {e : Env} {R : Room} {s : State} {m : MethodId} {args : Array Value} {below : List Frame} {meth : Method} {c : Code} {D : va_G} {ad : Nat → Nat → Nat} {cs : Nat → ClassId} {P : Nat → Nat → Prop} {sz tU : Nat} {adK adV : Nat → Nat} {K : Int32 → St → Prop} {x1 : Int32} {x2 : Int32} {S : St} {H : Heap} {locs : List Loc} {ls : Array Slot} (E : Ex p s m args meth c R RX8 cX8_worth 3 (some .int) 69 1624 D ad cs P (wA ad P) tU adK adV cnM) (hw : wpX8_worth x1 x2 S K) (hh : wH D ad cs P (wA ad P) s.heap sz S H locs) (hl : lv_has ls 3 [(0, .ref (ad 40 0)), (1, .int x1), (2, .int x2)]) : W p l e R s m args below meth c H locs 0 0 (MQ below (va_Qi K (QX D ad cs P sz) (wA ad P)) args s 0 0 (wA ad P)) (F0 m 0 ls []) := by
  have hx := E.hx
  have hb := E.hb
  refine lv_aload_n hx hb dX8_worth_0 rfl (lv_at hl 0 rfl) ?_
  refine lv_iconst (v := 1) hx hb dX8_worth_1 (by decide) ?_
  refine lv_iload_n hx hb dX8_worth_2 rfl (lv_at hl 1 rfl) ?_
  refine lv_iload_n hx hb dX8_worth_3 rfl (lv_at hl 2 rfl) ?_
  refine lv_aload_n hx hb dX8_worth_4 rfl (lv_at hl 0 rfl) ?_
  refine g_40_11 E hh tb745 (E.hn 40 0 (by decide)) dX8_worth_5 ?_
  refine lv_iload_n hx hb dX8_worth_8 rfl (lv_at hl 1 rfl) ?_
  obtain ⟨hi1, hw⟩ := hw
  refine x_iald E hh (E.hn 46 0 (by decide)) ly_46 hi1 dX8_worth_9 ?_
  refine x_ci E.hA hh (x_runV E hh (mX8_says E.hI E.hn hw) kX8_says tb1045 (E.hn 40 0 (by decide)) rv_40 ⟨by decide, by decide⟩ rfl hl.1 rfl (Nat.le_of_ble_eq_true rfl) dX8_worth_10 ⟨Nat.zero_le _, Nat.zero_le _⟩) (fun r2 S2 H locs hw hh => ?_)
  refine lv_iconst (v := 0) hx hb dX8_worth_13 (by decide) ?_
  refine lv_bipush (v := 99) hx hb dX8_worth_14 (by decide) ?_
  refine x_ci E.hA hh (x_runS E hh (mX8_within E.hI (fun _ _ h => absurd h (Nat.not_lt_zero _)) hw) kX8_within tb1049 ⟨by decide, by decide⟩ rfl hl.1 rfl (Nat.le_of_ble_eq_true rfl) dX8_worth_16 ⟨Nat.zero_le _, Nat.zero_le _⟩) (fun r3 S3 H locs hw hh => ?_)
  exact x_iret E hh hw dX8_worth_19
theorem kX8_worth : kI yX8_worth cX8_worth 3 (some .int) 2 := ⟨tb1043, ts47, tb15, tb1044, by decide, by decide, by decide +kernel⟩
theorem mX8_worth {l : Launch} {D : va_G} {ad : Nat → Nat → Nat} {cs : Nat → ClassId} {P : Nat → Nat → Prop} {sz tU : Nat} {adK adV : Nat → Nat} {x1 : Int32} {x2 : Int32} {S : St} {K : Int32 → St → Prop} (hI : wI ad P) (hn : ∀ kd i, i < cnM kd → P kd i) (hw : wpX8_worth x1 x2 S K) : MI l yX8_worth cX8_worth 3 (some .int) 69 1624 D ad cs P sz tU adK adV [.ref (ad 40 0), .int x1, .int x2] S K :=
  Met_of (by decide) (Nat.le_of_ble_eq_true rfl) hI hn (fun p e R s m args below meth c ls E hl hh => bX8_worth E  hw hh (lv_sub hl [0, 1, 2] rfl))
def wpX8_wants (x1 : Int32) (x2 : Int32) (S : St) (K : Int32 → St → Prop) : Prop := (vp_in x1 4 ∧ wpX8_says 2 x1 x2 (S.1 46 0 x1.toNatClampNeg) S (fun r2 S2 => if r2 = 0 then (K 0 S2) else (K 1 S2)))
set_option maxRecDepth 4000 in
theorem bX8_wants {p : Program} {l : Launch} {e : Env} {R : Room} {s : State} {m : MethodId} {args : Array Value} {below : List Frame} {meth : Method} {c : Code} {D : va_G} {ad : Nat → Nat → Nat} {cs : Nat → ClassId} {P : Nat → Nat → Prop} {sz tU : Nat} {adK adV : Nat → Nat} {K : Int32 → St → Prop} {x1 : Int32} {x2 : Int32} {S : St} {H : Heap} {locs : List Loc} {ls : Array Slot} (E : Ex p s m args meth c R RX8 cX8_wants 3 (some .boolean) 69 1624 D ad cs P (wA ad P) tU adK adV cnM) (hw : wpX8_wants x1 x2 S K) (hh : wH D ad cs P (wA ad P) s.heap sz S H locs) (hl : lv_has ls 3 [(0, .ref (ad 40 0)), (1, .int x1), (2, .int x2)]) : W p l e R s m args below meth c H locs 0 0 (MQ below (va_Qi (fun r S => K r S ∧ narrow .boolean (.int r) = .int r) (QX D ad cs P sz) (wA ad P)) args s 0 0 (wA ad P)) (F0 m 0 ls []) := by
  have hx := E.hx
  have hb := E.hb
  refine lv_aload_n hx hb dX8_wants_0 rfl (lv_at hl 0 rfl) ?_
  refine lv_iconst (v := 2) hx hb dX8_wants_1 (by decide) ?_
  refine lv_iload_n hx hb dX8_wants_2 rfl (lv_at hl 1 rfl) ?_
  refine lv_iload_n hx hb dX8_wants_3 rfl (lv_at hl 2 rfl) ?_
  refine lv_aload_n hx hb dX8_wants_4 rfl (lv_at hl 0 rfl) ?_
  refine g_40_11 E hh tb745 (E.hn 40 0 (by decide)) dX8_wants_5 ?_
  refine lv_iload_n hx hb dX8_wants_8 rfl (lv_at hl 1 rfl) ?_
  obtain ⟨hi1, hw⟩ := hw
  refine x_iald E hh (E.hn 46 0 (by decide)) ly_46 hi1 dX8_wants_9 ?_
  refine x_ci E.hA hh (x_runV E hh (mX8_says E.hI E.hn hw) kX8_says tb1045 (E.hn 40 0 (by decide)) rv_40 ⟨by decide, by decide⟩ rfl hl.1 rfl (Nat.le_of_ble_eq_true rfl) dX8_wants_10 ⟨Nat.zero_le _, Nat.zero_le _⟩) (fun r2 S2 H locs hw hh => ?_)
  refine lv_if_eq (tgt := 20) hx hb dX8_wants_13 (by decide) (fun c3 => ?_) (fun c3 => ?_)
  · have hw := ifT hw c3
    refine lv_iconst (v := 0) hx hb dX8_wants_20 (by decide) ?_
    exact x_zret E hh hw rfl dX8_wants_21
  · have hw := ifF hw c3
    refine lv_iconst (v := 1) hx hb dX8_wants_16 (by decide) ?_
    refine lv_goto (tgt := 21) hx hb dX8_wants_17 (by decide) ?_
    exact x_zret E hh hw rfl dX8_wants_21
theorem kX8_wants : kI yX8_wants cX8_wants 3 (some .boolean) 2 := ⟨tb1066, ts52, tb15, tb1067, by decide, by decide, by decide +kernel⟩
theorem mX8_wants {l : Launch} {D : va_G} {ad : Nat → Nat → Nat} {cs : Nat → ClassId} {P : Nat → Nat → Prop} {sz tU : Nat} {adK adV : Nat → Nat} {x1 : Int32} {x2 : Int32} {S : St} {K : Int32 → St → Prop} (hI : wI ad P) (hn : ∀ kd i, i < cnM kd → P kd i) (hw : wpX8_wants x1 x2 S K) : MI l yX8_wants cX8_wants 3 (some .boolean) 69 1624 D ad cs P sz tU adK adV [.ref (ad 40 0), .int x1, .int x2] S (fun r S => K r S ∧ narrow .boolean (.int r) = .int r) :=
  Met_of (by decide) (Nat.le_of_ble_eq_true rfl) hI hn (fun p e R s m args below meth c ls E hl hh => bX8_wants E  hw hh (lv_sub hl [0, 1, 2] rfl))
def wbX8_told_116 (K : Int32 → St → Prop) (v0 : Int32) (S : St) : Prop := if v0 = 0 then (K 0 S) else (K 1 S)
set_option maxRecDepth 4000 in
theorem bX8_told_116 {p : Program} {l : Launch} {e : Env} {R : Room} {s : State} {m : MethodId} {args : Array Value} {below : List Frame} {meth : Method} {c : Code} {D : va_G} {ad : Nat → Nat → Nat} {cs : Nat → ClassId} {P : Nat → Nat → Prop} {sz tU : Nat} {adK adV : Nat → Nat} {K : Int32 → St → Prop} {v0 : Int32} {S : St} {H : Heap} {locs : List Loc} {ls : Array Slot} (E : Ex p s m args meth c R RX8 cX8_told 5 (some .int) 70 1647 D ad cs P (wA ad P) tU adK adV cnM) (hw : wbX8_told_116 K v0 S) (hh : wH D ad cs P (wA ad P) s.heap sz S H locs) (hl : lv_has ls 5 []) : W p l e R s m args below meth c H locs 0 0 (MQ below (va_Qi K (QX D ad cs P sz) (wA ad P)) args s 0 0 (wA ad P)) (F0 m 116 ls [.int v0]) := by
  have hx := E.hx
  have hb := E.hb
  refine lv_istore (lv' := [(4, .int v0)]) hx hb dX8_told_116 hl (by decide) rfl (fun ls hl => ?_)
  refine lv_iload hx hb dX8_told_118 (lv_at hl 0 rfl) ?_
  refine lv_if_eq (tgt := 127) hx hb dX8_told_120 (by decide) (fun c19 => ?_) (fun c19 => ?_)
  · have hw := ifT hw c19
    refine lv_iconst (v := 0) hx hb dX8_told_127 (by decide) ?_
    exact x_iret E hh hw dX8_told_128
  · have hw := ifF hw c19
    refine lv_iconst (v := 1) hx hb dX8_told_123 (by decide) ?_
    refine lv_goto (tgt := 128) hx hb dX8_told_124 (by decide) ?_
    exact x_iret E hh hw dX8_told_128
def wpX8_told (x1 : Int32) (x2 : Int32) (x3 : Int32) (S : St) (K : Int32 → St → Prop) : Prop := wpX8_isMan x1 S (fun r1 S1 => if r1 = 0 then (K (-2) S1) else (wpX8_isMaid x2 S1 (fun r3 S3 => if r3 = 0 then (K (-2) S3) else (wpX8_in x3.toInt64 0 5 S3 (fun r5 S5 => if r5 = 0 then (K (-2) S5) else (if 2 ≤ x3 then (if x3 = 4 then (wpX8_worth x1 x2 S5 (fun r15 S15 => K r15 S15)) else (if x3 = 2 then (wpX8_mayAsk x1 x2 S5 (fun r14 S14 => wbX8_told_116 K r14 S14)) else (if x3 = 3 then ((vp_in x1 4 ∧ wpX8_saysNo x1 x2 (S5.1 46 0 x1.toNatClampNeg) S5 (fun r13 S13 => wbX8_told_116 K r13 S13))) else (wpX8_wants x1 x2 S5 (fun r11 S11 => wbX8_told_116 K r11 S11))))) else (if x3 = 0 then ((vp_in ((4 * x1) + x2) 16 ∧ K (S5.1 44 0 ((4 * x1) + x2).toNatClampNeg) S5)) else ((vp_in ((4 * x1) + x2) 16 ∧ K (S5.1 45 0 ((4 * x1) + x2).toNatClampNeg) S5)))))))))
set_option maxRecDepth 4000 in
theorem bX8_told {p : Program} {l : Launch} {e : Env} {R : Room} {s : State} {m : MethodId} {args : Array Value} {below : List Frame} {meth : Method} {c : Code} {D : va_G} {ad : Nat → Nat → Nat} {cs : Nat → ClassId} {P : Nat → Nat → Prop} {sz tU : Nat} {adK adV : Nat → Nat} {K : Int32 → St → Prop} {x1 : Int32} {x2 : Int32} {x3 : Int32} {S : St} {H : Heap} {locs : List Loc} {ls : Array Slot} (E : Ex p s m args meth c R RX8 cX8_told 5 (some .int) 70 1647 D ad cs P (wA ad P) tU adK adV cnM) (hw : wpX8_told x1 x2 x3 S K) (hh : wH D ad cs P (wA ad P) s.heap sz S H locs) (hl : lv_has ls 5 [(0, .ref (ad 40 0)), (1, .int x1), (2, .int x2), (3, .int x3)]) : W p l e R s m args below meth c H locs 0 0 (MQ below (va_Qi K (QX D ad cs P sz) (wA ad P)) args s 0 0 (wA ad P)) (F0 m 0 ls []) := by
  have hx := E.hx
  have hb := E.hb
  refine lv_aload_n hx hb dX8_told_0 rfl (lv_at hl 0 rfl) ?_
  refine lv_iload_n hx hb dX8_told_1 rfl (lv_at hl 1 rfl) ?_
  refine x_ci E.hA hh (x_runV E hh (mX8_isMan E.hI E.hn hw) kX8_isMan tb926 (E.hn 40 0 (by decide)) rv_40 ⟨by decide, by decide⟩ rfl hl.1 rfl (Nat.le_of_ble_eq_true rfl) dX8_told_2 ⟨Nat.zero_le _, Nat.zero_le _⟩) (fun r1 S1 H locs hw hh => ?_)
  have hq1 := hw.2
  have hw := hw.1
  refine lv_if_eq (tgt := 28) hx hb dX8_told_5 (by decide) (fun c2 => ?_) (fun c2 => ?_)
  · have hw := ifT hw c2
    refine lv_bipush (v := (-2)) hx hb dX8_told_28 (by decide) ?_
    exact x_iret E hh hw dX8_told_30
  · have hw := ifF hw c2
    refine lv_aload_n hx hb dX8_told_8 rfl (lv_at hl 0 rfl) ?_
    refine lv_iload_n hx hb dX8_told_9 rfl (lv_at hl 2 rfl) ?_
    refine x_ci E.hA hh (x_runV E hh (mX8_isMaid E.hI E.hn hw) kX8_isMaid tb930 (E.hn 40 0 (by decide)) rv_40 ⟨by decide, by decide⟩ rfl hl.1 rfl (Nat.le_of_ble_eq_true rfl) dX8_told_10 ⟨Nat.zero_le _, Nat.zero_le _⟩) (fun r3 S3 H locs hw hh => ?_)
    have hq3 := hw.2
    have hw := hw.1
    refine lv_if_eq (tgt := 28) hx hb dX8_told_13 (by decide) (fun c4 => ?_) (fun c4 => ?_)
    · have hw := ifT hw c4
      refine lv_bipush (v := (-2)) hx hb dX8_told_28 (by decide) ?_
      exact x_iret E hh hw dX8_told_30
    · have hw := ifF hw c4
      refine lv_iload_n hx hb dX8_told_16 rfl (lv_at hl 3 rfl) ?_
      refine lv_i2l hx hb dX8_told_17 rfl ?_
      refine lv_lconst (v := 0) hx hb dX8_told_18 (by decide) ?_
      refine lv_ldc2 (v := 5) hx hb E.hown (E.hts _ tb921) dX8_told_19 ?_
      refine x_ci E.hA hh (x_runS E hh (mX8_in E.hI (fun _ _ h => absurd h (Nat.not_lt_zero _)) hw) kX8_in tb914 ⟨by decide, by decide⟩ rfl hl.1 rfl (Nat.le_of_ble_eq_true rfl) dX8_told_22 ⟨Nat.zero_le _, Nat.zero_le _⟩) (fun r5 S5 H locs hw hh => ?_)
      have hq5 := hw.2
      have hw := hw.1
      refine lv_if_ne (tgt := 31) hx hb dX8_told_25 (by decide) (fun c6 => ?_) (fun c6 => ?_)
      · have hw := ifF hw c6
        refine lv_iload_n hx hb dX8_told_31 rfl (lv_at hl 3 rfl) ?_
        refine lv_iconst (v := 2) hx hb dX8_told_32 (by decide) ?_
        refine lv_icmp_ge (tgt := 64) hx hb dX8_told_33 (by decide) (fun c7 => ?_) (fun c7 => ?_)
        · have hw := ifT hw c7
          refine lv_iload_n hx hb dX8_told_64 rfl (lv_at hl 3 rfl) ?_
          refine lv_iconst (v := 4) hx hb dX8_told_65 (by decide) ?_
          refine lv_icmp_ne (tgt := 76) hx hb dX8_told_66 (by decide) (fun c8 => ?_) (fun c8 => ?_)
          · have hw := ifF hw c8
            refine lv_iload_n hx hb dX8_told_76 rfl (lv_at hl 3 rfl) ?_
            refine lv_iconst (v := 2) hx hb dX8_told_77 (by decide) ?_
            refine lv_icmp_ne (tgt := 90) hx hb dX8_told_78 (by decide) (fun c9 => ?_) (fun c9 => ?_)
            · have hw := ifF hw c9
              refine lv_iload_n hx hb dX8_told_90 rfl (lv_at hl 3 rfl) ?_
              refine lv_iconst (v := 3) hx hb dX8_told_91 (by decide) ?_
              refine lv_icmp_ne (tgt := 110) hx hb dX8_told_92 (by decide) (fun c10 => ?_) (fun c10 => ?_)
              · have hw := ifF hw c10
                refine lv_aload_n hx hb dX8_told_110 rfl (lv_at hl 0 rfl) ?_
                refine lv_iload_n hx hb dX8_told_111 rfl (lv_at hl 1 rfl) ?_
                refine lv_iload_n hx hb dX8_told_112 rfl (lv_at hl 2 rfl) ?_
                refine x_ci E.hA hh (x_runV E hh (mX8_wants E.hI E.hn hw) kX8_wants tb1064 (E.hn 40 0 (by decide)) rv_40 ⟨by decide, by decide⟩ rfl hl.1 rfl (Nat.le_of_ble_eq_true rfl) dX8_told_113 ⟨Nat.zero_le _, Nat.zero_le _⟩) (fun r11 S11 H locs hw hh => ?_)
                have hq11 := hw.2
                have hw := hw.1
                exact bX8_told_116 E hw hh (lv_sub hl [] rfl)
              · have hw := ifT hw c10
                refine lv_aload_n hx hb dX8_told_95 rfl (lv_at hl 0 rfl) ?_
                refine lv_iload_n hx hb dX8_told_96 rfl (lv_at hl 1 rfl) ?_
                refine lv_iload_n hx hb dX8_told_97 rfl (lv_at hl 2 rfl) ?_
                refine lv_aload_n hx hb dX8_told_98 rfl (lv_at hl 0 rfl) ?_
                refine g_40_11 E hh tb745 (E.hn 40 0 (by decide)) dX8_told_99 ?_
                refine lv_iload_n hx hb dX8_told_102 rfl (lv_at hl 1 rfl) ?_
                obtain ⟨hi12, hw⟩ := hw
                refine x_iald E hh (E.hn 46 0 (by decide)) ly_46 hi12 dX8_told_103 ?_
                refine x_ci E.hA hh (x_runV E hh (mX8_saysNo E.hI E.hn hw) kX8_saysNo tb1056 (E.hn 40 0 (by decide)) rv_40 ⟨by decide, by decide⟩ rfl hl.1 rfl (Nat.le_of_ble_eq_true rfl) dX8_told_104 ⟨Nat.zero_le _, Nat.zero_le _⟩) (fun r13 S13 H locs hw hh => ?_)
                have hq13 := hw.2
                have hw := hw.1
                refine lv_goto (tgt := 116) hx hb dX8_told_107 (by decide) ?_
                exact bX8_told_116 E hw hh (lv_sub hl [] rfl)
            · have hw := ifT hw c9
              refine lv_aload_n hx hb dX8_told_81 rfl (lv_at hl 0 rfl) ?_
              refine lv_iload_n hx hb dX8_told_82 rfl (lv_at hl 1 rfl) ?_
              refine lv_iload_n hx hb dX8_told_83 rfl (lv_at hl 2 rfl) ?_
              refine x_ci E.hA hh (x_runV E hh (mX8_mayAsk E.hI E.hn hw) kX8_mayAsk tb1052 (E.hn 40 0 (by decide)) rv_40 ⟨by decide, by decide⟩ rfl hl.1 rfl (Nat.le_of_ble_eq_true rfl) dX8_told_84 ⟨Nat.zero_le _, Nat.zero_le _⟩) (fun r14 S14 H locs hw hh => ?_)
              have hq14 := hw.2
              have hw := hw.1
              refine lv_goto (tgt := 116) hx hb dX8_told_87 (by decide) ?_
              exact bX8_told_116 E hw hh (lv_sub hl [] rfl)
          · have hw := ifT hw c8
            refine lv_aload_n hx hb dX8_told_69 rfl (lv_at hl 0 rfl) ?_
            refine lv_iload_n hx hb dX8_told_70 rfl (lv_at hl 1 rfl) ?_
            refine lv_iload_n hx hb dX8_told_71 rfl (lv_at hl 2 rfl) ?_
            refine x_ci E.hA hh (x_runV E hh (mX8_worth E.hI E.hn hw) kX8_worth tb1041 (E.hn 40 0 (by decide)) rv_40 ⟨by decide, by decide⟩ rfl hl.1 rfl (Nat.le_of_ble_eq_true rfl) dX8_told_72 ⟨Nat.zero_le _, Nat.zero_le _⟩) (fun r15 S15 H locs hw hh => ?_)
            exact x_iret E hh hw dX8_told_75
        · have hw := ifF hw c7
          refine lv_iload_n hx hb dX8_told_36 rfl (lv_at hl 3 rfl) ?_
          refine lv_if_ne (tgt := 53) hx hb dX8_told_37 (by decide) (fun c16 => ?_) (fun c16 => ?_)
          · have hw := ifF hw c16
            refine lv_aload_n hx hb dX8_told_53 rfl (lv_at hl 0 rfl) ?_
            refine g_40_10 E hh tb744 (E.hn 40 0 (by decide)) dX8_told_54 ?_
            refine lv_iconst (v := 4) hx hb dX8_told_57 (by decide) ?_
            refine lv_iload_n hx hb dX8_told_58 rfl (lv_at hl 1 rfl) ?_
            refine lv_imul hx hb dX8_told_59 ?_
            refine lv_iload_n hx hb dX8_told_60 rfl (lv_at hl 2 rfl) ?_
            refine lv_iadd hx hb dX8_told_61 ?_
            obtain ⟨hi17, hw⟩ := hw
            refine x_iald E hh (E.hn 45 0 (by decide)) ly_45 hi17 dX8_told_62 ?_
            exact x_iret E hh hw dX8_told_63
          · have hw := ifT hw c16
            refine lv_aload_n hx hb dX8_told_40 rfl (lv_at hl 0 rfl) ?_
            refine g_40_9 E hh tb743 (E.hn 40 0 (by decide)) dX8_told_41 ?_
            refine lv_iconst (v := 4) hx hb dX8_told_44 (by decide) ?_
            refine lv_iload_n hx hb dX8_told_45 rfl (lv_at hl 1 rfl) ?_
            refine lv_imul hx hb dX8_told_46 ?_
            refine lv_iload_n hx hb dX8_told_47 rfl (lv_at hl 2 rfl) ?_
            refine lv_iadd hx hb dX8_told_48 ?_
            obtain ⟨hi18, hw⟩ := hw
            refine x_iald E hh (E.hn 44 0 (by decide)) ly_44 hi18 dX8_told_49 ?_
            refine lv_goto (tgt := 63) hx hb dX8_told_50 (by decide) ?_
            exact x_iret E hh hw dX8_told_63
      · have hw := ifT hw c6
        refine lv_bipush (v := (-2)) hx hb dX8_told_28 (by decide) ?_
        exact x_iret E hh hw dX8_told_30
theorem kX8_told : kI yX8_told cX8_told 5 (some .int) 3 := ⟨tb1038, tb1039, tb15, tb1040, by decide, by decide, by decide +kernel⟩
theorem mX8_told {l : Launch} {D : va_G} {ad : Nat → Nat → Nat} {cs : Nat → ClassId} {P : Nat → Nat → Prop} {sz tU : Nat} {adK adV : Nat → Nat} {x1 : Int32} {x2 : Int32} {x3 : Int32} {S : St} {K : Int32 → St → Prop} (hI : wI ad P) (hn : ∀ kd i, i < cnM kd → P kd i) (hw : wpX8_told x1 x2 x3 S K) : MI l yX8_told cX8_told 5 (some .int) 70 1647 D ad cs P sz tU adK adV [.ref (ad 40 0), .int x1, .int x2, .int x3] S K :=
  Met_of (by decide) (Nat.le_of_ble_eq_true rfl) hI hn (fun p e R s m args below meth c ls E hl hh => bX8_told E  hw hh (lv_sub hl [0, 1, 2, 3] rfl))
def wbX8_answers_57 (K : St → Prop) (v0 : Int32) (v1 : Int32) (S : St) : Prop := (vp_in v1 4 ∧ ∀ S9, S9 = su S 46 0 v1.toNatClampNeg v0 → K S9)
set_option maxRecDepth 4000 in
theorem bX8_answers_57 {p : Program} {l : Launch} {e : Env} {R : Room} {s : State} {m : MethodId} {args : Array Value} {below : List Frame} {meth : Method} {c : Code} {D : va_G} {ad : Nat → Nat → Nat} {cs : Nat → ClassId} {P : Nat → Nat → Prop} {sz tU : Nat} {adK adV : Nat → Nat} {K : St → Prop} {v0 : Int32} {v1 : Int32} {S : St} {H : Heap} {locs : List Loc} {ls : Array Slot} (E : Ex p s m args meth c R RX8 cX8_answers 4 none 1 60 D ad cs P (wA ad P) tU adK adV cnM) (hw : wbX8_answers_57 K v0 v1 S) (hh : wH D ad cs P (wA ad P) s.heap sz S H locs) (hl : lv_has ls 4 []) : W p l e R s m args below meth c H locs 0 0 (MQ below (va_Qv K (QX D ad cs P sz) (wA ad P)) args s 0 0 (wA ad P)) (F0 m 57 ls [.int v0, .int v1, .ref (ad 46 0)]) := by
  have hx := E.hx
  have hb := E.hb
  obtain ⟨hi9, hw⟩ := hw
  refine x_iast E hh (E.hn 46 0 (by decide)) ly_46 hi9 dX8_answers_57 (fun S9 H locs e9 hh => ?_)
  have hw := hw S9 e9
  refine lv_goto (tgt := 75) hx hb dX8_answers_58 (by decide) ?_
  exact x_vret E hh hw dX8_answers_75
def wbX8_answers_21 (K : St → Prop) (x1 : Int32) (x2 : Int32) (x3 : Int32) (v0 : Int32) (S : St) : Prop := (∀ S2, S2 = su S 40 0 16 v0 → if x3 = 0 then ((vp_in x1 4 ∧ ∀ S4, S4 = su S2 47 0 x1.toNatClampNeg x2 → (vp_in x2 4 ∧ ∀ S5, S5 = su S4 48 0 x2.toNatClampNeg x1 → K S5))) else ((vp_in x1 4 ∧ if 9 ≤ (S2.1 46 0 x1.toNatClampNeg) then (wbX8_answers_57 K 9 x1 S2) else ((vp_in x1 4 ∧ wbX8_answers_57 K ((S2.1 46 0 x1.toNatClampNeg) + 1) x1 S2)))))
set_option maxRecDepth 4000 in
theorem bX8_answers_21 {p : Program} {l : Launch} {e : Env} {R : Room} {s : State} {m : MethodId} {args : Array Value} {below : List Frame} {meth : Method} {c : Code} {D : va_G} {ad : Nat → Nat → Nat} {cs : Nat → ClassId} {P : Nat → Nat → Prop} {sz tU : Nat} {adK adV : Nat → Nat} {K : St → Prop} {x1 : Int32} {x2 : Int32} {x3 : Int32} {v0 : Int32} {S : St} {H : Heap} {locs : List Loc} {ls : Array Slot} (E : Ex p s m args meth c R RX8 cX8_answers 4 none 1 60 D ad cs P (wA ad P) tU adK adV cnM) (hw : wbX8_answers_21 K x1 x2 x3 v0 S) (hh : wH D ad cs P (wA ad P) s.heap sz S H locs) (hl : lv_has ls 4 [(0, .ref (ad 40 0)), (1, .int x1), (2, .int x2), (3, .int x3)]) : W p l e R s m args below meth c H locs 0 0 (MQ below (va_Qv K (QX D ad cs P sz) (wA ad P)) args s 0 0 (wA ad P)) (F0 m 21 ls [.int v0, .ref (ad 40 0)]) := by
  have hx := E.hx
  have hb := E.hb
  refine p_40_16 E hh tb750 (E.hn 40 0 (by decide)) dX8_answers_21 (fun S2 H locs e2 hh => ?_)
  have hw := hw S2 e2
  refine lv_iload_n hx hb dX8_answers_24 rfl (lv_at hl 3 rfl) ?_
  refine lv_if_eq (tgt := 61) hx hb dX8_answers_25 (by decide) (fun c3 => ?_) (fun c3 => ?_)
  · have hw := ifT hw c3
    refine lv_aload_n hx hb dX8_answers_61 rfl (lv_at hl 0 rfl) ?_
    refine g_40_12 E hh tb746 (E.hn 40 0 (by decide)) dX8_answers_62 ?_
    refine lv_iload_n hx hb dX8_answers_65 rfl (lv_at hl 1 rfl) ?_
    refine lv_iload_n hx hb dX8_answers_66 rfl (lv_at hl 2 rfl) ?_
    obtain ⟨hi4, hw⟩ := hw
    refine x_iast E hh (E.hn 47 0 (by decide)) ly_47 hi4 dX8_answers_67 (fun S4 H locs e4 hh => ?_)
    have hw := hw S4 e4
    refine lv_aload_n hx hb dX8_answers_68 rfl (lv_at hl 0 rfl) ?_
    refine g_40_13 E hh tb747 (E.hn 40 0 (by decide)) dX8_answers_69 ?_
    refine lv_iload_n hx hb dX8_answers_72 rfl (lv_at hl 2 rfl) ?_
    refine lv_iload_n hx hb dX8_answers_73 rfl (lv_at hl 1 rfl) ?_
    obtain ⟨hi5, hw⟩ := hw
    refine x_iast E hh (E.hn 48 0 (by decide)) ly_48 hi5 dX8_answers_74 (fun S5 H locs e5 hh => ?_)
    have hw := hw S5 e5
    exact x_vret E hh hw dX8_answers_75
  · have hw := ifF hw c3
    refine lv_aload_n hx hb dX8_answers_28 rfl (lv_at hl 0 rfl) ?_
    refine g_40_11 E hh tb745 (E.hn 40 0 (by decide)) dX8_answers_29 ?_
    refine lv_iload_n hx hb dX8_answers_32 rfl (lv_at hl 1 rfl) ?_
    refine lv_aload_n hx hb dX8_answers_33 rfl (lv_at hl 0 rfl) ?_
    refine g_40_11 E hh tb745 (E.hn 40 0 (by decide)) dX8_answers_34 ?_
    refine lv_iload_n hx hb dX8_answers_37 rfl (lv_at hl 1 rfl) ?_
    obtain ⟨hi6, hw⟩ := hw
    refine x_iald E hh (E.hn 46 0 (by decide)) ly_46 hi6 dX8_answers_38 ?_
    refine lv_bipush (v := 9) hx hb dX8_answers_39 (by decide) ?_
    refine lv_icmp_ge (tgt := 55) hx hb dX8_answers_41 (by decide) (fun c7 => ?_) (fun c7 => ?_)
    · have hw := ifT hw c7
      refine lv_bipush (v := 9) hx hb dX8_answers_55 (by decide) ?_
      exact bX8_answers_57 E hw hh (lv_sub hl [] rfl)
    · have hw := ifF hw c7
      refine lv_aload_n hx hb dX8_answers_44 rfl (lv_at hl 0 rfl) ?_
      refine g_40_11 E hh tb745 (E.hn 40 0 (by decide)) dX8_answers_45 ?_
      refine lv_iload_n hx hb dX8_answers_48 rfl (lv_at hl 1 rfl) ?_
      obtain ⟨hi8, hw⟩ := hw
      refine x_iald E hh (E.hn 46 0 (by decide)) ly_46 hi8 dX8_answers_49 ?_
      refine lv_iconst (v := 1) hx hb dX8_answers_50 (by decide) ?_
      refine lv_iadd hx hb dX8_answers_51 ?_
      refine lv_goto (tgt := 57) hx hb dX8_answers_52 (by decide) ?_
      exact bX8_answers_57 E hw hh (lv_sub hl [] rfl)
def wpX8_answers (x1 : Int32) (x2 : Int32) (x3 : Int32) (S : St) (K : St → Prop) : Prop := if 99 ≤ (S.1 40 0 16) then (wbX8_answers_21 K x1 x2 x3 99 S) else (wbX8_answers_21 K x1 x2 x3 ((S.1 40 0 16) + 1) S)
set_option maxRecDepth 4000 in
theorem bX8_answers {p : Program} {l : Launch} {e : Env} {R : Room} {s : State} {m : MethodId} {args : Array Value} {below : List Frame} {meth : Method} {c : Code} {D : va_G} {ad : Nat → Nat → Nat} {cs : Nat → ClassId} {P : Nat → Nat → Prop} {sz tU : Nat} {adK adV : Nat → Nat} {K : St → Prop} {x1 : Int32} {x2 : Int32} {x3 : Int32} {S : St} {H : Heap} {locs : List Loc} {ls : Array Slot} (E : Ex p s m args meth c R RX8 cX8_answers 4 none 1 60 D ad cs P (wA ad P) tU adK adV cnM) (hw : wpX8_answers x1 x2 x3 S K) (hh : wH D ad cs P (wA ad P) s.heap sz S H locs) (hl : lv_has ls 4 [(0, .ref (ad 40 0)), (1, .int x1), (2, .int x2), (3, .int x3)]) : W p l e R s m args below meth c H locs 0 0 (MQ below (va_Qv K (QX D ad cs P sz) (wA ad P)) args s 0 0 (wA ad P)) (F0 m 0 ls []) := by
  have hx := E.hx
  have hb := E.hb
  refine lv_aload_n hx hb dX8_answers_0 rfl (lv_at hl 0 rfl) ?_
  refine lv_aload_n hx hb dX8_answers_1 rfl (lv_at hl 0 rfl) ?_
  refine g_40_16 E hh tb750 (E.hn 40 0 (by decide)) dX8_answers_2 ?_
  refine lv_bipush (v := 99) hx hb dX8_answers_5 (by decide) ?_
  refine lv_icmp_ge (tgt := 19) hx hb dX8_answers_7 (by decide) (fun c1 => ?_) (fun c1 => ?_)
  · have hw := ifT hw c1
    refine lv_bipush (v := 99) hx hb dX8_answers_19 (by decide) ?_
    exact bX8_answers_21 E hw hh (lv_sub hl [0, 1, 2, 3] rfl)
  · have hw := ifF hw c1
    refine lv_aload_n hx hb dX8_answers_10 rfl (lv_at hl 0 rfl) ?_
    refine g_40_16 E hh tb750 (E.hn 40 0 (by decide)) dX8_answers_11 ?_
    refine lv_iconst (v := 1) hx hb dX8_answers_14 (by decide) ?_
    refine lv_iadd hx hb dX8_answers_15 ?_
    refine lv_goto (tgt := 21) hx hb dX8_answers_16 (by decide) ?_
    exact bX8_answers_21 E hw hh (lv_sub hl [0, 1, 2, 3] rfl)
theorem kX8_answers : kI yX8_answers cX8_answers 4 none 3 := ⟨tb1074, ts53, tb15, tb1075, by decide, by decide, by decide +kernel⟩
theorem mX8_answers {l : Launch} {D : va_G} {ad : Nat → Nat → Nat} {cs : Nat → ClassId} {P : Nat → Nat → Prop} {sz tU : Nat} {adK adV : Nat → Nat} {x1 : Int32} {x2 : Int32} {x3 : Int32} {S : St} {K : St → Prop} (hI : wI ad P) (hn : ∀ kd i, i < cnM kd → P kd i) (hw : wpX8_answers x1 x2 x3 S K) : MV l yX8_answers cX8_answers 4 none 1 60 D ad cs P sz tU adK adV [.ref (ad 40 0), .int x1, .int x2, .int x3] S K :=
  Met_of (by decide) (Nat.le_of_ble_eq_true rfl) hI hn (fun p e R s m args below meth c ls E hl hh => bX8_answers E  hw hh (lv_sub hl [0, 1, 2, 3] rfl))
def wpX8_ask (x1 : Int32) (x2 : Int32) (S : St) (K : Int32 → St → Prop) : Prop := wpX8_isMan x1 S (fun r1 S1 => if r1 = 0 then (K (-2) S1) else (wpX8_isMaid x2 S1 (fun r3 S3 => if r3 = 0 then (K (-2) S3) else (wpX8_mayAsk x1 x2 S3 (fun r5 S5 => if r5 = 0 then (K (-3) S5) else ((vp_in x1 4 ∧ wpX8_saysNo x1 x2 (S5.1 46 0 x1.toNatClampNeg) S5 (fun r8 S8 => wpX8_answers x1 x2 r8 S8 (fun S9 => if r8 = 0 then (K 1 S9) else (K 0 S9))))))))))
set_option maxRecDepth 4000 in
theorem bX8_ask {p : Program} {l : Launch} {e : Env} {R : Room} {s : State} {m : MethodId} {args : Array Value} {below : List Frame} {meth : Method} {c : Code} {D : va_G} {ad : Nat → Nat → Nat} {cs : Nat → ClassId} {P : Nat → Nat → Prop} {sz tU : Nat} {adK adV : Nat → Nat} {K : Int32 → St → Prop} {x1 : Int32} {x2 : Int32} {S : St} {H : Heap} {locs : List Loc} {ls : Array Slot} (E : Ex p s m args meth c R RX8 cX8_ask 4 (some .int) 70 1647 D ad cs P (wA ad P) tU adK adV cnM) (hw : wpX8_ask x1 x2 S K) (hh : wH D ad cs P (wA ad P) s.heap sz S H locs) (hl : lv_has ls 4 [(0, .ref (ad 40 0)), (1, .int x1), (2, .int x2)]) : W p l e R s m args below meth c H locs 0 0 (MQ below (va_Qi K (QX D ad cs P sz) (wA ad P)) args s 0 0 (wA ad P)) (F0 m 0 ls []) := by
  have hx := E.hx
  have hb := E.hb
  refine lv_aload_n hx hb dX8_ask_0 rfl (lv_at hl 0 rfl) ?_
  refine lv_iload_n hx hb dX8_ask_1 rfl (lv_at hl 1 rfl) ?_
  refine x_ci E.hA hh (x_runV E hh (mX8_isMan E.hI E.hn hw) kX8_isMan tb926 (E.hn 40 0 (by decide)) rv_40 ⟨by decide, by decide⟩ rfl hl.1 rfl (Nat.le_of_ble_eq_true rfl) dX8_ask_2 ⟨Nat.zero_le _, Nat.zero_le _⟩) (fun r1 S1 H locs hw hh => ?_)
  have hq1 := hw.2
  have hw := hw.1
  refine lv_if_eq (tgt := 16) hx hb dX8_ask_5 (by decide) (fun c2 => ?_) (fun c2 => ?_)
  · have hw := ifT hw c2
    refine lv_bipush (v := (-2)) hx hb dX8_ask_16 (by decide) ?_
    exact x_iret E hh hw dX8_ask_18
  · have hw := ifF hw c2
    refine lv_aload_n hx hb dX8_ask_8 rfl (lv_at hl 0 rfl) ?_
    refine lv_iload_n hx hb dX8_ask_9 rfl (lv_at hl 2 rfl) ?_
    refine x_ci E.hA hh (x_runV E hh (mX8_isMaid E.hI E.hn hw) kX8_isMaid tb930 (E.hn 40 0 (by decide)) rv_40 ⟨by decide, by decide⟩ rfl hl.1 rfl (Nat.le_of_ble_eq_true rfl) dX8_ask_10 ⟨Nat.zero_le _, Nat.zero_le _⟩) (fun r3 S3 H locs hw hh => ?_)
    have hq3 := hw.2
    have hw := hw.1
    refine lv_if_ne (tgt := 19) hx hb dX8_ask_13 (by decide) (fun c4 => ?_) (fun c4 => ?_)
    · have hw := ifF hw c4
      refine lv_aload_n hx hb dX8_ask_19 rfl (lv_at hl 0 rfl) ?_
      refine lv_iload_n hx hb dX8_ask_20 rfl (lv_at hl 1 rfl) ?_
      refine lv_iload_n hx hb dX8_ask_21 rfl (lv_at hl 2 rfl) ?_
      refine x_ci E.hA hh (x_runV E hh (mX8_mayAsk E.hI E.hn hw) kX8_mayAsk tb1052 (E.hn 40 0 (by decide)) rv_40 ⟨by decide, by decide⟩ rfl hl.1 rfl (Nat.le_of_ble_eq_true rfl) dX8_ask_22 ⟨Nat.zero_le _, Nat.zero_le _⟩) (fun r5 S5 H locs hw hh => ?_)
      have hq5 := hw.2
      have hw := hw.1
      refine lv_if_ne (tgt := 31) hx hb dX8_ask_25 (by decide) (fun c6 => ?_) (fun c6 => ?_)
      · have hw := ifF hw c6
        refine lv_aload_n hx hb dX8_ask_31 rfl (lv_at hl 0 rfl) ?_
        refine lv_iload_n hx hb dX8_ask_32 rfl (lv_at hl 1 rfl) ?_
        refine lv_iload_n hx hb dX8_ask_33 rfl (lv_at hl 2 rfl) ?_
        refine lv_aload_n hx hb dX8_ask_34 rfl (lv_at hl 0 rfl) ?_
        refine g_40_11 E hh tb745 (E.hn 40 0 (by decide)) dX8_ask_35 ?_
        refine lv_iload_n hx hb dX8_ask_38 rfl (lv_at hl 1 rfl) ?_
        obtain ⟨hi7, hw⟩ := hw
        refine x_iald E hh (E.hn 46 0 (by decide)) ly_46 hi7 dX8_ask_39 ?_
        refine x_ci E.hA hh (x_runV E hh (mX8_saysNo E.hI E.hn hw) kX8_saysNo tb1056 (E.hn 40 0 (by decide)) rv_40 ⟨by decide, by decide⟩ rfl hl.1 rfl (Nat.le_of_ble_eq_true rfl) dX8_ask_40 ⟨Nat.zero_le _, Nat.zero_le _⟩) (fun r8 S8 H locs hw hh => ?_)
        have hq8 := hw.2
        have hw := hw.1
        refine lv_istore_n (lv' := [(3, .int r8), (0, .ref (ad 40 0)), (1, .int x1), (2, .int x2)]) hx hb dX8_ask_43 rfl hl (by decide) rfl (fun ls hl => ?_)
        refine lv_aload_n hx hb dX8_ask_44 rfl (lv_at hl 1 rfl) ?_
        refine lv_iload_n hx hb dX8_ask_45 rfl (lv_at hl 2 rfl) ?_
        refine lv_iload_n hx hb dX8_ask_46 rfl (lv_at hl 3 rfl) ?_
        refine lv_iload_n hx hb dX8_ask_47 rfl (lv_at hl 0 rfl) ?_
        refine x_cv E.hA hh (x_runV E hh (mX8_answers E.hI E.hn hw) kX8_answers tb1072 (E.hn 40 0 (by decide)) rv_40 ⟨by decide, by decide⟩ rfl hl.1 rfl (Nat.le_of_ble_eq_true rfl) dX8_ask_48 ⟨Nat.zero_le _, Nat.zero_le _⟩) (fun S9 H locs hw hh => ?_)
        refine lv_iload_n hx hb dX8_ask_51 rfl (lv_at hl 0 rfl) ?_
        refine lv_if_eq (tgt := 59) hx hb dX8_ask_52 (by decide) (fun c10 => ?_) (fun c10 => ?_)
        · have hw := ifT hw c10
          refine lv_iconst (v := 1) hx hb dX8_ask_59 (by decide) ?_
          exact x_iret E hh hw dX8_ask_60
        · have hw := ifF hw c10
          refine lv_iconst (v := 0) hx hb dX8_ask_55 (by decide) ?_
          refine lv_goto (tgt := 60) hx hb dX8_ask_56 (by decide) ?_
          exact x_iret E hh hw dX8_ask_60
      · have hw := ifT hw c6
        refine lv_bipush (v := (-3)) hx hb dX8_ask_28 (by decide) ?_
        exact x_iret E hh hw dX8_ask_30
    · have hw := ifT hw c4
      refine lv_bipush (v := (-2)) hx hb dX8_ask_16 (by decide) ?_
      exact x_iret E hh hw dX8_ask_18
theorem kX8_ask : kI yX8_ask cX8_ask 4 (some .int) 2 := ⟨tb1069, tb1070, tb15, tb1071, by decide, by decide, by decide +kernel⟩
theorem mX8_ask {l : Launch} {D : va_G} {ad : Nat → Nat → Nat} {cs : Nat → ClassId} {P : Nat → Nat → Prop} {sz tU : Nat} {adK adV : Nat → Nat} {x1 : Int32} {x2 : Int32} {S : St} {K : Int32 → St → Prop} (hI : wI ad P) (hn : ∀ kd i, i < cnM kd → P kd i) (hw : wpX8_ask x1 x2 S K) : MI l yX8_ask cX8_ask 4 (some .int) 70 1647 D ad cs P sz tU adK adV [.ref (ad 40 0), .int x1, .int x2] S K :=
  Met_of (by decide) (Nat.le_of_ble_eq_true rfl) hI hn (fun p e R s m args below meth c ls E hl hh => bX8_ask E  hw hh (lv_sub hl [0, 1, 2] rfl))
def wpX8_part_ (x1 : Int32) (S : St) (K : Int32 → St → Prop) : Prop := wpX8_isMan x1 S (fun r1 S1 => if r1 = 0 then (K (-2) S1) else ((vp_in x1 4 ∧ if (S1.1 47 0 x1.toNatClampNeg) = (-1) then (K (-3) S1) else ((vp_in x1 4 ∧ (vp_in x1 4 ∧ ∀ S6, S6 = su S1 47 0 x1.toNatClampNeg (-1) → (vp_in (S1.1 47 0 x1.toNatClampNeg) 4 ∧ ∀ S7, S7 = su S6 48 0 (S1.1 47 0 x1.toNatClampNeg).toNatClampNeg (-1) → K (S1.1 47 0 x1.toNatClampNeg) S7)))))))
set_option maxRecDepth 4000 in
theorem bX8_part_ {p : Program} {l : Launch} {e : Env} {R : Room} {s : State} {m : MethodId} {args : Array Value} {below : List Frame} {meth : Method} {c : Code} {D : va_G} {ad : Nat → Nat → Nat} {cs : Nat → ClassId} {P : Nat → Nat → Prop} {sz tU : Nat} {adK adV : Nat → Nat} {K : Int32 → St → Prop} {x1 : Int32} {S : St} {H : Heap} {locs : List Loc} {ls : Array Slot} (E : Ex p s m args meth c R RX8 cX8_part_ 3 (some .int) 3 106 D ad cs P (wA ad P) tU adK adV cnM) (hw : wpX8_part_ x1 S K) (hh : wH D ad cs P (wA ad P) s.heap sz S H locs) (hl : lv_has ls 3 [(0, .ref (ad 40 0)), (1, .int x1)]) : W p l e R s m args below meth c H locs 0 0 (MQ below (va_Qi K (QX D ad cs P sz) (wA ad P)) args s 0 0 (wA ad P)) (F0 m 0 ls []) := by
  have hx := E.hx
  have hb := E.hb
  refine lv_aload_n hx hb dX8_part__0 rfl (lv_at hl 0 rfl) ?_
  refine lv_iload_n hx hb dX8_part__1 rfl (lv_at hl 1 rfl) ?_
  refine x_ci E.hA hh (x_runV E hh (mX8_isMan E.hI E.hn hw) kX8_isMan tb926 (E.hn 40 0 (by decide)) rv_40 ⟨by decide, by decide⟩ rfl hl.1 rfl (Nat.le_of_ble_eq_true rfl) dX8_part__2 ⟨Nat.zero_le _, Nat.zero_le _⟩) (fun r1 S1 H locs hw hh => ?_)
  have hq1 := hw.2
  have hw := hw.1
  refine lv_if_ne (tgt := 11) hx hb dX8_part__5 (by decide) (fun c2 => ?_) (fun c2 => ?_)
  · have hw := ifF hw c2
    refine lv_aload_n hx hb dX8_part__11 rfl (lv_at hl 0 rfl) ?_
    refine g_40_12 E hh tb746 (E.hn 40 0 (by decide)) dX8_part__12 ?_
    refine lv_iload_n hx hb dX8_part__15 rfl (lv_at hl 1 rfl) ?_
    obtain ⟨hi3, hw⟩ := hw
    refine x_iald E hh (E.hn 47 0 (by decide)) ly_47 hi3 dX8_part__16 ?_
    refine lv_iconst (v := (-1)) hx hb dX8_part__17 (by decide) ?_
    refine lv_icmp_ne (tgt := 24) hx hb dX8_part__18 (by decide) (fun c4 => ?_) (fun c4 => ?_)
    · have hw := ifF hw c4
      refine lv_aload_n hx hb dX8_part__24 rfl (lv_at hl 0 rfl) ?_
      refine g_40_12 E hh tb746 (E.hn 40 0 (by decide)) dX8_part__25 ?_
      refine lv_iload_n hx hb dX8_part__28 rfl (lv_at hl 1 rfl) ?_
      obtain ⟨hi5, hw⟩ := hw
      refine x_iald E hh (E.hn 47 0 (by decide)) ly_47 hi5 dX8_part__29 ?_
      refine lv_istore_n (lv' := [(2, .int (S1.1 47 0 x1.toNatClampNeg)), (0, .ref (ad 40 0)), (1, .int x1)]) hx hb dX8_part__30 rfl hl (by decide) rfl (fun ls hl => ?_)
      refine lv_aload_n hx hb dX8_part__31 rfl (lv_at hl 1 rfl) ?_
      refine g_40_12 E hh tb746 (E.hn 40 0 (by decide)) dX8_part__32 ?_
      refine lv_iload_n hx hb dX8_part__35 rfl (lv_at hl 2 rfl) ?_
      refine lv_iconst (v := (-1)) hx hb dX8_part__36 (by decide) ?_
      obtain ⟨hi6, hw⟩ := hw
      refine x_iast E hh (E.hn 47 0 (by decide)) ly_47 hi6 dX8_part__37 (fun S6 H locs e6 hh => ?_)
      have hw := hw S6 e6
      refine lv_aload_n hx hb dX8_part__38 rfl (lv_at hl 1 rfl) ?_
      refine g_40_13 E hh tb747 (E.hn 40 0 (by decide)) dX8_part__39 ?_
      refine lv_iload_n hx hb dX8_part__42 rfl (lv_at hl 0 rfl) ?_
      refine lv_iconst (v := (-1)) hx hb dX8_part__43 (by decide) ?_
      obtain ⟨hi7, hw⟩ := hw
      refine x_iast E hh (E.hn 48 0 (by decide)) ly_48 hi7 dX8_part__44 (fun S7 H locs e7 hh => ?_)
      have hw := hw S7 e7
      refine lv_iload_n hx hb dX8_part__45 rfl (lv_at hl 0 rfl) ?_
      exact x_iret E hh hw dX8_part__46
    · have hw := ifT hw c4
      refine lv_bipush (v := (-3)) hx hb dX8_part__21 (by decide) ?_
      exact x_iret E hh hw dX8_part__23
  · have hw := ifT hw c2
    refine lv_bipush (v := (-2)) hx hb dX8_part__8 (by decide) ?_
    exact x_iret E hh hw dX8_part__10
theorem kX8_part_ : kI yX8_part_ cX8_part_ 3 (some .int) 1 := ⟨tb1077, tb1078, tb15, tb1079, by decide, by decide, by decide +kernel⟩
theorem mX8_part_ {l : Launch} {D : va_G} {ad : Nat → Nat → Nat} {cs : Nat → ClassId} {P : Nat → Nat → Prop} {sz tU : Nat} {adK adV : Nat → Nat} {x1 : Int32} {S : St} {K : Int32 → St → Prop} (hI : wI ad P) (hn : ∀ kd i, i < cnM kd → P kd i) (hw : wpX8_part_ x1 S K) : MI l yX8_part_ cX8_part_ 3 (some .int) 3 106 D ad cs P sz tU adK adV [.ref (ad 40 0), .int x1] S K :=
  Met_of (by decide) (Nat.le_of_ble_eq_true rfl) hI hn (fun p e R s m args below meth c ls E hl hh => bX8_part_ E  hw hh (lv_sub hl [0, 1] rfl))
def wbX8_laysAside_2 (K : St → Prop) : Nat → Int32 → St → Prop
  | 0, _, _ => False
  | n + 1, x1, S => if 4 ≤ x1 then ((∀ S2, S2 = su S 40 0 35 (S.1 40 0 16) → K S2)) else ((vp_in x1 4 ∧ (vp_in x1 4 ∧ ∀ S4, S4 = su S 51 0 x1.toNatClampNeg (S.1 46 0 x1.toNatClampNeg) → (vp_in x1 4 ∧ (vp_in x1 4 ∧ ∀ S6, S6 = su S4 52 0 x1.toNatClampNeg (S4.1 47 0 x1.toNatClampNeg) → (vp_in x1 4 ∧ (vp_in x1 4 ∧ ∀ S8, S8 = su S6 53 0 x1.toNatClampNeg (S6.1 48 0 x1.toNatClampNeg) → wbX8_laysAside_2 K n (x1 + 1) S8)))))))
set_option maxRecDepth 4000 in
theorem bX8_laysAside_2 {p : Program} {l : Launch} {e : Env} {R : Room} {s : State} {m : MethodId} {args : Array Value} {below : List Frame} {meth : Method} {c : Code} {D : va_G} {ad : Nat → Nat → Nat} {cs : Nat → ClassId} {P : Nat → Nat → Prop} {sz tU : Nat} {adK adV : Nat → Nat} {K : St → Prop} (E : Ex p s m args meth c R RX8 cX8_laysAside 2 none 1 60 D ad cs P (wA ad P) tU adK adV cnM) : ∀ (n : Nat) (x1 : Int32) (S : St) (H : Heap) (locs : List Loc) (ls : Array Slot), wbX8_laysAside_2 K n x1 S → wH D ad cs P (wA ad P) s.heap sz S H locs → lv_has ls 2 [(0, .ref (ad 40 0)), (1, .int x1)] → W p l e R s m args below meth c H locs 0 0 (MQ below (va_Qv K (QX D ad cs P sz) (wA ad P)) args s 0 0 (wA ad P)) (F0 m 2 ls []) := by
  have hx := E.hx
  have hb := E.hb
  intro n
  induction n with
  | zero => intro x1 S H locs ls hw hh hl; exact hw.elim
  | succ n ih =>
    intro x1 S H locs ls hw hh hl
    refine lv_iload_n hx hb dX8_laysAside_2 rfl (lv_at hl 1 rfl) ?_
    refine lv_iconst (v := 4) hx hb dX8_laysAside_3 (by decide) ?_
    refine lv_icmp_ge (tgt := 49) hx hb dX8_laysAside_4 (by decide) (fun c1 => ?_) (fun c1 => ?_)
    · have hw := ifT hw c1
      refine lv_aload_n hx hb dX8_laysAside_49 rfl (lv_at hl 0 rfl) ?_
      refine lv_aload_n hx hb dX8_laysAside_50 rfl (lv_at hl 0 rfl) ?_
      refine g_40_16 E hh tb750 (E.hn 40 0 (by decide)) dX8_laysAside_51 ?_
      refine p_40_35 E hh tb769 (E.hn 40 0 (by decide)) dX8_laysAside_54 (fun S2 H locs e2 hh => ?_)
      have hw := hw S2 e2
      exact x_vret E hh hw dX8_laysAside_57
    · have hw := ifF hw c1
      refine lv_aload_n hx hb dX8_laysAside_7 rfl (lv_at hl 0 rfl) ?_
      refine g_40_32 E hh tb766 (E.hn 40 0 (by decide)) dX8_laysAside_8 ?_
      refine lv_iload_n hx hb dX8_laysAside_11 rfl (lv_at hl 1 rfl) ?_
      refine lv_aload_n hx hb dX8_laysAside_12 rfl (lv_at hl 0 rfl) ?_
      refine g_40_11 E hh tb745 (E.hn 40 0 (by decide)) dX8_laysAside_13 ?_
      refine lv_iload_n hx hb dX8_laysAside_16 rfl (lv_at hl 1 rfl) ?_
      obtain ⟨hi3, hw⟩ := hw
      refine x_iald E hh (E.hn 46 0 (by decide)) ly_46 hi3 dX8_laysAside_17 ?_
      obtain ⟨hi4, hw⟩ := hw
      refine x_iast E hh (E.hn 51 0 (by decide)) ly_51 hi4 dX8_laysAside_18 (fun S4 H locs e4 hh => ?_)
      have hw := hw S4 e4
      refine lv_aload_n hx hb dX8_laysAside_19 rfl (lv_at hl 0 rfl) ?_
      refine g_40_33 E hh tb767 (E.hn 40 0 (by decide)) dX8_laysAside_20 ?_
      refine lv_iload_n hx hb dX8_laysAside_23 rfl (lv_at hl 1 rfl) ?_
      refine lv_aload_n hx hb dX8_laysAside_24 rfl (lv_at hl 0 rfl) ?_
      refine g_40_12 E hh tb746 (E.hn 40 0 (by decide)) dX8_laysAside_25 ?_
      refine lv_iload_n hx hb dX8_laysAside_28 rfl (lv_at hl 1 rfl) ?_
      obtain ⟨hi5, hw⟩ := hw
      refine x_iald E hh (E.hn 47 0 (by decide)) ly_47 hi5 dX8_laysAside_29 ?_
      obtain ⟨hi6, hw⟩ := hw
      refine x_iast E hh (E.hn 52 0 (by decide)) ly_52 hi6 dX8_laysAside_30 (fun S6 H locs e6 hh => ?_)
      have hw := hw S6 e6
      refine lv_aload_n hx hb dX8_laysAside_31 rfl (lv_at hl 0 rfl) ?_
      refine g_40_34 E hh tb768 (E.hn 40 0 (by decide)) dX8_laysAside_32 ?_
      refine lv_iload_n hx hb dX8_laysAside_35 rfl (lv_at hl 1 rfl) ?_
      refine lv_aload_n hx hb dX8_laysAside_36 rfl (lv_at hl 0 rfl) ?_
      refine g_40_13 E hh tb747 (E.hn 40 0 (by decide)) dX8_laysAside_37 ?_
      refine lv_iload_n hx hb dX8_laysAside_40 rfl (lv_at hl 1 rfl) ?_
      obtain ⟨hi7, hw⟩ := hw
      refine x_iald E hh (E.hn 48 0 (by decide)) ly_48 hi7 dX8_laysAside_41 ?_
      obtain ⟨hi8, hw⟩ := hw
      refine x_iast E hh (E.hn 53 0 (by decide)) ly_53 hi8 dX8_laysAside_42 (fun S8 H locs e8 hh => ?_)
      have hw := hw S8 e8
      refine lv_iinc (k := 1) (v := x1 + 1) (lv' := [(1, .int (x1 + 1)), (0, .ref (ad 40 0))]) hx hb dX8_laysAside_43 hl rfl rfl (by decide) rfl (fun ls hl => ?_)
      refine lv_goto (tgt := 2) hx hb dX8_laysAside_46 (by decide) ?_
      exact ih (x1 + 1) S8 _ _ _ hw hh (lv_sub hl [1, 0] rfl)
def wpX8_laysAside (S : St) (K : St → Prop) : Prop := ∃ k, wbX8_laysAside_2 K k 0 S
set_option maxRecDepth 4000 in
theorem bX8_laysAside {p : Program} {l : Launch} {e : Env} {R : Room} {s : State} {m : MethodId} {args : Array Value} {below : List Frame} {meth : Method} {c : Code} {D : va_G} {ad : Nat → Nat → Nat} {cs : Nat → ClassId} {P : Nat → Nat → Prop} {sz tU : Nat} {adK adV : Nat → Nat} {K : St → Prop} {S : St} {H : Heap} {locs : List Loc} {ls : Array Slot} (E : Ex p s m args meth c R RX8 cX8_laysAside 2 none 1 60 D ad cs P (wA ad P) tU adK adV cnM) (hw : wpX8_laysAside S K) (hh : wH D ad cs P (wA ad P) s.heap sz S H locs) (hl : lv_has ls 2 [(0, .ref (ad 40 0))]) : W p l e R s m args below meth c H locs 0 0 (MQ below (va_Qv K (QX D ad cs P sz) (wA ad P)) args s 0 0 (wA ad P)) (F0 m 0 ls []) := by
  have hx := E.hx
  have hb := E.hb
  refine lv_iconst (v := 0) hx hb dX8_laysAside_0 (by decide) ?_
  refine lv_istore_n (lv' := [(1, .int 0), (0, .ref (ad 40 0))]) hx hb dX8_laysAside_1 rfl hl (by decide) rfl (fun ls hl => ?_)
  obtain ⟨k, hw⟩ := hw
  exact bX8_laysAside_2 E k 0 S _ _ _ hw hh (lv_sub hl [1, 0] rfl)
theorem kX8_laysAside : kI yX8_laysAside cX8_laysAside 2 none 0 := ⟨tb1143, ts61, tb15, tb1144, by decide, by decide, by decide +kernel⟩
theorem mX8_laysAside {l : Launch} {D : va_G} {ad : Nat → Nat → Nat} {cs : Nat → ClassId} {P : Nat → Nat → Prop} {sz tU : Nat} {adK adV : Nat → Nat} {S : St} {K : St → Prop} (hI : wI ad P) (hn : ∀ kd i, i < cnM kd → P kd i) (hw : wpX8_laysAside S K) : MV l yX8_laysAside cX8_laysAside 2 none 1 60 D ad cs P sz tU adK adV [.ref (ad 40 0)] S K :=
  Met_of (by decide) (Nat.le_of_ble_eq_true rfl) hI hn (fun p e R s m args below meth c ls E hl hh => bX8_laysAside E  hw hh (lv_sub hl [0] rfl))
def wbX8_laysBack_2 (K : St → Prop) : Nat → Int32 → St → Prop
  | 0, _, _ => False
  | n + 1, x1, S => if 4 ≤ x1 then ((∀ S2, S2 = su S 40 0 16 (S.1 40 0 35) → K S2)) else ((vp_in x1 4 ∧ (vp_in x1 4 ∧ ∀ S4, S4 = su S 46 0 x1.toNatClampNeg (S.1 51 0 x1.toNatClampNeg) → (vp_in x1 4 ∧ (vp_in x1 4 ∧ ∀ S6, S6 = su S4 47 0 x1.toNatClampNeg (S4.1 52 0 x1.toNatClampNeg) → (vp_in x1 4 ∧ (vp_in x1 4 ∧ ∀ S8, S8 = su S6 48 0 x1.toNatClampNeg (S6.1 53 0 x1.toNatClampNeg) → wbX8_laysBack_2 K n (x1 + 1) S8)))))))
set_option maxRecDepth 4000 in
theorem bX8_laysBack_2 {p : Program} {l : Launch} {e : Env} {R : Room} {s : State} {m : MethodId} {args : Array Value} {below : List Frame} {meth : Method} {c : Code} {D : va_G} {ad : Nat → Nat → Nat} {cs : Nat → ClassId} {P : Nat → Nat → Prop} {sz tU : Nat} {adK adV : Nat → Nat} {K : St → Prop} (E : Ex p s m args meth c R RX8 cX8_laysBack 2 none 1 60 D ad cs P (wA ad P) tU adK adV cnM) : ∀ (n : Nat) (x1 : Int32) (S : St) (H : Heap) (locs : List Loc) (ls : Array Slot), wbX8_laysBack_2 K n x1 S → wH D ad cs P (wA ad P) s.heap sz S H locs → lv_has ls 2 [(0, .ref (ad 40 0)), (1, .int x1)] → W p l e R s m args below meth c H locs 0 0 (MQ below (va_Qv K (QX D ad cs P sz) (wA ad P)) args s 0 0 (wA ad P)) (F0 m 2 ls []) := by
  have hx := E.hx
  have hb := E.hb
  intro n
  induction n with
  | zero => intro x1 S H locs ls hw hh hl; exact hw.elim
  | succ n ih =>
    intro x1 S H locs ls hw hh hl
    refine lv_iload_n hx hb dX8_laysBack_2 rfl (lv_at hl 1 rfl) ?_
    refine lv_iconst (v := 4) hx hb dX8_laysBack_3 (by decide) ?_
    refine lv_icmp_ge (tgt := 49) hx hb dX8_laysBack_4 (by decide) (fun c1 => ?_) (fun c1 => ?_)
    · have hw := ifT hw c1
      refine lv_aload_n hx hb dX8_laysBack_49 rfl (lv_at hl 0 rfl) ?_
      refine lv_aload_n hx hb dX8_laysBack_50 rfl (lv_at hl 0 rfl) ?_
      refine g_40_35 E hh tb769 (E.hn 40 0 (by decide)) dX8_laysBack_51 ?_
      refine p_40_16 E hh tb750 (E.hn 40 0 (by decide)) dX8_laysBack_54 (fun S2 H locs e2 hh => ?_)
      have hw := hw S2 e2
      exact x_vret E hh hw dX8_laysBack_57
    · have hw := ifF hw c1
      refine lv_aload_n hx hb dX8_laysBack_7 rfl (lv_at hl 0 rfl) ?_
      refine g_40_11 E hh tb745 (E.hn 40 0 (by decide)) dX8_laysBack_8 ?_
      refine lv_iload_n hx hb dX8_laysBack_11 rfl (lv_at hl 1 rfl) ?_
      refine lv_aload_n hx hb dX8_laysBack_12 rfl (lv_at hl 0 rfl) ?_
      refine g_40_32 E hh tb766 (E.hn 40 0 (by decide)) dX8_laysBack_13 ?_
      refine lv_iload_n hx hb dX8_laysBack_16 rfl (lv_at hl 1 rfl) ?_
      obtain ⟨hi3, hw⟩ := hw
      refine x_iald E hh (E.hn 51 0 (by decide)) ly_51 hi3 dX8_laysBack_17 ?_
      obtain ⟨hi4, hw⟩ := hw
      refine x_iast E hh (E.hn 46 0 (by decide)) ly_46 hi4 dX8_laysBack_18 (fun S4 H locs e4 hh => ?_)
      have hw := hw S4 e4
      refine lv_aload_n hx hb dX8_laysBack_19 rfl (lv_at hl 0 rfl) ?_
      refine g_40_12 E hh tb746 (E.hn 40 0 (by decide)) dX8_laysBack_20 ?_
      refine lv_iload_n hx hb dX8_laysBack_23 rfl (lv_at hl 1 rfl) ?_
      refine lv_aload_n hx hb dX8_laysBack_24 rfl (lv_at hl 0 rfl) ?_
      refine g_40_33 E hh tb767 (E.hn 40 0 (by decide)) dX8_laysBack_25 ?_
      refine lv_iload_n hx hb dX8_laysBack_28 rfl (lv_at hl 1 rfl) ?_
      obtain ⟨hi5, hw⟩ := hw
      refine x_iald E hh (E.hn 52 0 (by decide)) ly_52 hi5 dX8_laysBack_29 ?_
      obtain ⟨hi6, hw⟩ := hw
      refine x_iast E hh (E.hn 47 0 (by decide)) ly_47 hi6 dX8_laysBack_30 (fun S6 H locs e6 hh => ?_)
      have hw := hw S6 e6
      refine lv_aload_n hx hb dX8_laysBack_31 rfl (lv_at hl 0 rfl) ?_
      refine g_40_13 E hh tb747 (E.hn 40 0 (by decide)) dX8_laysBack_32 ?_
      refine lv_iload_n hx hb dX8_laysBack_35 rfl (lv_at hl 1 rfl) ?_
      refine lv_aload_n hx hb dX8_laysBack_36 rfl (lv_at hl 0 rfl) ?_
      refine g_40_34 E hh tb768 (E.hn 40 0 (by decide)) dX8_laysBack_37 ?_
      refine lv_iload_n hx hb dX8_laysBack_40 rfl (lv_at hl 1 rfl) ?_
      obtain ⟨hi7, hw⟩ := hw
      refine x_iald E hh (E.hn 53 0 (by decide)) ly_53 hi7 dX8_laysBack_41 ?_
      obtain ⟨hi8, hw⟩ := hw
      refine x_iast E hh (E.hn 48 0 (by decide)) ly_48 hi8 dX8_laysBack_42 (fun S8 H locs e8 hh => ?_)
      have hw := hw S8 e8
      refine lv_iinc (k := 1) (v := x1 + 1) (lv' := [(1, .int (x1 + 1)), (0, .ref (ad 40 0))]) hx hb dX8_laysBack_43 hl rfl rfl (by decide) rfl (fun ls hl => ?_)
      refine lv_goto (tgt := 2) hx hb dX8_laysBack_46 (by decide) ?_
      exact ih (x1 + 1) S8 _ _ _ hw hh (lv_sub hl [1, 0] rfl)
def wpX8_laysBack (S : St) (K : St → Prop) : Prop := ∃ k, wbX8_laysBack_2 K k 0 S
set_option maxRecDepth 4000 in
theorem bX8_laysBack {p : Program} {l : Launch} {e : Env} {R : Room} {s : State} {m : MethodId} {args : Array Value} {below : List Frame} {meth : Method} {c : Code} {D : va_G} {ad : Nat → Nat → Nat} {cs : Nat → ClassId} {P : Nat → Nat → Prop} {sz tU : Nat} {adK adV : Nat → Nat} {K : St → Prop} {S : St} {H : Heap} {locs : List Loc} {ls : Array Slot} (E : Ex p s m args meth c R RX8 cX8_laysBack 2 none 1 60 D ad cs P (wA ad P) tU adK adV cnM) (hw : wpX8_laysBack S K) (hh : wH D ad cs P (wA ad P) s.heap sz S H locs) (hl : lv_has ls 2 [(0, .ref (ad 40 0))]) : W p l e R s m args below meth c H locs 0 0 (MQ below (va_Qv K (QX D ad cs P sz) (wA ad P)) args s 0 0 (wA ad P)) (F0 m 0 ls []) := by
  have hx := E.hx
  have hb := E.hb
  refine lv_iconst (v := 0) hx hb dX8_laysBack_0 (by decide) ?_
  refine lv_istore_n (lv' := [(1, .int 0), (0, .ref (ad 40 0))]) hx hb dX8_laysBack_1 rfl hl (by decide) rfl (fun ls hl => ?_)
  obtain ⟨k, hw⟩ := hw
  exact bX8_laysBack_2 E k 0 S _ _ _ hw hh (lv_sub hl [1, 0] rfl)
theorem kX8_laysBack : kI yX8_laysBack cX8_laysBack 2 none 0 := ⟨tb1147, ts62, tb15, tb1148, by decide, by decide, by decide +kernel⟩
theorem mX8_laysBack {l : Launch} {D : va_G} {ad : Nat → Nat → Nat} {cs : Nat → ClassId} {P : Nat → Nat → Prop} {sz tU : Nat} {adK adV : Nat → Nat} {S : St} {K : St → Prop} (hI : wI ad P) (hn : ∀ kd i, i < cnM kd → P kd i) (hw : wpX8_laysBack S K) : MV l yX8_laysBack cX8_laysBack 2 none 1 60 D ad cs P sz tU adK adV [.ref (ad 40 0)] S K :=
  Met_of (by decide) (Nat.le_of_ble_eq_true rfl) hI hn (fun p e R s m args below meth c ls E hl hh => bX8_laysBack E  hw hh (lv_sub hl [0] rfl))
theorem kX8_lets : kI yX8_lets cX8_lets 10 none 6 := ⟨tb1086, ts54, tb15, tb1087, by decide, by decide, by decide +kernel⟩
def wbX8_lets_210 (F : Nat → Int32 → Int32 → Int32 → Int32 → Int32 → Int32 → St → (St → Prop) → Prop) (R87 : Int32 → St → Prop) (K : St → Prop) (x1 : Int32) (x2 : Int32) (x3 : Int32) (x4 : Int32) (x5 : Int32) (x6 : Int32) (x7 : Int32) (S : St) : Prop := R87 (x7 + 1) S
set_option maxRecDepth 4000 in
theorem bX8_lets_210 {p : Program} {l : Launch} {e : Env} {R : Room} {s : State} {m : MethodId} {args : Array Value} {below : List Frame} {meth : Method} {c : Code} {D : va_G} {ad : Nat → Nat → Nat} {cs : Nat → ClassId} {P : Nat → Nat → Prop} {sz tU : Nat} {adK adV : Nat → Nat} {F : Nat → Int32 → Int32 → Int32 → Int32 → Int32 → Int32 → St → (St → Prop) → Prop} {d : Nat} {R87 : Int32 → St → Prop} {K : St → Prop} {x1 : Int32} {x2 : Int32} {x3 : Int32} {x4 : Int32} {x5 : Int32} {x6 : Int32} {x7 : Int32} {S : St} {H : Heap} {locs : List Loc} {ls : Array Slot} (E : Ex p s m args meth c R RX8 cX8_lets 10 none (70 + (d + 1)) (1647 + 29 * (d + 1)) D ad cs P (wA ad P) tU adK adV cnM) (hF0 : ∀ {x1 : Int32} {x2 : Int32} {x3 : Int32} {x4 : Int32} {x5 : Int32} {x6 : Int32} {S : St} {K : St → Prop}, F 0 x1 x2 x3 x4 x5 x6 S K → MV l yX8_lets cX8_lets 10 none (70 + d) (1647 + 29 * d) D ad cs P sz tU adK adV [.ref (ad 40 0), .int x1, .int x2, .int x3, .int x4, .int x5, .int x6] S K) (hR87 : ∀ (z7 : Int32) (S : St) (H : Heap) (locs : List Loc) (ls : Array Slot), R87 z7 S → wH D ad cs P (wA ad P) s.heap sz S H locs → lv_has ls 10 [(0, .ref (ad 40 0)), (1, .int x1), (2, .int x2), (3, .int x3), (4, .int x4), (5, .int x5), (6, .int x6), (7, .int z7)] → W p l e R s m args below meth c H locs 0 0 (MQ below (va_Qv K (QX D ad cs P sz) (wA ad P)) args s 0 0 (wA ad P)) (F0 m 87 ls [])) (hw : wbX8_lets_210 F R87 K x1 x2 x3 x4 x5 x6 x7 S) (hh : wH D ad cs P (wA ad P) s.heap sz S H locs) (hl : lv_has ls 10 [(0, .ref (ad 40 0)), (1, .int x1), (2, .int x2), (3, .int x3), (4, .int x4), (5, .int x5), (6, .int x6), (7, .int x7)]) : W p l e R s m args below meth c H locs 0 0 (MQ below (va_Qv K (QX D ad cs P sz) (wA ad P)) args s 0 0 (wA ad P)) (F0 m 210 ls []) := by
  have hx := E.hx
  have hb := E.hb
  refine lv_iinc (k := 7) (v := x7 + 1) (lv' := [(7, .int (x7 + 1)), (0, .ref (ad 40 0)), (1, .int x1), (2, .int x2), (3, .int x3), (4, .int x4), (5, .int x5), (6, .int x6)]) hx hb dX8_lets_210 hl rfl rfl (by decide) rfl (fun ls hl => ?_)
  refine lv_goto (tgt := 87) hx hb dX8_lets_213 (by decide) ?_
  exact hR87 (x7 + 1) S _ _ _ hw hh (lv_sub hl [1, 2, 3, 4, 5, 6, 7, 0] rfl)
def wbX8_lets_87 (F : Nat → Int32 → Int32 → Int32 → Int32 → Int32 → Int32 → St → (St → Prop) → Prop) (K : St → Prop) (x1 : Int32) (x2 : Int32) (x3 : Int32) (x4 : Int32) (x5 : Int32) (x6 : Int32) : Nat → Int32 → St → Prop
  | 0, _, _ => False
  | n + 1, x7, S => if (S.1 40 0 8) ≤ x7 then (K S) else (if x7 = x2 then (wbX8_lets_210 F (fun yx7 S9 => wbX8_lets_87 F K x1 x2 x3 x4 x5 x6 n yx7 S9) K x1 x2 x3 x4 x5 x6 x7 S) else (if ((x6 >>> (x7 &&& 31)) &&& 1) = 0 then (wpX8_mayAsk x1 x7 S (fun r12 S12 => if r12 = 0 then (wbX8_lets_210 F (fun yx7 S9 => wbX8_lets_87 F K x1 x2 x3 x4 x5 x6 n yx7 S9) K x1 x2 x3 x4 x5 x6 x7 S12) else ((vp_in x1 4 ∧ wpX8_saysNo x1 x7 (S12.1 46 0 x1.toNatClampNeg) S12 (fun r15 S15 => if r15 = 0 then (wbX8_lets_210 F (fun yx7 S9 => wbX8_lets_87 F K x1 x2 x3 x4 x5 x6 n yx7 S9) K x1 x2 x3 x4 x5 x6 x7 S15) else ((vp_in x1 4 ∧ wpX8_answers x1 x7 1 S15 (fun S18 => (vp_in x4 4 ∧ ∀ S19, S19 = su S18 54 0 x4.toNatClampNeg x7 → wpX8_price x7 S19 (fun r20 S20 => F 0 x1 x2 x3 (x4 + 1) (x5 + r20) (x6 ||| (1 <<< (x7 &&& 31))) S20 (fun S21 => (vp_in x1 4 ∧ ∀ S22, S22 = su S21 46 0 x1.toNatClampNeg (S15.1 46 0 x1.toNatClampNeg) → (∀ S23, S23 = su S22 40 0 16 (S15.1 40 0 16) → wbX8_lets_210 F (fun yx7 S9 => wbX8_lets_87 F K x1 x2 x3 x4 x5 x6 n yx7 S9) K x1 x2 x3 x4 x5 x6 x7 S23))))))))))))) else (wbX8_lets_210 F (fun yx7 S9 => wbX8_lets_87 F K x1 x2 x3 x4 x5 x6 n yx7 S9) K x1 x2 x3 x4 x5 x6 x7 S)))
set_option maxRecDepth 4000 in
theorem bX8_lets_87 {p : Program} {l : Launch} {e : Env} {R : Room} {s : State} {m : MethodId} {args : Array Value} {below : List Frame} {meth : Method} {c : Code} {D : va_G} {ad : Nat → Nat → Nat} {cs : Nat → ClassId} {P : Nat → Nat → Prop} {sz tU : Nat} {adK adV : Nat → Nat} {F : Nat → Int32 → Int32 → Int32 → Int32 → Int32 → Int32 → St → (St → Prop) → Prop} {d : Nat} {K : St → Prop} {x1 : Int32} {x2 : Int32} {x3 : Int32} {x4 : Int32} {x5 : Int32} {x6 : Int32} (E : Ex p s m args meth c R RX8 cX8_lets 10 none (70 + (d + 1)) (1647 + 29 * (d + 1)) D ad cs P (wA ad P) tU adK adV cnM) (hF0 : ∀ {x1 : Int32} {x2 : Int32} {x3 : Int32} {x4 : Int32} {x5 : Int32} {x6 : Int32} {S : St} {K : St → Prop}, F 0 x1 x2 x3 x4 x5 x6 S K → MV l yX8_lets cX8_lets 10 none (70 + d) (1647 + 29 * d) D ad cs P sz tU adK adV [.ref (ad 40 0), .int x1, .int x2, .int x3, .int x4, .int x5, .int x6] S K) : ∀ (n : Nat) (x7 : Int32) (S : St) (H : Heap) (locs : List Loc) (ls : Array Slot), wbX8_lets_87 F K x1 x2 x3 x4 x5 x6 n x7 S → wH D ad cs P (wA ad P) s.heap sz S H locs → lv_has ls 10 [(0, .ref (ad 40 0)), (1, .int x1), (2, .int x2), (3, .int x3), (4, .int x4), (5, .int x5), (6, .int x6), (7, .int x7)] → W p l e R s m args below meth c H locs 0 0 (MQ below (va_Qv K (QX D ad cs P sz) (wA ad P)) args s 0 0 (wA ad P)) (F0 m 87 ls []) := by
  have hx := E.hx
  have hb := E.hb
  intro n
  induction n with
  | zero => intro x7 S H locs ls hw hh hl; exact hw.elim
  | succ n ih =>
    intro x7 S H locs ls hw hh hl
    refine lv_iload hx hb dX8_lets_87 (lv_at hl 7 rfl) ?_
    refine lv_aload_n hx hb dX8_lets_89 rfl (lv_at hl 0 rfl) ?_
    refine g_40_8 E hh tb742 (E.hn 40 0 (by decide)) dX8_lets_90 ?_
    refine lv_icmp_ge (tgt := 216) hx hb dX8_lets_93 (by decide) (fun c9 => ?_) (fun c9 => ?_)
    · have hw := ifT hw c9
      exact x_vret E hh hw dX8_lets_216
    · have hw := ifF hw c9
      refine lv_iload hx hb dX8_lets_96 (lv_at hl 7 rfl) ?_
      refine lv_iload_n hx hb dX8_lets_98 rfl (lv_at hl 2 rfl) ?_
      refine lv_icmp_eq (tgt := 210) hx hb dX8_lets_99 (by decide) (fun c10 => ?_) (fun c10 => ?_)
      · have hw := ifT hw c10
        exact bX8_lets_210 E hF0 ih hw hh (lv_sub hl [0, 1, 2, 3, 4, 5, 6, 7] rfl)
      · have hw := ifF hw c10
        refine lv_iload hx hb dX8_lets_102 (lv_at hl 6 rfl) ?_
        refine lv_iload hx hb dX8_lets_104 (lv_at hl 7 rfl) ?_
        refine lv_ishr hx hb dX8_lets_106 ?_
        refine lv_iconst (v := 1) hx hb dX8_lets_107 (by decide) ?_
        refine lv_iand hx hb dX8_lets_108 ?_
        refine lv_if_ne (tgt := 210) hx hb dX8_lets_109 (by decide) (fun c11 => ?_) (fun c11 => ?_)
        · have hw := ifF hw c11
          exact bX8_lets_210 E hF0 ih hw hh (lv_sub hl [0, 1, 2, 3, 4, 5, 6, 7] rfl)
        · have hw := ifT hw c11
          refine lv_aload_n hx hb dX8_lets_112 rfl (lv_at hl 0 rfl) ?_
          refine lv_iload_n hx hb dX8_lets_113 rfl (lv_at hl 1 rfl) ?_
          refine lv_iload hx hb dX8_lets_114 (lv_at hl 7 rfl) ?_
          refine x_ci E.hA hh (x_runV E hh (mX8_mayAsk E.hI E.hn hw) kX8_mayAsk tb1052 (E.hn 40 0 (by decide)) rv_40 ⟨by omega, by omega⟩ rfl hl.1 rfl (Nat.le_of_ble_eq_true rfl) dX8_lets_116 ⟨Nat.zero_le _, Nat.zero_le _⟩) (fun r12 S12 H locs hw hh => ?_)
          have hq12 := hw.2
          have hw := hw.1
          refine lv_if_eq (tgt := 210) hx hb dX8_lets_119 (by decide) (fun c13 => ?_) (fun c13 => ?_)
          · have hw := ifT hw c13
            exact bX8_lets_210 E hF0 ih hw hh (lv_sub hl [0, 1, 2, 3, 4, 5, 6, 7] rfl)
          · have hw := ifF hw c13
            refine lv_aload_n hx hb dX8_lets_122 rfl (lv_at hl 0 rfl) ?_
            refine lv_iload_n hx hb dX8_lets_123 rfl (lv_at hl 1 rfl) ?_
            refine lv_iload hx hb dX8_lets_124 (lv_at hl 7 rfl) ?_
            refine lv_aload_n hx hb dX8_lets_126 rfl (lv_at hl 0 rfl) ?_
            refine g_40_11 E hh tb745 (E.hn 40 0 (by decide)) dX8_lets_127 ?_
            refine lv_iload_n hx hb dX8_lets_130 rfl (lv_at hl 1 rfl) ?_
            obtain ⟨hi14, hw⟩ := hw
            refine x_iald E hh (E.hn 46 0 (by decide)) ly_46 hi14 dX8_lets_131 ?_
            refine x_ci E.hA hh (x_runV E hh (mX8_saysNo E.hI E.hn hw) kX8_saysNo tb1056 (E.hn 40 0 (by decide)) rv_40 ⟨by omega, by omega⟩ rfl hl.1 rfl (Nat.le_of_ble_eq_true rfl) dX8_lets_132 ⟨Nat.zero_le _, Nat.zero_le _⟩) (fun r15 S15 H locs hw hh => ?_)
            have hq15 := hw.2
            have hw := hw.1
            refine lv_if_eq (tgt := 210) hx hb dX8_lets_135 (by decide) (fun c16 => ?_) (fun c16 => ?_)
            · have hw := ifT hw c16
              exact bX8_lets_210 E hF0 ih hw hh (lv_sub hl [0, 1, 2, 3, 4, 5, 6, 7] rfl)
            · have hw := ifF hw c16
              refine lv_aload_n hx hb dX8_lets_138 rfl (lv_at hl 0 rfl) ?_
              refine g_40_11 E hh tb745 (E.hn 40 0 (by decide)) dX8_lets_139 ?_
              refine lv_iload_n hx hb dX8_lets_142 rfl (lv_at hl 1 rfl) ?_
              obtain ⟨hi17, hw⟩ := hw
              refine x_iald E hh (E.hn 46 0 (by decide)) ly_46 hi17 dX8_lets_143 ?_
              refine lv_istore (lv' := [(8, .int (S15.1 46 0 x1.toNatClampNeg)), (0, .ref (ad 40 0)), (1, .int x1), (2, .int x2), (3, .int x3), (4, .int x4), (5, .int x5), (6, .int x6), (7, .int x7)]) hx hb dX8_lets_144 hl (by decide) rfl (fun ls hl => ?_)
              refine lv_aload_n hx hb dX8_lets_146 rfl (lv_at hl 1 rfl) ?_
              refine g_40_16 E hh tb750 (E.hn 40 0 (by decide)) dX8_lets_147 ?_
              refine lv_istore (lv' := [(9, .int (S15.1 40 0 16)), (8, .int (S15.1 46 0 x1.toNatClampNeg)), (0, .ref (ad 40 0)), (1, .int x1), (2, .int x2), (3, .int x3), (4, .int x4), (5, .int x5), (6, .int x6), (7, .int x7)]) hx hb dX8_lets_150 hl (by decide) rfl (fun ls hl => ?_)
              refine lv_aload_n hx hb dX8_lets_152 rfl (lv_at hl 2 rfl) ?_
              refine lv_iload_n hx hb dX8_lets_153 rfl (lv_at hl 3 rfl) ?_
              refine lv_iload hx hb dX8_lets_154 (lv_at hl 9 rfl) ?_
              refine lv_iconst (v := 1) hx hb dX8_lets_156 (by decide) ?_
              refine x_cv E.hA hh (x_runV E hh (mX8_answers E.hI E.hn hw) kX8_answers tb1072 (E.hn 40 0 (by decide)) rv_40 ⟨by omega, by omega⟩ rfl hl.1 rfl (Nat.le_of_ble_eq_true rfl) dX8_lets_157 ⟨Nat.zero_le _, Nat.zero_le _⟩) (fun S18 H locs hw hh => ?_)
              refine lv_aload_n hx hb dX8_lets_160 rfl (lv_at hl 2 rfl) ?_
              refine g_40_36 E hh tb770 (E.hn 40 0 (by decide)) dX8_lets_161 ?_
              refine lv_iload hx hb dX8_lets_164 (lv_at hl 6 rfl) ?_
              refine lv_iload hx hb dX8_lets_166 (lv_at hl 9 rfl) ?_
              obtain ⟨hi19, hw⟩ := hw
              refine x_iast E hh (E.hn 54 0 (by decide)) ly_54 hi19 dX8_lets_168 (fun S19 H locs e19 hh => ?_)
              have hw := hw S19 e19
              refine lv_aload_n hx hb dX8_lets_169 rfl (lv_at hl 2 rfl) ?_
              refine lv_iload_n hx hb dX8_lets_170 rfl (lv_at hl 3 rfl) ?_
              refine lv_iload_n hx hb dX8_lets_171 rfl (lv_at hl 4 rfl) ?_
              refine lv_iload_n hx hb dX8_lets_172 rfl (lv_at hl 5 rfl) ?_
              refine lv_iload hx hb dX8_lets_173 (lv_at hl 6 rfl) ?_
              refine lv_iconst (v := 1) hx hb dX8_lets_175 (by decide) ?_
              refine lv_iadd hx hb dX8_lets_176 ?_
              refine lv_iload hx hb dX8_lets_177 (lv_at hl 7 rfl) ?_
              refine lv_aload_n hx hb dX8_lets_179 rfl (lv_at hl 2 rfl) ?_
              refine lv_iload hx hb dX8_lets_180 (lv_at hl 9 rfl) ?_
              refine x_ci E.hA hh (x_runV E hh (mX8_price E.hI E.hn hw) kX8_price tb949 (E.hn 40 0 (by decide)) rv_40 ⟨by omega, by omega⟩ rfl hl.1 rfl (Nat.le_of_ble_eq_true rfl) dX8_lets_182 ⟨Nat.zero_le _, Nat.zero_le _⟩) (fun r20 S20 H locs hw hh => ?_)
              refine lv_iadd hx hb dX8_lets_185 ?_
              refine lv_iload hx hb dX8_lets_186 (lv_at hl 8 rfl) ?_
              refine lv_iconst (v := 1) hx hb dX8_lets_188 (by decide) ?_
              refine lv_iload hx hb dX8_lets_189 (lv_at hl 9 rfl) ?_
              refine lv_ishl hx hb dX8_lets_191 ?_
              refine lv_ior hx hb dX8_lets_192 ?_
              refine x_cv E.hA hh (x_runV E hh (hF0 hw) kX8_lets tb1084 (E.hn 40 0 (by decide)) rv_40 ⟨by omega, by omega⟩ rfl hl.1 rfl (Nat.le_of_ble_eq_true rfl) dX8_lets_193 ⟨Nat.zero_le _, Nat.zero_le _⟩) (fun S21 H locs hw hh => ?_)
              refine lv_aload_n hx hb dX8_lets_196 rfl (lv_at hl 2 rfl) ?_
              refine g_40_11 E hh tb745 (E.hn 40 0 (by decide)) dX8_lets_197 ?_
              refine lv_iload_n hx hb dX8_lets_200 rfl (lv_at hl 3 rfl) ?_
              refine lv_iload hx hb dX8_lets_201 (lv_at hl 1 rfl) ?_
              obtain ⟨hi22, hw⟩ := hw
              refine x_iast E hh (E.hn 46 0 (by decide)) ly_46 hi22 dX8_lets_203 (fun S22 H locs e22 hh => ?_)
              have hw := hw S22 e22
              refine lv_aload_n hx hb dX8_lets_204 rfl (lv_at hl 2 rfl) ?_
              refine lv_iload hx hb dX8_lets_205 (lv_at hl 0 rfl) ?_
              refine p_40_16 E hh tb750 (E.hn 40 0 (by decide)) dX8_lets_207 (fun S23 H locs e23 hh => ?_)
              have hw := hw S23 e23
              exact bX8_lets_210 E hF0 ih hw hh (lv_sub hl [2, 3, 4, 5, 6, 7, 8, 9] rfl)
def wbX8_lets_84 (F : Nat → Int32 → Int32 → Int32 → Int32 → Int32 → Int32 → St → (St → Prop) → Prop) (K : St → Prop) (x1 : Int32) (x2 : Int32) (x3 : Int32) (x4 : Int32) (x5 : Int32) (x6 : Int32) (S : St) : Prop := ∃ k, wbX8_lets_87 F K x1 x2 x3 x4 x5 x6 k 0 S
set_option maxRecDepth 4000 in
theorem bX8_lets_84 {p : Program} {l : Launch} {e : Env} {R : Room} {s : State} {m : MethodId} {args : Array Value} {below : List Frame} {meth : Method} {c : Code} {D : va_G} {ad : Nat → Nat → Nat} {cs : Nat → ClassId} {P : Nat → Nat → Prop} {sz tU : Nat} {adK adV : Nat → Nat} {F : Nat → Int32 → Int32 → Int32 → Int32 → Int32 → Int32 → St → (St → Prop) → Prop} {d : Nat} {K : St → Prop} {x1 : Int32} {x2 : Int32} {x3 : Int32} {x4 : Int32} {x5 : Int32} {x6 : Int32} {S : St} {H : Heap} {locs : List Loc} {ls : Array Slot} (E : Ex p s m args meth c R RX8 cX8_lets 10 none (70 + (d + 1)) (1647 + 29 * (d + 1)) D ad cs P (wA ad P) tU adK adV cnM) (hF0 : ∀ {x1 : Int32} {x2 : Int32} {x3 : Int32} {x4 : Int32} {x5 : Int32} {x6 : Int32} {S : St} {K : St → Prop}, F 0 x1 x2 x3 x4 x5 x6 S K → MV l yX8_lets cX8_lets 10 none (70 + d) (1647 + 29 * d) D ad cs P sz tU adK adV [.ref (ad 40 0), .int x1, .int x2, .int x3, .int x4, .int x5, .int x6] S K) (hw : wbX8_lets_84 F K x1 x2 x3 x4 x5 x6 S) (hh : wH D ad cs P (wA ad P) s.heap sz S H locs) (hl : lv_has ls 10 [(0, .ref (ad 40 0)), (1, .int x1), (2, .int x2), (3, .int x3), (4, .int x4), (5, .int x5), (6, .int x6)]) : W p l e R s m args below meth c H locs 0 0 (MQ below (va_Qv K (QX D ad cs P sz) (wA ad P)) args s 0 0 (wA ad P)) (F0 m 84 ls []) := by
  have hx := E.hx
  have hb := E.hb
  refine lv_iconst (v := 0) hx hb dX8_lets_84 (by decide) ?_
  refine lv_istore (lv' := [(7, .int 0), (0, .ref (ad 40 0)), (1, .int x1), (2, .int x2), (3, .int x3), (4, .int x4), (5, .int x5), (6, .int x6)]) hx hb dX8_lets_85 hl (by decide) rfl (fun ls hl => ?_)
  obtain ⟨k, hw⟩ := hw
  exact bX8_lets_87 E hF0 k 0 S _ _ _ hw hh (lv_sub hl [1, 2, 3, 4, 5, 6, 7, 0] rfl)
def wbX8_lets_57 (F : Nat → Int32 → Int32 → Int32 → Int32 → Int32 → Int32 → St → (St → Prop) → Prop) (K : St → Prop) (x1 : Int32) (x2 : Int32) (x3 : Int32) (x4 : Int32) (x5 : Int32) (x6 : Int32) : Nat → Int32 → St → Prop
  | 0, _, _ => False
  | n + 1, x7, S => if x4 ≤ x7 then (wbX8_lets_84 F K x1 x2 x3 x4 x5 x6 S) else ((vp_in x7 4 ∧ (vp_in x7 4 ∧ ∀ S26, S26 = su S 55 0 x7.toNatClampNeg (S.1 54 0 x7.toNatClampNeg) → wbX8_lets_57 F K x1 x2 x3 x4 x5 x6 n (x7 + 1) S26)))
set_option maxRecDepth 4000 in
theorem bX8_lets_57 {p : Program} {l : Launch} {e : Env} {R : Room} {s : State} {m : MethodId} {args : Array Value} {below : List Frame} {meth : Method} {c : Code} {D : va_G} {ad : Nat → Nat → Nat} {cs : Nat → ClassId} {P : Nat → Nat → Prop} {sz tU : Nat} {adK adV : Nat → Nat} {F : Nat → Int32 → Int32 → Int32 → Int32 → Int32 → Int32 → St → (St → Prop) → Prop} {d : Nat} {K : St → Prop} {x1 : Int32} {x2 : Int32} {x3 : Int32} {x4 : Int32} {x5 : Int32} {x6 : Int32} (E : Ex p s m args meth c R RX8 cX8_lets 10 none (70 + (d + 1)) (1647 + 29 * (d + 1)) D ad cs P (wA ad P) tU adK adV cnM) (hF0 : ∀ {x1 : Int32} {x2 : Int32} {x3 : Int32} {x4 : Int32} {x5 : Int32} {x6 : Int32} {S : St} {K : St → Prop}, F 0 x1 x2 x3 x4 x5 x6 S K → MV l yX8_lets cX8_lets 10 none (70 + d) (1647 + 29 * d) D ad cs P sz tU adK adV [.ref (ad 40 0), .int x1, .int x2, .int x3, .int x4, .int x5, .int x6] S K) : ∀ (n : Nat) (x7 : Int32) (S : St) (H : Heap) (locs : List Loc) (ls : Array Slot), wbX8_lets_57 F K x1 x2 x3 x4 x5 x6 n x7 S → wH D ad cs P (wA ad P) s.heap sz S H locs → lv_has ls 10 [(0, .ref (ad 40 0)), (1, .int x1), (2, .int x2), (3, .int x3), (4, .int x4), (5, .int x5), (6, .int x6), (7, .int x7)] → W p l e R s m args below meth c H locs 0 0 (MQ below (va_Qv K (QX D ad cs P sz) (wA ad P)) args s 0 0 (wA ad P)) (F0 m 57 ls []) := by
  have hx := E.hx
  have hb := E.hb
  intro n
  induction n with
  | zero => intro x7 S H locs ls hw hh hl; exact hw.elim
  | succ n ih =>
    intro x7 S H locs ls hw hh hl
    refine lv_iload hx hb dX8_lets_57 (lv_at hl 7 rfl) ?_
    refine lv_iload hx hb dX8_lets_59 (lv_at hl 4 rfl) ?_
    refine lv_icmp_ge (tgt := 84) hx hb dX8_lets_61 (by decide) (fun c24 => ?_) (fun c24 => ?_)
    · have hw := ifT hw c24
      exact bX8_lets_84 E hF0 hw hh (lv_sub hl [0, 1, 2, 3, 4, 5, 6] rfl)
    · have hw := ifF hw c24
      refine lv_aload_n hx hb dX8_lets_64 rfl (lv_at hl 0 rfl) ?_
      refine g_40_37 E hh tb771 (E.hn 40 0 (by decide)) dX8_lets_65 ?_
      refine lv_iload hx hb dX8_lets_68 (lv_at hl 7 rfl) ?_
      refine lv_aload_n hx hb dX8_lets_70 rfl (lv_at hl 0 rfl) ?_
      refine g_40_36 E hh tb770 (E.hn 40 0 (by decide)) dX8_lets_71 ?_
      refine lv_iload hx hb dX8_lets_74 (lv_at hl 7 rfl) ?_
      obtain ⟨hi25, hw⟩ := hw
      refine x_iald E hh (E.hn 54 0 (by decide)) ly_54 hi25 dX8_lets_76 ?_
      obtain ⟨hi26, hw⟩ := hw
      refine x_iast E hh (E.hn 55 0 (by decide)) ly_55 hi26 dX8_lets_77 (fun S26 H locs e26 hh => ?_)
      have hw := hw S26 e26
      refine lv_iinc (k := 7) (v := x7 + 1) (lv' := [(7, .int (x7 + 1)), (0, .ref (ad 40 0)), (1, .int x1), (2, .int x2), (3, .int x3), (4, .int x4), (5, .int x5), (6, .int x6)]) hx hb dX8_lets_78 hl rfl rfl (by decide) rfl (fun ls hl => ?_)
      refine lv_goto (tgt := 57) hx hb dX8_lets_81 (by decide) ?_
      exact ih (x7 + 1) S26 _ _ _ hw hh (lv_sub hl [1, 2, 3, 4, 5, 6, 7, 0] rfl)
def wbX8_lets_42 (F : Nat → Int32 → Int32 → Int32 → Int32 → Int32 → Int32 → St → (St → Prop) → Prop) (K : St → Prop) (x1 : Int32) (x2 : Int32) (x3 : Int32) (x4 : Int32) (x5 : Int32) (x6 : Int32) (S : St) : Prop := (∀ S7, S7 = su S 40 0 38 x4 → (∀ S8, S8 = su S7 40 0 39 x5 → ∃ k, wbX8_lets_57 F K x1 x2 x3 x4 x5 x6 k 0 S8))
set_option maxRecDepth 4000 in
theorem bX8_lets_42 {p : Program} {l : Launch} {e : Env} {R : Room} {s : State} {m : MethodId} {args : Array Value} {below : List Frame} {meth : Method} {c : Code} {D : va_G} {ad : Nat → Nat → Nat} {cs : Nat → ClassId} {P : Nat → Nat → Prop} {sz tU : Nat} {adK adV : Nat → Nat} {F : Nat → Int32 → Int32 → Int32 → Int32 → Int32 → Int32 → St → (St → Prop) → Prop} {d : Nat} {K : St → Prop} {x1 : Int32} {x2 : Int32} {x3 : Int32} {x4 : Int32} {x5 : Int32} {x6 : Int32} {S : St} {H : Heap} {locs : List Loc} {ls : Array Slot} (E : Ex p s m args meth c R RX8 cX8_lets 10 none (70 + (d + 1)) (1647 + 29 * (d + 1)) D ad cs P (wA ad P) tU adK adV cnM) (hF0 : ∀ {x1 : Int32} {x2 : Int32} {x3 : Int32} {x4 : Int32} {x5 : Int32} {x6 : Int32} {S : St} {K : St → Prop}, F 0 x1 x2 x3 x4 x5 x6 S K → MV l yX8_lets cX8_lets 10 none (70 + d) (1647 + 29 * d) D ad cs P sz tU adK adV [.ref (ad 40 0), .int x1, .int x2, .int x3, .int x4, .int x5, .int x6] S K) (hw : wbX8_lets_42 F K x1 x2 x3 x4 x5 x6 S) (hh : wH D ad cs P (wA ad P) s.heap sz S H locs) (hl : lv_has ls 10 [(0, .ref (ad 40 0)), (1, .int x1), (2, .int x2), (3, .int x3), (4, .int x4), (5, .int x5), (6, .int x6)]) : W p l e R s m args below meth c H locs 0 0 (MQ below (va_Qv K (QX D ad cs P sz) (wA ad P)) args s 0 0 (wA ad P)) (F0 m 42 ls []) := by
  have hx := E.hx
  have hb := E.hb
  refine lv_aload_n hx hb dX8_lets_42 rfl (lv_at hl 0 rfl) ?_
  refine lv_iload hx hb dX8_lets_43 (lv_at hl 4 rfl) ?_
  refine p_40_38 E hh tb772 (E.hn 40 0 (by decide)) dX8_lets_45 (fun S7 H locs e7 hh => ?_)
  have hw := hw S7 e7
  refine lv_aload_n hx hb dX8_lets_48 rfl (lv_at hl 0 rfl) ?_
  refine lv_iload hx hb dX8_lets_49 (lv_at hl 5 rfl) ?_
  refine p_40_39 E hh tb773 (E.hn 40 0 (by decide)) dX8_lets_51 (fun S8 H locs e8 hh => ?_)
  have hw := hw S8 e8
  refine lv_iconst (v := 0) hx hb dX8_lets_54 (by decide) ?_
  refine lv_istore (lv' := [(7, .int 0), (0, .ref (ad 40 0)), (1, .int x1), (2, .int x2), (3, .int x3), (4, .int x4), (5, .int x5), (6, .int x6)]) hx hb dX8_lets_55 hl (by decide) rfl (fun ls hl => ?_)
  obtain ⟨k, hw⟩ := hw
  exact bX8_lets_57 E hF0 k 0 S8 _ _ _ hw hh (lv_sub hl [1, 2, 3, 4, 5, 6, 7, 0] rfl)
def wpX8_lets (F : Nat → Int32 → Int32 → Int32 → Int32 → Int32 → Int32 → St → (St → Prop) → Prop) (x1 : Int32) (x2 : Int32) (x3 : Int32) (x4 : Int32) (x5 : Int32) (x6 : Int32) (S : St) (K : St → Prop) : Prop := wpX8_mayAsk x1 x2 S (fun r1 S1 => if r1 = 0 then (wbX8_lets_84 F K x1 x2 x3 x4 x5 x6 S1) else (if (S1.1 40 0 38) = (-1) then (wbX8_lets_42 F K x1 x2 x3 x4 x5 x6 S1) else (if x3 = 0 then (if (S1.1 40 0 38) ≤ x4 then (wbX8_lets_84 F K x1 x2 x3 x4 x5 x6 S1) else (wbX8_lets_42 F K x1 x2 x3 x4 x5 x6 S1)) else (if (S1.1 40 0 39) ≤ x5 then (wbX8_lets_84 F K x1 x2 x3 x4 x5 x6 S1) else (wbX8_lets_42 F K x1 x2 x3 x4 x5 x6 S1)))))
set_option maxRecDepth 4000 in
theorem bX8_lets {p : Program} {l : Launch} {e : Env} {R : Room} {s : State} {m : MethodId} {args : Array Value} {below : List Frame} {meth : Method} {c : Code} {D : va_G} {ad : Nat → Nat → Nat} {cs : Nat → ClassId} {P : Nat → Nat → Prop} {sz tU : Nat} {adK adV : Nat → Nat} {F : Nat → Int32 → Int32 → Int32 → Int32 → Int32 → Int32 → St → (St → Prop) → Prop} {d : Nat} {K : St → Prop} {x1 : Int32} {x2 : Int32} {x3 : Int32} {x4 : Int32} {x5 : Int32} {x6 : Int32} {S : St} {H : Heap} {locs : List Loc} {ls : Array Slot} (E : Ex p s m args meth c R RX8 cX8_lets 10 none (70 + (d + 1)) (1647 + 29 * (d + 1)) D ad cs P (wA ad P) tU adK adV cnM) (hF0 : ∀ {x1 : Int32} {x2 : Int32} {x3 : Int32} {x4 : Int32} {x5 : Int32} {x6 : Int32} {S : St} {K : St → Prop}, F 0 x1 x2 x3 x4 x5 x6 S K → MV l yX8_lets cX8_lets 10 none (70 + d) (1647 + 29 * d) D ad cs P sz tU adK adV [.ref (ad 40 0), .int x1, .int x2, .int x3, .int x4, .int x5, .int x6] S K) (hw : wpX8_lets F x1 x2 x3 x4 x5 x6 S K) (hh : wH D ad cs P (wA ad P) s.heap sz S H locs) (hl : lv_has ls 10 [(0, .ref (ad 40 0)), (1, .int x1), (2, .int x2), (3, .int x3), (4, .int x4), (5, .int x5), (6, .int x6)]) : W p l e R s m args below meth c H locs 0 0 (MQ below (va_Qv K (QX D ad cs P sz) (wA ad P)) args s 0 0 (wA ad P)) (F0 m 0 ls []) := by
  have hx := E.hx
  have hb := E.hb
  refine lv_aload_n hx hb dX8_lets_0 rfl (lv_at hl 0 rfl) ?_
  refine lv_iload_n hx hb dX8_lets_1 rfl (lv_at hl 1 rfl) ?_
  refine lv_iload_n hx hb dX8_lets_2 rfl (lv_at hl 2 rfl) ?_
  refine x_ci E.hA hh (x_runV E hh (mX8_mayAsk E.hI E.hn hw) kX8_mayAsk tb1052 (E.hn 40 0 (by decide)) rv_40 ⟨by omega, by omega⟩ rfl hl.1 rfl (Nat.le_of_ble_eq_true rfl) dX8_lets_3 ⟨Nat.zero_le _, Nat.zero_le _⟩) (fun r1 S1 H locs hw hh => ?_)
  have hq1 := hw.2
  have hw := hw.1
  refine lv_if_eq (tgt := 84) hx hb dX8_lets_6 (by decide) (fun c2 => ?_) (fun c2 => ?_)
  · have hw := ifT hw c2
    exact bX8_lets_84 E hF0 hw hh (lv_sub hl [0, 1, 2, 3, 4, 5, 6] rfl)
  · have hw := ifF hw c2
    refine lv_aload_n hx hb dX8_lets_9 rfl (lv_at hl 0 rfl) ?_
    refine g_40_38 E hh tb772 (E.hn 40 0 (by decide)) dX8_lets_10 ?_
    refine lv_iconst (v := (-1)) hx hb dX8_lets_13 (by decide) ?_
    refine lv_icmp_eq (tgt := 42) hx hb dX8_lets_14 (by decide) (fun c3 => ?_) (fun c3 => ?_)
    · have hw := ifT hw c3
      exact bX8_lets_42 E hF0 hw hh (lv_sub hl [0, 1, 2, 3, 4, 5, 6] rfl)
    · have hw := ifF hw c3
      refine lv_iload_n hx hb dX8_lets_17 rfl (lv_at hl 3 rfl) ?_
      refine lv_if_ne (tgt := 33) hx hb dX8_lets_18 (by decide) (fun c4 => ?_) (fun c4 => ?_)
      · have hw := ifF hw c4
        refine lv_iload hx hb dX8_lets_33 (lv_at hl 5 rfl) ?_
        refine lv_aload_n hx hb dX8_lets_35 rfl (lv_at hl 0 rfl) ?_
        refine g_40_39 E hh tb773 (E.hn 40 0 (by decide)) dX8_lets_36 ?_
        refine lv_icmp_ge (tgt := 84) hx hb dX8_lets_39 (by decide) (fun c5 => ?_) (fun c5 => ?_)
        · have hw := ifT hw c5
          exact bX8_lets_84 E hF0 hw hh (lv_sub hl [0, 1, 2, 3, 4, 5, 6] rfl)
        · have hw := ifF hw c5
          exact bX8_lets_42 E hF0 hw hh (lv_sub hl [0, 1, 2, 3, 4, 5, 6] rfl)
      · have hw := ifT hw c4
        refine lv_iload hx hb dX8_lets_21 (lv_at hl 4 rfl) ?_
        refine lv_aload_n hx hb dX8_lets_23 rfl (lv_at hl 0 rfl) ?_
        refine g_40_38 E hh tb772 (E.hn 40 0 (by decide)) dX8_lets_24 ?_
        refine lv_icmp_ge (tgt := 84) hx hb dX8_lets_27 (by decide) (fun c6 => ?_) (fun c6 => ?_)
        · have hw := ifT hw c6
          exact bX8_lets_84 E hF0 hw hh (lv_sub hl [0, 1, 2, 3, 4, 5, 6] rfl)
        · have hw := ifF hw c6
          refine lv_goto (tgt := 42) hx hb dX8_lets_30 (by decide) ?_
          exact bX8_lets_42 E hF0 hw hh (lv_sub hl [0, 1, 2, 3, 4, 5, 6] rfl)
def wpG4 : Nat → Nat → Int32 → Int32 → Int32 → Int32 → Int32 → Int32 → St → (St → Prop) → Prop
  | 0 => fun _ _ _ _ _ _ _ _ _ => False
  | d + 1 => fun tag x1 x2 x3 x4 x5 x6 S K => wpX8_lets (wpG4 d) x1 x2 x3 x4 x5 x6 S K
theorem mG4 {l : Launch} {D : va_G} {ad : Nat → Nat → Nat} {cs : Nat → ClassId} {P : Nat → Nat → Prop} {sz tU : Nat} {adK adV : Nat → Nat} (hI : wI ad P) (hn : ∀ kd i, i < cnM kd → P kd i) : ∀ d : Nat, (∀ {x1 : Int32} {x2 : Int32} {x3 : Int32} {x4 : Int32} {x5 : Int32} {x6 : Int32} {S : St} {K : St → Prop}, wpG4 d 0 x1 x2 x3 x4 x5 x6 S K → MV l yX8_lets cX8_lets 10 none (70 + d) (1647 + 29 * d) D ad cs P sz tU adK adV [.ref (ad 40 0), .int x1, .int x2, .int x3, .int x4, .int x5, .int x6] S K) := by
  intro d
  induction d with
  | zero => exact (fun hw => hw.elim)
  | succ d ih =>
    have hF0 := @ih
    refine ?_
    · intro x1 x2 x3 x4 x5 x6 S K  hw
      have hw : wpX8_lets (wpG4 d) x1 x2 x3 x4 x5 x6 S K := hw
      exact Met_of (by decide) (Nat.le_of_ble_eq_true rfl) hI hn (fun p e R s m args below meth c ls E hl hh => bX8_lets E @hF0  hw hh (lv_sub hl [0, 1, 2, 3, 4, 5, 6] rfl))
theorem mG4_X8_lets {l : Launch} {D : va_G} {ad : Nat → Nat → Nat} {cs : Nat → ClassId} {P : Nat → Nat → Prop} {sz tU : Nat} {adK adV : Nat → Nat} {x1 : Int32} {x2 : Int32} {x3 : Int32} {x4 : Int32} {x5 : Int32} {x6 : Int32} {S : St} {K : St → Prop} (hI : wI ad P) (hn : ∀ kd i, i < cnM kd → P kd i) (d : Nat) (hw : wpG4 d 0 x1 x2 x3 x4 x5 x6 S K) : MV l yX8_lets cX8_lets 10 none (70 + d) (1647 + 29 * d) D ad cs P sz tU adK adV [.ref (ad 40 0), .int x1, .int x2, .int x3, .int x4, .int x5, .int x6] S K := (mG4 hI hn d)  hw
def wbX8_way_90 (K : Int32 → St → Prop) (S : St) : Prop := K (S.1 40 0 38) S
set_option maxRecDepth 4000 in
theorem bX8_way_90 {p : Program} {l : Launch} {e : Env} {R : Room} {s : State} {m : MethodId} {args : Array Value} {below : List Frame} {meth : Method} {c : Code} {D : va_G} {ad : Nat → Nat → Nat} {cs : Nat → ClassId} {P : Nat → Nat → Prop} {sz tU : Nat} {adK adV : Nat → Nat} {K : Int32 → St → Prop} {S : St} {H : Heap} {locs : List Loc} {ls : Array Slot} (E : Ex p s m args meth c R RX8 cX8_way 5 (some .int) 79 1908 D ad cs P (wA ad P) tU adK adV cnM) (hw : wbX8_way_90 K S) (hh : wH D ad cs P (wA ad P) s.heap sz S H locs) (hl : lv_has ls 5 [(0, .ref (ad 40 0))]) : W p l e R s m args below meth c H locs 0 0 (MQ below (va_Qi K (QX D ad cs P sz) (wA ad P)) args s 0 0 (wA ad P)) (F0 m 90 ls []) := by
  have hx := E.hx
  have hb := E.hb
  refine lv_aload_n hx hb dX8_way_90 rfl (lv_at hl 0 rfl) ?_
  refine g_40_38 E hh tb772 (E.hn 40 0 (by decide)) dX8_way_91 ?_
  exact x_iret E hh hw dX8_way_94
def wbX8_way_77 (K : Int32 → St → Prop) (x4 : Int32) (S : St) : Prop := if (S.1 40 0 38) = (-1) then (wbX8_way_90 K S) else (if x4 = 0 then (wbX8_way_90 K S) else (if x4 = 1 then (K (S.1 40 0 39) S) else (if (S.1 40 0 38) ≤ (x4 - 2) then (K (-1) S) else ((vp_in (x4 - 2) 4 ∧ K (S.1 55 0 (x4 - 2).toNatClampNeg) S)))))
set_option maxRecDepth 4000 in
theorem bX8_way_77 {p : Program} {l : Launch} {e : Env} {R : Room} {s : State} {m : MethodId} {args : Array Value} {below : List Frame} {meth : Method} {c : Code} {D : va_G} {ad : Nat → Nat → Nat} {cs : Nat → ClassId} {P : Nat → Nat → Prop} {sz tU : Nat} {adK adV : Nat → Nat} {K : Int32 → St → Prop} {x4 : Int32} {S : St} {H : Heap} {locs : List Loc} {ls : Array Slot} (E : Ex p s m args meth c R RX8 cX8_way 5 (some .int) 79 1908 D ad cs P (wA ad P) tU adK adV cnM) (hw : wbX8_way_77 K x4 S) (hh : wH D ad cs P (wA ad P) s.heap sz S H locs) (hl : lv_has ls 5 [(0, .ref (ad 40 0)), (4, .int x4)]) : W p l e R s m args below meth c H locs 0 0 (MQ below (va_Qi K (QX D ad cs P sz) (wA ad P)) args s 0 0 (wA ad P)) (F0 m 77 ls []) := by
  have hx := E.hx
  have hb := E.hb
  refine lv_aload_n hx hb dX8_way_77 rfl (lv_at hl 0 rfl) ?_
  refine g_40_38 E hh tb772 (E.hn 40 0 (by decide)) dX8_way_78 ?_
  refine lv_iconst (v := (-1)) hx hb dX8_way_81 (by decide) ?_
  refine lv_icmp_eq (tgt := 90) hx hb dX8_way_82 (by decide) (fun c15 => ?_) (fun c15 => ?_)
  · have hw := ifT hw c15
    exact bX8_way_90 E hw hh (lv_sub hl [0] rfl)
  · have hw := ifF hw c15
    refine lv_iload hx hb dX8_way_85 (lv_at hl 1 rfl) ?_
    refine lv_if_ne (tgt := 95) hx hb dX8_way_87 (by decide) (fun c16 => ?_) (fun c16 => ?_)
    · have hw := ifF hw c16
      refine lv_iload hx hb dX8_way_95 (lv_at hl 1 rfl) ?_
      refine lv_iconst (v := 1) hx hb dX8_way_97 (by decide) ?_
      refine lv_icmp_ne (tgt := 106) hx hb dX8_way_98 (by decide) (fun c17 => ?_) (fun c17 => ?_)
      · have hw := ifF hw c17
        refine lv_iload hx hb dX8_way_106 (lv_at hl 1 rfl) ?_
        refine lv_iconst (v := 2) hx hb dX8_way_108 (by decide) ?_
        refine lv_isub hx hb dX8_way_109 ?_
        refine lv_aload_n hx hb dX8_way_110 rfl (lv_at hl 0 rfl) ?_
        refine g_40_38 E hh tb772 (E.hn 40 0 (by decide)) dX8_way_111 ?_
        refine lv_icmp_ge (tgt := 129) hx hb dX8_way_114 (by decide) (fun c18 => ?_) (fun c18 => ?_)
        · have hw := ifT hw c18
          refine lv_iconst (v := (-1)) hx hb dX8_way_129 (by decide) ?_
          exact x_iret E hh hw dX8_way_130
        · have hw := ifF hw c18
          refine lv_aload_n hx hb dX8_way_117 rfl (lv_at hl 0 rfl) ?_
          refine g_40_37 E hh tb771 (E.hn 40 0 (by decide)) dX8_way_118 ?_
          refine lv_iload hx hb dX8_way_121 (lv_at hl 1 rfl) ?_
          refine lv_iconst (v := 2) hx hb dX8_way_123 (by decide) ?_
          refine lv_isub hx hb dX8_way_124 ?_
          obtain ⟨hi19, hw⟩ := hw
          refine x_iald E hh (E.hn 55 0 (by decide)) ly_55 hi19 dX8_way_125 ?_
          refine lv_goto (tgt := 130) hx hb dX8_way_126 (by decide) ?_
          exact x_iret E hh hw dX8_way_130
      · have hw := ifT hw c17
        refine lv_aload_n hx hb dX8_way_101 rfl (lv_at hl 0 rfl) ?_
        refine g_40_39 E hh tb773 (E.hn 40 0 (by decide)) dX8_way_102 ?_
        exact x_iret E hh hw dX8_way_105
    · have hw := ifT hw c16
      exact bX8_way_90 E hw hh (lv_sub hl [0] rfl)
def wpX8_way (x1 : Int32) (x2 : Int32) (x3 : Int32) (x4 : Int32) (S : St) (K : Int32 → St → Prop) : Prop := wpX8_isMan x1 S (fun r1 S1 => if r1 = 0 then (K (-2) S1) else (wpX8_isMaid x2 S1 (fun r3 S3 => if r3 = 0 then (K (-2) S3) else (wpX8_in x3.toInt64 0 1 S3 (fun r5 S5 => if r5 = 0 then (K (-2) S5) else (wpX8_in x4.toInt64 0 5 S5 (fun r7 S7 => if r7 = 0 then (K (-2) S7) else ((∀ S9, S9 = su S7 40 0 38 (-1) → (vp_in x1 4 ∧ if (S9.1 47 0 x1.toNatClampNeg) = (-1) then ((vp_in x2 4 ∧ if (S9.1 48 0 x2.toNatClampNeg) = (-1) then (wpG4 8 0 x1 x2 x3 0 0 0 S9 (fun S14 => wbX8_way_77 K x4 S14)) else (wbX8_way_77 K x4 S9))) else (wbX8_way_77 K x4 S9)))))))))))
set_option maxRecDepth 4000 in
theorem bX8_way {p : Program} {l : Launch} {e : Env} {R : Room} {s : State} {m : MethodId} {args : Array Value} {below : List Frame} {meth : Method} {c : Code} {D : va_G} {ad : Nat → Nat → Nat} {cs : Nat → ClassId} {P : Nat → Nat → Prop} {sz tU : Nat} {adK adV : Nat → Nat} {K : Int32 → St → Prop} {x1 : Int32} {x2 : Int32} {x3 : Int32} {x4 : Int32} {S : St} {H : Heap} {locs : List Loc} {ls : Array Slot} (E : Ex p s m args meth c R RX8 cX8_way 5 (some .int) 79 1908 D ad cs P (wA ad P) tU adK adV cnM) (hw : wpX8_way x1 x2 x3 x4 S K) (hh : wH D ad cs P (wA ad P) s.heap sz S H locs) (hl : lv_has ls 5 [(0, .ref (ad 40 0)), (1, .int x1), (2, .int x2), (3, .int x3), (4, .int x4)]) : W p l e R s m args below meth c H locs 0 0 (MQ below (va_Qi K (QX D ad cs P sz) (wA ad P)) args s 0 0 (wA ad P)) (F0 m 0 ls []) := by
  have hx := E.hx
  have hb := E.hb
  refine lv_aload_n hx hb dX8_way_0 rfl (lv_at hl 0 rfl) ?_
  refine lv_iload_n hx hb dX8_way_1 rfl (lv_at hl 1 rfl) ?_
  refine x_ci E.hA hh (x_runV E hh (mX8_isMan E.hI E.hn hw) kX8_isMan tb926 (E.hn 40 0 (by decide)) rv_40 ⟨by decide, by decide⟩ rfl hl.1 rfl (Nat.le_of_ble_eq_true rfl) dX8_way_2 ⟨Nat.zero_le _, Nat.zero_le _⟩) (fun r1 S1 H locs hw hh => ?_)
  have hq1 := hw.2
  have hw := hw.1
  refine lv_if_eq (tgt := 39) hx hb dX8_way_5 (by decide) (fun c2 => ?_) (fun c2 => ?_)
  · have hw := ifT hw c2
    refine lv_bipush (v := (-2)) hx hb dX8_way_39 (by decide) ?_
    exact x_iret E hh hw dX8_way_41
  · have hw := ifF hw c2
    refine lv_aload_n hx hb dX8_way_8 rfl (lv_at hl 0 rfl) ?_
    refine lv_iload_n hx hb dX8_way_9 rfl (lv_at hl 2 rfl) ?_
    refine x_ci E.hA hh (x_runV E hh (mX8_isMaid E.hI E.hn hw) kX8_isMaid tb930 (E.hn 40 0 (by decide)) rv_40 ⟨by decide, by decide⟩ rfl hl.1 rfl (Nat.le_of_ble_eq_true rfl) dX8_way_10 ⟨Nat.zero_le _, Nat.zero_le _⟩) (fun r3 S3 H locs hw hh => ?_)
    have hq3 := hw.2
    have hw := hw.1
    refine lv_if_eq (tgt := 39) hx hb dX8_way_13 (by decide) (fun c4 => ?_) (fun c4 => ?_)
    · have hw := ifT hw c4
      refine lv_bipush (v := (-2)) hx hb dX8_way_39 (by decide) ?_
      exact x_iret E hh hw dX8_way_41
    · have hw := ifF hw c4
      refine lv_iload_n hx hb dX8_way_16 rfl (lv_at hl 3 rfl) ?_
      refine lv_i2l hx hb dX8_way_17 rfl ?_
      refine lv_lconst (v := 0) hx hb dX8_way_18 (by decide) ?_
      refine lv_lconst (v := 1) hx hb dX8_way_19 (by decide) ?_
      refine x_ci E.hA hh (x_runS E hh (mX8_in E.hI (fun _ _ h => absurd h (Nat.not_lt_zero _)) hw) kX8_in tb914 ⟨by decide, by decide⟩ rfl hl.1 rfl (Nat.le_of_ble_eq_true rfl) dX8_way_20 ⟨Nat.zero_le _, Nat.zero_le _⟩) (fun r5 S5 H locs hw hh => ?_)
      have hq5 := hw.2
      have hw := hw.1
      refine lv_if_eq (tgt := 39) hx hb dX8_way_23 (by decide) (fun c6 => ?_) (fun c6 => ?_)
      · have hw := ifT hw c6
        refine lv_bipush (v := (-2)) hx hb dX8_way_39 (by decide) ?_
        exact x_iret E hh hw dX8_way_41
      · have hw := ifF hw c6
        refine lv_iload hx hb dX8_way_26 (lv_at hl 4 rfl) ?_
        refine lv_i2l hx hb dX8_way_28 rfl ?_
        refine lv_lconst (v := 0) hx hb dX8_way_29 (by decide) ?_
        refine lv_ldc2 (v := 5) hx hb E.hown (E.hts _ tb921) dX8_way_30 ?_
        refine x_ci E.hA hh (x_runS E hh (mX8_in E.hI (fun _ _ h => absurd h (Nat.not_lt_zero _)) hw) kX8_in tb914 ⟨by decide, by decide⟩ rfl hl.1 rfl (Nat.le_of_ble_eq_true rfl) dX8_way_33 ⟨Nat.zero_le _, Nat.zero_le _⟩) (fun r7 S7 H locs hw hh => ?_)
        have hq7 := hw.2
        have hw := hw.1
        refine lv_if_ne (tgt := 42) hx hb dX8_way_36 (by decide) (fun c8 => ?_) (fun c8 => ?_)
        · have hw := ifF hw c8
          refine lv_aload_n hx hb dX8_way_42 rfl (lv_at hl 0 rfl) ?_
          refine lv_iconst (v := (-1)) hx hb dX8_way_43 (by decide) ?_
          refine p_40_38 E hh tb772 (E.hn 40 0 (by decide)) dX8_way_44 (fun S9 H locs e9 hh => ?_)
          have hw := hw S9 e9
          refine lv_aload_n hx hb dX8_way_47 rfl (lv_at hl 0 rfl) ?_
          refine g_40_12 E hh tb746 (E.hn 40 0 (by decide)) dX8_way_48 ?_
          refine lv_iload_n hx hb dX8_way_51 rfl (lv_at hl 1 rfl) ?_
          obtain ⟨hi10, hw⟩ := hw
          refine x_iald E hh (E.hn 47 0 (by decide)) ly_47 hi10 dX8_way_52 ?_
          refine lv_iconst (v := (-1)) hx hb dX8_way_53 (by decide) ?_
          refine lv_icmp_ne (tgt := 77) hx hb dX8_way_54 (by decide) (fun c11 => ?_) (fun c11 => ?_)
          · have hw := ifF hw c11
            exact bX8_way_77 E hw hh (lv_sub hl [0, 4] rfl)
          · have hw := ifT hw c11
            refine lv_aload_n hx hb dX8_way_57 rfl (lv_at hl 0 rfl) ?_
            refine g_40_13 E hh tb747 (E.hn 40 0 (by decide)) dX8_way_58 ?_
            refine lv_iload_n hx hb dX8_way_61 rfl (lv_at hl 2 rfl) ?_
            obtain ⟨hi12, hw⟩ := hw
            refine x_iald E hh (E.hn 48 0 (by decide)) ly_48 hi12 dX8_way_62 ?_
            refine lv_iconst (v := (-1)) hx hb dX8_way_63 (by decide) ?_
            refine lv_icmp_ne (tgt := 77) hx hb dX8_way_64 (by decide) (fun c13 => ?_) (fun c13 => ?_)
            · have hw := ifF hw c13
              exact bX8_way_77 E hw hh (lv_sub hl [0, 4] rfl)
            · have hw := ifT hw c13
              refine lv_aload_n hx hb dX8_way_67 rfl (lv_at hl 0 rfl) ?_
              refine lv_iload_n hx hb dX8_way_68 rfl (lv_at hl 1 rfl) ?_
              refine lv_iload_n hx hb dX8_way_69 rfl (lv_at hl 2 rfl) ?_
              refine lv_iload_n hx hb dX8_way_70 rfl (lv_at hl 3 rfl) ?_
              refine lv_iconst (v := 0) hx hb dX8_way_71 (by decide) ?_
              refine lv_iconst (v := 0) hx hb dX8_way_72 (by decide) ?_
              refine lv_iconst (v := 0) hx hb dX8_way_73 (by decide) ?_
              refine x_cv E.hA hh (x_runV E hh (mG4_X8_lets E.hI E.hn 8 hw) kX8_lets tb1084 (E.hn 40 0 (by decide)) rv_40 ⟨by decide, by decide⟩ rfl hl.1 rfl (Nat.le_of_ble_eq_true rfl) dX8_way_74 ⟨Nat.zero_le _, Nat.zero_le _⟩) (fun S14 H locs hw hh => ?_)
              exact bX8_way_77 E hw hh (lv_sub hl [0, 4] rfl)
        · have hw := ifT hw c8
          refine lv_bipush (v := (-2)) hx hb dX8_way_39 (by decide) ?_
          exact x_iret E hh hw dX8_way_41
theorem kX8_way : kI yX8_way cX8_way 5 (some .int) 4 := ⟨tb1081, tb1082, tb15, tb1083, by decide, by decide, by decide +kernel⟩
theorem mX8_way {l : Launch} {D : va_G} {ad : Nat → Nat → Nat} {cs : Nat → ClassId} {P : Nat → Nat → Prop} {sz tU : Nat} {adK adV : Nat → Nat} {x1 : Int32} {x2 : Int32} {x3 : Int32} {x4 : Int32} {S : St} {K : Int32 → St → Prop} (hI : wI ad P) (hn : ∀ kd i, i < cnM kd → P kd i) (hw : wpX8_way x1 x2 x3 x4 S K) : MI l yX8_way cX8_way 5 (some .int) 79 1908 D ad cs P sz tU adK adV [.ref (ad 40 0), .int x1, .int x2, .int x3, .int x4] S K :=
  Met_of (by decide) (Nat.le_of_ble_eq_true rfl) hI hn (fun p e R s m args below meth c ls E hl hh => bX8_way E  hw hh (lv_sub hl [0, 1, 2, 3, 4] rfl))
def wbX8_mistake_89 (R15 : Int32 → Int32 → St → Prop) (K : Int32 → St → Prop) (x1 : Int32) (x2 : Int32) (x3 : Int32) (S : St) : Prop := R15 x2 (x3 + 1) S
set_option maxRecDepth 4000 in
theorem bX8_mistake_89 {p : Program} {l : Launch} {e : Env} {R : Room} {s : State} {m : MethodId} {args : Array Value} {below : List Frame} {meth : Method} {c : Code} {D : va_G} {ad : Nat → Nat → Nat} {cs : Nat → ClassId} {P : Nat → Nat → Prop} {sz tU : Nat} {adK adV : Nat → Nat} {R15 : Int32 → Int32 → St → Prop} {K : Int32 → St → Prop} {x1 : Int32} {x2 : Int32} {x3 : Int32} {S : St} {H : Heap} {locs : List Loc} {ls : Array Slot} (E : Ex p s m args meth c R RX8 cX8_mistake 5 (some .int) 70 1647 D ad cs P (wA ad P) tU adK adV cnM) (hR15 : ∀ (z2 : Int32) (z3 : Int32) (S : St) (H : Heap) (locs : List Loc) (ls : Array Slot), R15 z2 z3 S → wH D ad cs P (wA ad P) s.heap sz S H locs → lv_has ls 5 [(0, .ref (ad 40 0)), (1, .int x1), (2, .int z2), (3, .int z3)] → W p l e R s m args below meth c H locs 0 0 (MQ below (va_Qi K (QX D ad cs P sz) (wA ad P)) args s 0 0 (wA ad P)) (F0 m 15 ls [])) (hw : wbX8_mistake_89 R15 K x1 x2 x3 S) (hh : wH D ad cs P (wA ad P) s.heap sz S H locs) (hl : lv_has ls 5 [(0, .ref (ad 40 0)), (1, .int x1), (2, .int x2), (3, .int x3)]) : W p l e R s m args below meth c H locs 0 0 (MQ below (va_Qi K (QX D ad cs P sz) (wA ad P)) args s 0 0 (wA ad P)) (F0 m 89 ls []) := by
  have hx := E.hx
  have hb := E.hb
  refine lv_iinc (k := 3) (v := x3 + 1) (lv' := [(3, .int (x3 + 1)), (0, .ref (ad 40 0)), (1, .int x1), (2, .int x2)]) hx hb dX8_mistake_89 hl rfl rfl (by decide) rfl (fun ls hl => ?_)
  refine lv_goto (tgt := 15) hx hb dX8_mistake_92 (by decide) ?_
  exact hR15 x2 (x3 + 1) S _ _ _ hw hh (lv_sub hl [1, 2, 3, 0] rfl)
def wbX8_mistake_87 (R15 : Int32 → Int32 → St → Prop) (K : Int32 → St → Prop) (x1 : Int32) (x3 : Int32) (S : St) : Prop := wbX8_mistake_89 R15 K x1 x3 x3 S
set_option maxRecDepth 4000 in
theorem bX8_mistake_87 {p : Program} {l : Launch} {e : Env} {R : Room} {s : State} {m : MethodId} {args : Array Value} {below : List Frame} {meth : Method} {c : Code} {D : va_G} {ad : Nat → Nat → Nat} {cs : Nat → ClassId} {P : Nat → Nat → Prop} {sz tU : Nat} {adK adV : Nat → Nat} {R15 : Int32 → Int32 → St → Prop} {K : Int32 → St → Prop} {x1 : Int32} {x3 : Int32} {S : St} {H : Heap} {locs : List Loc} {ls : Array Slot} (E : Ex p s m args meth c R RX8 cX8_mistake 5 (some .int) 70 1647 D ad cs P (wA ad P) tU adK adV cnM) (hR15 : ∀ (z2 : Int32) (z3 : Int32) (S : St) (H : Heap) (locs : List Loc) (ls : Array Slot), R15 z2 z3 S → wH D ad cs P (wA ad P) s.heap sz S H locs → lv_has ls 5 [(0, .ref (ad 40 0)), (1, .int x1), (2, .int z2), (3, .int z3)] → W p l e R s m args below meth c H locs 0 0 (MQ below (va_Qi K (QX D ad cs P sz) (wA ad P)) args s 0 0 (wA ad P)) (F0 m 15 ls [])) (hw : wbX8_mistake_87 R15 K x1 x3 S) (hh : wH D ad cs P (wA ad P) s.heap sz S H locs) (hl : lv_has ls 5 [(0, .ref (ad 40 0)), (1, .int x1), (3, .int x3)]) : W p l e R s m args below meth c H locs 0 0 (MQ below (va_Qi K (QX D ad cs P sz) (wA ad P)) args s 0 0 (wA ad P)) (F0 m 87 ls []) := by
  have hx := E.hx
  have hb := E.hb
  refine lv_iload_n hx hb dX8_mistake_87 rfl (lv_at hl 2 rfl) ?_
  refine lv_istore_n (lv' := [(2, .int x3), (0, .ref (ad 40 0)), (1, .int x1), (3, .int x3)]) hx hb dX8_mistake_88 rfl hl (by decide) rfl (fun ls hl => ?_)
  exact bX8_mistake_89 E hR15 hw hh (lv_sub hl [1, 2, 0, 3] rfl)
def wbX8_mistake_52 (R15 : Int32 → Int32 → St → Prop) (K : Int32 → St → Prop) (x1 : Int32) (x2 : Int32) (x3 : Int32) (v0 : Int32) (S : St) : Prop := if v0 = 0 then (wbX8_mistake_89 R15 K x1 x2 x3 S) else (if x2 = (-1) then (wbX8_mistake_87 R15 K x1 x3 S) else ((vp_in ((4 * x1) + x3) 16 ∧ (vp_in ((4 * x1) + x2) 16 ∧ if (S.1 44 0 ((4 * x1) + x2).toNatClampNeg) ≤ (S.1 44 0 ((4 * x1) + x3).toNatClampNeg) then (wbX8_mistake_89 R15 K x1 x2 x3 S) else (wbX8_mistake_87 R15 K x1 x3 S)))))
set_option maxRecDepth 4000 in
theorem bX8_mistake_52 {p : Program} {l : Launch} {e : Env} {R : Room} {s : State} {m : MethodId} {args : Array Value} {below : List Frame} {meth : Method} {c : Code} {D : va_G} {ad : Nat → Nat → Nat} {cs : Nat → ClassId} {P : Nat → Nat → Prop} {sz tU : Nat} {adK adV : Nat → Nat} {R15 : Int32 → Int32 → St → Prop} {K : Int32 → St → Prop} {x1 : Int32} {x2 : Int32} {x3 : Int32} {v0 : Int32} {S : St} {H : Heap} {locs : List Loc} {ls : Array Slot} (E : Ex p s m args meth c R RX8 cX8_mistake 5 (some .int) 70 1647 D ad cs P (wA ad P) tU adK adV cnM) (hR15 : ∀ (z2 : Int32) (z3 : Int32) (S : St) (H : Heap) (locs : List Loc) (ls : Array Slot), R15 z2 z3 S → wH D ad cs P (wA ad P) s.heap sz S H locs → lv_has ls 5 [(0, .ref (ad 40 0)), (1, .int x1), (2, .int z2), (3, .int z3)] → W p l e R s m args below meth c H locs 0 0 (MQ below (va_Qi K (QX D ad cs P sz) (wA ad P)) args s 0 0 (wA ad P)) (F0 m 15 ls [])) (hw : wbX8_mistake_52 R15 K x1 x2 x3 v0 S) (hh : wH D ad cs P (wA ad P) s.heap sz S H locs) (hl : lv_has ls 5 [(0, .ref (ad 40 0)), (1, .int x1), (2, .int x2), (3, .int x3)]) : W p l e R s m args below meth c H locs 0 0 (MQ below (va_Qi K (QX D ad cs P sz) (wA ad P)) args s 0 0 (wA ad P)) (F0 m 52 ls [.int v0]) := by
  have hx := E.hx
  have hb := E.hb
  refine lv_istore (lv' := [(4, .int v0), (0, .ref (ad 40 0)), (1, .int x1), (2, .int x2), (3, .int x3)]) hx hb dX8_mistake_52 hl (by decide) rfl (fun ls hl => ?_)
  refine lv_iload hx hb dX8_mistake_54 (lv_at hl 0 rfl) ?_
  refine lv_if_eq (tgt := 89) hx hb dX8_mistake_56 (by decide) (fun c9 => ?_) (fun c9 => ?_)
  · have hw := ifT hw c9
    exact bX8_mistake_89 E hR15 hw hh (lv_sub hl [1, 2, 3, 4] rfl)
  · have hw := ifF hw c9
    refine lv_iload_n hx hb dX8_mistake_59 rfl (lv_at hl 3 rfl) ?_
    refine lv_iconst (v := (-1)) hx hb dX8_mistake_60 (by decide) ?_
    refine lv_icmp_eq (tgt := 87) hx hb dX8_mistake_61 (by decide) (fun c10 => ?_) (fun c10 => ?_)
    · have hw := ifT hw c10
      exact bX8_mistake_87 E hR15 hw hh (lv_sub hl [1, 2, 4] rfl)
    · have hw := ifF hw c10
      refine lv_aload_n hx hb dX8_mistake_64 rfl (lv_at hl 1 rfl) ?_
      refine g_40_9 E hh tb743 (E.hn 40 0 (by decide)) dX8_mistake_65 ?_
      refine lv_iconst (v := 4) hx hb dX8_mistake_68 (by decide) ?_
      refine lv_iload_n hx hb dX8_mistake_69 rfl (lv_at hl 2 rfl) ?_
      refine lv_imul hx hb dX8_mistake_70 ?_
      refine lv_iload_n hx hb dX8_mistake_71 rfl (lv_at hl 4 rfl) ?_
      refine lv_iadd hx hb dX8_mistake_72 ?_
      obtain ⟨hi11, hw⟩ := hw
      refine x_iald E hh (E.hn 44 0 (by decide)) ly_44 hi11 dX8_mistake_73 ?_
      refine lv_aload_n hx hb dX8_mistake_74 rfl (lv_at hl 1 rfl) ?_
      refine g_40_9 E hh tb743 (E.hn 40 0 (by decide)) dX8_mistake_75 ?_
      refine lv_iconst (v := 4) hx hb dX8_mistake_78 (by decide) ?_
      refine lv_iload_n hx hb dX8_mistake_79 rfl (lv_at hl 2 rfl) ?_
      refine lv_imul hx hb dX8_mistake_80 ?_
      refine lv_iload_n hx hb dX8_mistake_81 rfl (lv_at hl 3 rfl) ?_
      refine lv_iadd hx hb dX8_mistake_82 ?_
      obtain ⟨hi12, hw⟩ := hw
      refine x_iald E hh (E.hn 44 0 (by decide)) ly_44 hi12 dX8_mistake_83 ?_
      refine lv_icmp_ge (tgt := 89) hx hb dX8_mistake_84 (by decide) (fun c13 => ?_) (fun c13 => ?_)
      · have hw := ifT hw c13
        exact bX8_mistake_89 E hR15 hw hh (lv_sub hl [1, 2, 3, 4] rfl)
      · have hw := ifF hw c13
        exact bX8_mistake_87 E hR15 hw hh (lv_sub hl [1, 2, 4] rfl)
def wbX8_mistake_51 (R15 : Int32 → Int32 → St → Prop) (K : Int32 → St → Prop) (x1 : Int32) (x2 : Int32) (x3 : Int32) (S : St) : Prop := wbX8_mistake_52 R15 K x1 x2 x3 0 S
set_option maxRecDepth 4000 in
theorem bX8_mistake_51 {p : Program} {l : Launch} {e : Env} {R : Room} {s : State} {m : MethodId} {args : Array Value} {below : List Frame} {meth : Method} {c : Code} {D : va_G} {ad : Nat → Nat → Nat} {cs : Nat → ClassId} {P : Nat → Nat → Prop} {sz tU : Nat} {adK adV : Nat → Nat} {R15 : Int32 → Int32 → St → Prop} {K : Int32 → St → Prop} {x1 : Int32} {x2 : Int32} {x3 : Int32} {S : St} {H : Heap} {locs : List Loc} {ls : Array Slot} (E : Ex p s m args meth c R RX8 cX8_mistake 5 (some .int) 70 1647 D ad cs P (wA ad P) tU adK adV cnM) (hR15 : ∀ (z2 : Int32) (z3 : Int32) (S : St) (H : Heap) (locs : List Loc) (ls : Array Slot), R15 z2 z3 S → wH D ad cs P (wA ad P) s.heap sz S H locs → lv_has ls 5 [(0, .ref (ad 40 0)), (1, .int x1), (2, .int z2), (3, .int z3)] → W p l e R s m args below meth c H locs 0 0 (MQ below (va_Qi K (QX D ad cs P sz) (wA ad P)) args s 0 0 (wA ad P)) (F0 m 15 ls [])) (hw : wbX8_mistake_51 R15 K x1 x2 x3 S) (hh : wH D ad cs P (wA ad P) s.heap sz S H locs) (hl : lv_has ls 5 [(0, .ref (ad 40 0)), (1, .int x1), (2, .int x2), (3, .int x3)]) : W p l e R s m args below meth c H locs 0 0 (MQ below (va_Qi K (QX D ad cs P sz) (wA ad P)) args s 0 0 (wA ad P)) (F0 m 51 ls []) := by
  have hx := E.hx
  have hb := E.hb
  refine lv_iconst (v := 0) hx hb dX8_mistake_51 (by decide) ?_
  exact bX8_mistake_52 E hR15 hw hh (lv_sub hl [0, 1, 2, 3] rfl)
def wbX8_mistake_15 (K : Int32 → St → Prop) (x1 : Int32) : Nat → Int32 → Int32 → St → Prop
  | 0, _, _, _ => False
  | n + 1, x2, x3, S => if (S.1 40 0 8) ≤ x3 then (K x2 S) else (wpX8_mayAsk x1 x3 S (fun r4 S4 => if r4 = 0 then (wbX8_mistake_51 (fun yx2 yx3 S9 => wbX8_mistake_15 K x1 n yx2 yx3 S9) K x1 x2 x3 S4) else ((vp_in x1 4 ∧ wpX8_saysNo x1 x3 (S4.1 46 0 x1.toNatClampNeg) S4 (fun r7 S7 => if r7 = 0 then (wbX8_mistake_52 (fun yx2 yx3 S9 => wbX8_mistake_15 K x1 n yx2 yx3 S9) K x1 x2 x3 1 S7) else (wbX8_mistake_51 (fun yx2 yx3 S9 => wbX8_mistake_15 K x1 n yx2 yx3 S9) K x1 x2 x3 S7))))))
set_option maxRecDepth 4000 in
theorem bX8_mistake_15 {p : Program} {l : Launch} {e : Env} {R : Room} {s : State} {m : MethodId} {args : Array Value} {below : List Frame} {meth : Method} {c : Code} {D : va_G} {ad : Nat → Nat → Nat} {cs : Nat → ClassId} {P : Nat → Nat → Prop} {sz tU : Nat} {adK adV : Nat → Nat} {K : Int32 → St → Prop} {x1 : Int32} (E : Ex p s m args meth c R RX8 cX8_mistake 5 (some .int) 70 1647 D ad cs P (wA ad P) tU adK adV cnM) : ∀ (n : Nat) (x2 : Int32) (x3 : Int32) (S : St) (H : Heap) (locs : List Loc) (ls : Array Slot), wbX8_mistake_15 K x1 n x2 x3 S → wH D ad cs P (wA ad P) s.heap sz S H locs → lv_has ls 5 [(0, .ref (ad 40 0)), (1, .int x1), (2, .int x2), (3, .int x3)] → W p l e R s m args below meth c H locs 0 0 (MQ below (va_Qi K (QX D ad cs P sz) (wA ad P)) args s 0 0 (wA ad P)) (F0 m 15 ls []) := by
  have hx := E.hx
  have hb := E.hb
  intro n
  induction n with
  | zero => intro x2 x3 S H locs ls hw hh hl; exact hw.elim
  | succ n ih =>
    intro x2 x3 S H locs ls hw hh hl
    refine lv_iload_n hx hb dX8_mistake_15 rfl (lv_at hl 3 rfl) ?_
    refine lv_aload_n hx hb dX8_mistake_16 rfl (lv_at hl 0 rfl) ?_
    refine g_40_8 E hh tb742 (E.hn 40 0 (by decide)) dX8_mistake_17 ?_
    refine lv_icmp_ge (tgt := 95) hx hb dX8_mistake_20 (by decide) (fun c3 => ?_) (fun c3 => ?_)
    · have hw := ifT hw c3
      refine lv_iload_n hx hb dX8_mistake_95 rfl (lv_at hl 2 rfl) ?_
      exact x_iret E hh hw dX8_mistake_96
    · have hw := ifF hw c3
      refine lv_aload_n hx hb dX8_mistake_23 rfl (lv_at hl 0 rfl) ?_
      refine lv_iload_n hx hb dX8_mistake_24 rfl (lv_at hl 1 rfl) ?_
      refine lv_iload_n hx hb dX8_mistake_25 rfl (lv_at hl 3 rfl) ?_
      refine x_ci E.hA hh (x_runV E hh (mX8_mayAsk E.hI E.hn hw) kX8_mayAsk tb1052 (E.hn 40 0 (by decide)) rv_40 ⟨by decide, by decide⟩ rfl hl.1 rfl (Nat.le_of_ble_eq_true rfl) dX8_mistake_26 ⟨Nat.zero_le _, Nat.zero_le _⟩) (fun r4 S4 H locs hw hh => ?_)
      have hq4 := hw.2
      have hw := hw.1
      refine lv_if_eq (tgt := 51) hx hb dX8_mistake_29 (by decide) (fun c5 => ?_) (fun c5 => ?_)
      · have hw := ifT hw c5
        exact bX8_mistake_51 E ih hw hh (lv_sub hl [0, 1, 2, 3] rfl)
      · have hw := ifF hw c5
        refine lv_aload_n hx hb dX8_mistake_32 rfl (lv_at hl 0 rfl) ?_
        refine lv_iload_n hx hb dX8_mistake_33 rfl (lv_at hl 1 rfl) ?_
        refine lv_iload_n hx hb dX8_mistake_34 rfl (lv_at hl 3 rfl) ?_
        refine lv_aload_n hx hb dX8_mistake_35 rfl (lv_at hl 0 rfl) ?_
        refine g_40_11 E hh tb745 (E.hn 40 0 (by decide)) dX8_mistake_36 ?_
        refine lv_iload_n hx hb dX8_mistake_39 rfl (lv_at hl 1 rfl) ?_
        obtain ⟨hi6, hw⟩ := hw
        refine x_iald E hh (E.hn 46 0 (by decide)) ly_46 hi6 dX8_mistake_40 ?_
        refine x_ci E.hA hh (x_runV E hh (mX8_saysNo E.hI E.hn hw) kX8_saysNo tb1056 (E.hn 40 0 (by decide)) rv_40 ⟨by decide, by decide⟩ rfl hl.1 rfl (Nat.le_of_ble_eq_true rfl) dX8_mistake_41 ⟨Nat.zero_le _, Nat.zero_le _⟩) (fun r7 S7 H locs hw hh => ?_)
        have hq7 := hw.2
        have hw := hw.1
        refine lv_if_ne (tgt := 51) hx hb dX8_mistake_44 (by decide) (fun c8 => ?_) (fun c8 => ?_)
        · have hw := ifF hw c8
          exact bX8_mistake_51 E ih hw hh (lv_sub hl [0, 1, 2, 3] rfl)
        · have hw := ifT hw c8
          refine lv_iconst (v := 1) hx hb dX8_mistake_47 (by decide) ?_
          refine lv_goto (tgt := 52) hx hb dX8_mistake_48 (by decide) ?_
          exact bX8_mistake_52 E ih hw hh (lv_sub hl [0, 1, 2, 3] rfl)
def wpX8_mistake (x1 : Int32) (S : St) (K : Int32 → St → Prop) : Prop := wpX8_isMan x1 S (fun r1 S1 => if r1 = 0 then (K (-2) S1) else (∃ k, wbX8_mistake_15 K x1 k (-1) 0 S1))
set_option maxRecDepth 4000 in
theorem bX8_mistake {p : Program} {l : Launch} {e : Env} {R : Room} {s : State} {m : MethodId} {args : Array Value} {below : List Frame} {meth : Method} {c : Code} {D : va_G} {ad : Nat → Nat → Nat} {cs : Nat → ClassId} {P : Nat → Nat → Prop} {sz tU : Nat} {adK adV : Nat → Nat} {K : Int32 → St → Prop} {x1 : Int32} {S : St} {H : Heap} {locs : List Loc} {ls : Array Slot} (E : Ex p s m args meth c R RX8 cX8_mistake 5 (some .int) 70 1647 D ad cs P (wA ad P) tU adK adV cnM) (hw : wpX8_mistake x1 S K) (hh : wH D ad cs P (wA ad P) s.heap sz S H locs) (hl : lv_has ls 5 [(0, .ref (ad 40 0)), (1, .int x1)]) : W p l e R s m args below meth c H locs 0 0 (MQ below (va_Qi K (QX D ad cs P sz) (wA ad P)) args s 0 0 (wA ad P)) (F0 m 0 ls []) := by
  have hx := E.hx
  have hb := E.hb
  refine lv_aload_n hx hb dX8_mistake_0 rfl (lv_at hl 0 rfl) ?_
  refine lv_iload_n hx hb dX8_mistake_1 rfl (lv_at hl 1 rfl) ?_
  refine x_ci E.hA hh (x_runV E hh (mX8_isMan E.hI E.hn hw) kX8_isMan tb926 (E.hn 40 0 (by decide)) rv_40 ⟨by decide, by decide⟩ rfl hl.1 rfl (Nat.le_of_ble_eq_true rfl) dX8_mistake_2 ⟨Nat.zero_le _, Nat.zero_le _⟩) (fun r1 S1 H locs hw hh => ?_)
  have hq1 := hw.2
  have hw := hw.1
  refine lv_if_ne (tgt := 11) hx hb dX8_mistake_5 (by decide) (fun c2 => ?_) (fun c2 => ?_)
  · have hw := ifF hw c2
    refine lv_iconst (v := (-1)) hx hb dX8_mistake_11 (by decide) ?_
    refine lv_istore_n (lv' := [(2, .int (-1)), (0, .ref (ad 40 0)), (1, .int x1)]) hx hb dX8_mistake_12 rfl hl (by decide) rfl (fun ls hl => ?_)
    refine lv_iconst (v := 0) hx hb dX8_mistake_13 (by decide) ?_
    refine lv_istore_n (lv' := [(3, .int 0), (2, .int (-1)), (0, .ref (ad 40 0)), (1, .int x1)]) hx hb dX8_mistake_14 rfl hl (by decide) rfl (fun ls hl => ?_)
    obtain ⟨k, hw⟩ := hw
    exact bX8_mistake_15 E k (-1) 0 S1 _ _ _ hw hh (lv_sub hl [2, 3, 1, 0] rfl)
  · have hw := ifT hw c2
    refine lv_bipush (v := (-2)) hx hb dX8_mistake_8 (by decide) ?_
    exact x_iret E hh hw dX8_mistake_10
theorem kX8_mistake : kI yX8_mistake cX8_mistake 5 (some .int) 1 := ⟨tb1089, tb1090, tb15, tb1091, by decide, by decide, by decide +kernel⟩
theorem mX8_mistake {l : Launch} {D : va_G} {ad : Nat → Nat → Nat} {cs : Nat → ClassId} {P : Nat → Nat → Prop} {sz tU : Nat} {adK adV : Nat → Nat} {x1 : Int32} {S : St} {K : Int32 → St → Prop} (hI : wI ad P) (hn : ∀ kd i, i < cnM kd → P kd i) (hw : wpX8_mistake x1 S K) : MI l yX8_mistake cX8_mistake 5 (some .int) 70 1647 D ad cs P sz tU adK adV [.ref (ad 40 0), .int x1] S K :=
  Met_of (by decide) (Nat.le_of_ble_eq_true rfl) hI hn (fun p e R s m args below meth c ls E hl hh => bX8_mistake E  hw hh (lv_sub hl [0, 1] rfl))
def wbX8_sure_78 (R15 : Int32 → Int32 → St → Prop) (K : Int32 → St → Prop) (x1 : Int32) (x3 : Int32) (v0 : Int32) (v1 : Int32) (S : St) : Prop := R15 (v1 ||| (v0 <<< (x3 &&& 31))) (x3 + 1) S
set_option maxRecDepth 4000 in
theorem bX8_sure_78 {p : Program} {l : Launch} {e : Env} {R : Room} {s : State} {m : MethodId} {args : Array Value} {below : List Frame} {meth : Method} {c : Code} {D : va_G} {ad : Nat → Nat → Nat} {cs : Nat → ClassId} {P : Nat → Nat → Prop} {sz tU : Nat} {adK adV : Nat → Nat} {R15 : Int32 → Int32 → St → Prop} {K : Int32 → St → Prop} {x1 : Int32} {x3 : Int32} {v0 : Int32} {v1 : Int32} {S : St} {H : Heap} {locs : List Loc} {ls : Array Slot} (E : Ex p s m args meth c R RX8 cX8_sure 6 (some .int) 70 1647 D ad cs P (wA ad P) tU adK adV cnM) (hR15 : ∀ (z2 : Int32) (z3 : Int32) (S : St) (H : Heap) (locs : List Loc) (ls : Array Slot), R15 z2 z3 S → wH D ad cs P (wA ad P) s.heap sz S H locs → lv_has ls 6 [(0, .ref (ad 40 0)), (1, .int x1), (2, .int z2), (3, .int z3)] → W p l e R s m args below meth c H locs 0 0 (MQ below (va_Qi K (QX D ad cs P sz) (wA ad P)) args s 0 0 (wA ad P)) (F0 m 15 ls [])) (hw : wbX8_sure_78 R15 K x1 x3 v0 v1 S) (hh : wH D ad cs P (wA ad P) s.heap sz S H locs) (hl : lv_has ls 6 [(0, .ref (ad 40 0)), (1, .int x1), (3, .int x3)]) : W p l e R s m args below meth c H locs 0 0 (MQ below (va_Qi K (QX D ad cs P sz) (wA ad P)) args s 0 0 (wA ad P)) (F0 m 78 ls [.int v0, .int v1]) := by
  have hx := E.hx
  have hb := E.hb
  refine lv_iload_n hx hb dX8_sure_78 rfl (lv_at hl 2 rfl) ?_
  refine lv_ishl hx hb dX8_sure_79 ?_
  refine lv_ior hx hb dX8_sure_80 ?_
  refine lv_istore_n (lv' := [(2, .int (v1 ||| (v0 <<< (x3 &&& 31)))), (0, .ref (ad 40 0)), (1, .int x1), (3, .int x3)]) hx hb dX8_sure_81 rfl hl (by decide) rfl (fun ls hl => ?_)
  refine lv_iinc (k := 3) (v := x3 + 1) (lv' := [(3, .int (x3 + 1)), (2, .int (v1 ||| (v0 <<< (x3 &&& 31)))), (0, .ref (ad 40 0)), (1, .int x1)]) hx hb dX8_sure_82 hl rfl rfl (by decide) rfl (fun ls hl => ?_)
  refine lv_goto (tgt := 15) hx hb dX8_sure_85 (by decide) ?_
  exact hR15 (v1 ||| (v0 <<< (x3 &&& 31))) (x3 + 1) S _ _ _ hw hh (lv_sub hl [2, 3, 1, 0] rfl)
def wbX8_sure_67 (R15 : Int32 → Int32 → St → Prop) (K : Int32 → St → Prop) (x1 : Int32) (x2 : Int32) (x3 : Int32) (x4 : Int32) (S : St) : Prop := if x4 = 0 then (wbX8_sure_78 R15 K x1 x3 0 x2 S) else (wbX8_sure_78 R15 K x1 x3 1 x2 S)
set_option maxRecDepth 4000 in
theorem bX8_sure_67 {p : Program} {l : Launch} {e : Env} {R : Room} {s : State} {m : MethodId} {args : Array Value} {below : List Frame} {meth : Method} {c : Code} {D : va_G} {ad : Nat → Nat → Nat} {cs : Nat → ClassId} {P : Nat → Nat → Prop} {sz tU : Nat} {adK adV : Nat → Nat} {R15 : Int32 → Int32 → St → Prop} {K : Int32 → St → Prop} {x1 : Int32} {x2 : Int32} {x3 : Int32} {x4 : Int32} {S : St} {H : Heap} {locs : List Loc} {ls : Array Slot} (E : Ex p s m args meth c R RX8 cX8_sure 6 (some .int) 70 1647 D ad cs P (wA ad P) tU adK adV cnM) (hR15 : ∀ (z2 : Int32) (z3 : Int32) (S : St) (H : Heap) (locs : List Loc) (ls : Array Slot), R15 z2 z3 S → wH D ad cs P (wA ad P) s.heap sz S H locs → lv_has ls 6 [(0, .ref (ad 40 0)), (1, .int x1), (2, .int z2), (3, .int z3)] → W p l e R s m args below meth c H locs 0 0 (MQ below (va_Qi K (QX D ad cs P sz) (wA ad P)) args s 0 0 (wA ad P)) (F0 m 15 ls [])) (hw : wbX8_sure_67 R15 K x1 x2 x3 x4 S) (hh : wH D ad cs P (wA ad P) s.heap sz S H locs) (hl : lv_has ls 6 [(0, .ref (ad 40 0)), (1, .int x1), (2, .int x2), (3, .int x3), (4, .int x4)]) : W p l e R s m args below meth c H locs 0 0 (MQ below (va_Qi K (QX D ad cs P sz) (wA ad P)) args s 0 0 (wA ad P)) (F0 m 67 ls []) := by
  have hx := E.hx
  have hb := E.hb
  refine lv_iload_n hx hb dX8_sure_67 rfl (lv_at hl 2 rfl) ?_
  refine lv_iload hx hb dX8_sure_68 (lv_at hl 4 rfl) ?_
  refine lv_if_eq (tgt := 77) hx hb dX8_sure_70 (by decide) (fun c9 => ?_) (fun c9 => ?_)
  · have hw := ifT hw c9
    refine lv_iconst (v := 0) hx hb dX8_sure_77 (by decide) ?_
    exact bX8_sure_78 E hR15 hw hh (lv_sub hl [0, 1, 3] rfl)
  · have hw := ifF hw c9
    refine lv_iconst (v := 1) hx hb dX8_sure_73 (by decide) ?_
    refine lv_goto (tgt := 78) hx hb dX8_sure_74 (by decide) ?_
    exact bX8_sure_78 E hR15 hw hh (lv_sub hl [0, 1, 3] rfl)
def wbX8_sure_39 (R15 : Int32 → Int32 → St → Prop) (K : Int32 → St → Prop) (x1 : Int32) (x2 : Int32) (x3 : Int32) : Nat → Int32 → Int32 → St → Prop
  | 0, _, _, _ => False
  | n + 1, x4, x5, S => if 9 < x5 then (wbX8_sure_67 R15 K x1 x2 x3 x4 S) else (if x4 = 0 then (wbX8_sure_67 R15 K x1 x2 x3 x4 S) else (wpX8_saysNo x1 x3 x5 S (fun r8 S8 => wbX8_sure_39 R15 K x1 x2 x3 n r8 (x5 + 1) S8)))
set_option maxRecDepth 4000 in
theorem bX8_sure_39 {p : Program} {l : Launch} {e : Env} {R : Room} {s : State} {m : MethodId} {args : Array Value} {below : List Frame} {meth : Method} {c : Code} {D : va_G} {ad : Nat → Nat → Nat} {cs : Nat → ClassId} {P : Nat → Nat → Prop} {sz tU : Nat} {adK adV : Nat → Nat} {R15 : Int32 → Int32 → St → Prop} {K : Int32 → St → Prop} {x1 : Int32} {x2 : Int32} {x3 : Int32} (E : Ex p s m args meth c R RX8 cX8_sure 6 (some .int) 70 1647 D ad cs P (wA ad P) tU adK adV cnM) (hR15 : ∀ (z2 : Int32) (z3 : Int32) (S : St) (H : Heap) (locs : List Loc) (ls : Array Slot), R15 z2 z3 S → wH D ad cs P (wA ad P) s.heap sz S H locs → lv_has ls 6 [(0, .ref (ad 40 0)), (1, .int x1), (2, .int z2), (3, .int z3)] → W p l e R s m args below meth c H locs 0 0 (MQ below (va_Qi K (QX D ad cs P sz) (wA ad P)) args s 0 0 (wA ad P)) (F0 m 15 ls [])) : ∀ (n : Nat) (x4 : Int32) (x5 : Int32) (S : St) (H : Heap) (locs : List Loc) (ls : Array Slot), wbX8_sure_39 R15 K x1 x2 x3 n x4 x5 S → wH D ad cs P (wA ad P) s.heap sz S H locs → lv_has ls 6 [(0, .ref (ad 40 0)), (1, .int x1), (2, .int x2), (3, .int x3), (4, .int x4), (5, .int x5)] → W p l e R s m args below meth c H locs 0 0 (MQ below (va_Qi K (QX D ad cs P sz) (wA ad P)) args s 0 0 (wA ad P)) (F0 m 39 ls []) := by
  have hx := E.hx
  have hb := E.hb
  intro n
  induction n with
  | zero => intro x4 x5 S H locs ls hw hh hl; exact hw.elim
  | succ n ih =>
    intro x4 x5 S H locs ls hw hh hl
    refine lv_iload hx hb dX8_sure_39 (lv_at hl 5 rfl) ?_
    refine lv_bipush (v := 9) hx hb dX8_sure_41 (by decide) ?_
    refine lv_icmp_gt (tgt := 67) hx hb dX8_sure_43 (by decide) (fun c6 => ?_) (fun c6 => ?_)
    · have hw := ifT hw c6
      exact bX8_sure_67 E hR15 hw hh (lv_sub hl [0, 1, 2, 3, 4] rfl)
    · have hw := ifF hw c6
      refine lv_iload hx hb dX8_sure_46 (lv_at hl 4 rfl) ?_
      refine lv_if_eq (tgt := 67) hx hb dX8_sure_48 (by decide) (fun c7 => ?_) (fun c7 => ?_)
      · have hw := ifT hw c7
        exact bX8_sure_67 E hR15 hw hh (lv_sub hl [0, 1, 2, 3, 4] rfl)
      · have hw := ifF hw c7
        refine lv_aload_n hx hb dX8_sure_51 rfl (lv_at hl 0 rfl) ?_
        refine lv_iload_n hx hb dX8_sure_52 rfl (lv_at hl 1 rfl) ?_
        refine lv_iload_n hx hb dX8_sure_53 rfl (lv_at hl 3 rfl) ?_
        refine lv_iload hx hb dX8_sure_54 (lv_at hl 5 rfl) ?_
        refine x_ci E.hA hh (x_runV E hh (mX8_saysNo E.hI E.hn hw) kX8_saysNo tb1056 (E.hn 40 0 (by decide)) rv_40 ⟨by decide, by decide⟩ rfl hl.1 rfl (Nat.le_of_ble_eq_true rfl) dX8_sure_56 ⟨Nat.zero_le _, Nat.zero_le _⟩) (fun r8 S8 H locs hw hh => ?_)
        have hq8 := hw.2
        have hw := hw.1
        refine lv_istore (lv' := [(4, .int r8), (0, .ref (ad 40 0)), (1, .int x1), (2, .int x2), (3, .int x3), (5, .int x5)]) hx hb dX8_sure_59 hl (by decide) rfl (fun ls hl => ?_)
        refine lv_iinc (k := 5) (v := x5 + 1) (lv' := [(5, .int (x5 + 1)), (4, .int r8), (0, .ref (ad 40 0)), (1, .int x1), (2, .int x2), (3, .int x3)]) hx hb dX8_sure_61 hl rfl rfl (by decide) rfl (fun ls hl => ?_)
        refine lv_goto (tgt := 39) hx hb dX8_sure_64 (by decide) ?_
        exact ih r8 (x5 + 1) S8 _ _ _ hw hh (lv_sub hl [2, 3, 4, 5, 1, 0] rfl)
def wbX8_sure_15 (K : Int32 → St → Prop) (x1 : Int32) : Nat → Int32 → Int32 → St → Prop
  | 0, _, _, _ => False
  | n + 1, x2, x3, S => if (S.1 40 0 8) ≤ x3 then (K x2 S) else (wpX8_mayAsk x1 x3 S (fun r4 S4 => (vp_in x1 4 ∧ ∃ k, wbX8_sure_39 (fun yx2 yx3 S9 => wbX8_sure_15 K x1 n yx2 yx3 S9) K x1 x2 x3 k r4 (S4.1 46 0 x1.toNatClampNeg) S4)))
set_option maxRecDepth 4000 in
theorem bX8_sure_15 {p : Program} {l : Launch} {e : Env} {R : Room} {s : State} {m : MethodId} {args : Array Value} {below : List Frame} {meth : Method} {c : Code} {D : va_G} {ad : Nat → Nat → Nat} {cs : Nat → ClassId} {P : Nat → Nat → Prop} {sz tU : Nat} {adK adV : Nat → Nat} {K : Int32 → St → Prop} {x1 : Int32} (E : Ex p s m args meth c R RX8 cX8_sure 6 (some .int) 70 1647 D ad cs P (wA ad P) tU adK adV cnM) : ∀ (n : Nat) (x2 : Int32) (x3 : Int32) (S : St) (H : Heap) (locs : List Loc) (ls : Array Slot), wbX8_sure_15 K x1 n x2 x3 S → wH D ad cs P (wA ad P) s.heap sz S H locs → lv_has ls 6 [(0, .ref (ad 40 0)), (1, .int x1), (2, .int x2), (3, .int x3)] → W p l e R s m args below meth c H locs 0 0 (MQ below (va_Qi K (QX D ad cs P sz) (wA ad P)) args s 0 0 (wA ad P)) (F0 m 15 ls []) := by
  have hx := E.hx
  have hb := E.hb
  intro n
  induction n with
  | zero => intro x2 x3 S H locs ls hw hh hl; exact hw.elim
  | succ n ih =>
    intro x2 x3 S H locs ls hw hh hl
    refine lv_iload_n hx hb dX8_sure_15 rfl (lv_at hl 3 rfl) ?_
    refine lv_aload_n hx hb dX8_sure_16 rfl (lv_at hl 0 rfl) ?_
    refine g_40_8 E hh tb742 (E.hn 40 0 (by decide)) dX8_sure_17 ?_
    refine lv_icmp_ge (tgt := 88) hx hb dX8_sure_20 (by decide) (fun c3 => ?_) (fun c3 => ?_)
    · have hw := ifT hw c3
      refine lv_iload_n hx hb dX8_sure_88 rfl (lv_at hl 2 rfl) ?_
      exact x_iret E hh hw dX8_sure_89
    · have hw := ifF hw c3
      refine lv_aload_n hx hb dX8_sure_23 rfl (lv_at hl 0 rfl) ?_
      refine lv_iload_n hx hb dX8_sure_24 rfl (lv_at hl 1 rfl) ?_
      refine lv_iload_n hx hb dX8_sure_25 rfl (lv_at hl 3 rfl) ?_
      refine x_ci E.hA hh (x_runV E hh (mX8_mayAsk E.hI E.hn hw) kX8_mayAsk tb1052 (E.hn 40 0 (by decide)) rv_40 ⟨by decide, by decide⟩ rfl hl.1 rfl (Nat.le_of_ble_eq_true rfl) dX8_sure_26 ⟨Nat.zero_le _, Nat.zero_le _⟩) (fun r4 S4 H locs hw hh => ?_)
      have hq4 := hw.2
      have hw := hw.1
      refine lv_istore (lv' := [(4, .int r4), (0, .ref (ad 40 0)), (1, .int x1), (2, .int x2), (3, .int x3)]) hx hb dX8_sure_29 hl (by decide) rfl (fun ls hl => ?_)
      refine lv_aload_n hx hb dX8_sure_31 rfl (lv_at hl 1 rfl) ?_
      refine g_40_11 E hh tb745 (E.hn 40 0 (by decide)) dX8_sure_32 ?_
      refine lv_iload_n hx hb dX8_sure_35 rfl (lv_at hl 2 rfl) ?_
      obtain ⟨hi5, hw⟩ := hw
      refine x_iald E hh (E.hn 46 0 (by decide)) ly_46 hi5 dX8_sure_36 ?_
      refine lv_istore (lv' := [(5, .int (S4.1 46 0 x1.toNatClampNeg)), (4, .int r4), (0, .ref (ad 40 0)), (1, .int x1), (2, .int x2), (3, .int x3)]) hx hb dX8_sure_37 hl (by decide) rfl (fun ls hl => ?_)
      obtain ⟨k, hw⟩ := hw
      exact bX8_sure_39 E ih k r4 (S4.1 46 0 x1.toNatClampNeg) S4 _ _ _ hw hh (lv_sub hl [2, 3, 4, 5, 1, 0] rfl)
def wpX8_sure (x1 : Int32) (S : St) (K : Int32 → St → Prop) : Prop := wpX8_isMan x1 S (fun r1 S1 => if r1 = 0 then (K (-2) S1) else (∃ k, wbX8_sure_15 K x1 k 0 0 S1))
set_option maxRecDepth 4000 in
theorem bX8_sure {p : Program} {l : Launch} {e : Env} {R : Room} {s : State} {m : MethodId} {args : Array Value} {below : List Frame} {meth : Method} {c : Code} {D : va_G} {ad : Nat → Nat → Nat} {cs : Nat → ClassId} {P : Nat → Nat → Prop} {sz tU : Nat} {adK adV : Nat → Nat} {K : Int32 → St → Prop} {x1 : Int32} {S : St} {H : Heap} {locs : List Loc} {ls : Array Slot} (E : Ex p s m args meth c R RX8 cX8_sure 6 (some .int) 70 1647 D ad cs P (wA ad P) tU adK adV cnM) (hw : wpX8_sure x1 S K) (hh : wH D ad cs P (wA ad P) s.heap sz S H locs) (hl : lv_has ls 6 [(0, .ref (ad 40 0)), (1, .int x1)]) : W p l e R s m args below meth c H locs 0 0 (MQ below (va_Qi K (QX D ad cs P sz) (wA ad P)) args s 0 0 (wA ad P)) (F0 m 0 ls []) := by
  have hx := E.hx
  have hb := E.hb
  refine lv_aload_n hx hb dX8_sure_0 rfl (lv_at hl 0 rfl) ?_
  refine lv_iload_n hx hb dX8_sure_1 rfl (lv_at hl 1 rfl) ?_
  refine x_ci E.hA hh (x_runV E hh (mX8_isMan E.hI E.hn hw) kX8_isMan tb926 (E.hn 40 0 (by decide)) rv_40 ⟨by decide, by decide⟩ rfl hl.1 rfl (Nat.le_of_ble_eq_true rfl) dX8_sure_2 ⟨Nat.zero_le _, Nat.zero_le _⟩) (fun r1 S1 H locs hw hh => ?_)
  have hq1 := hw.2
  have hw := hw.1
  refine lv_if_ne (tgt := 11) hx hb dX8_sure_5 (by decide) (fun c2 => ?_) (fun c2 => ?_)
  · have hw := ifF hw c2
    refine lv_iconst (v := 0) hx hb dX8_sure_11 (by decide) ?_
    refine lv_istore_n (lv' := [(2, .int 0), (0, .ref (ad 40 0)), (1, .int x1)]) hx hb dX8_sure_12 rfl hl (by decide) rfl (fun ls hl => ?_)
    refine lv_iconst (v := 0) hx hb dX8_sure_13 (by decide) ?_
    refine lv_istore_n (lv' := [(3, .int 0), (2, .int 0), (0, .ref (ad 40 0)), (1, .int x1)]) hx hb dX8_sure_14 rfl hl (by decide) rfl (fun ls hl => ?_)
    obtain ⟨k, hw⟩ := hw
    exact bX8_sure_15 E k 0 0 S1 _ _ _ hw hh (lv_sub hl [2, 3, 1, 0] rfl)
  · have hw := ifT hw c2
    refine lv_bipush (v := (-2)) hx hb dX8_sure_8 (by decide) ?_
    exact x_iret E hh hw dX8_sure_10
theorem kX8_sure : kI yX8_sure cX8_sure 6 (some .int) 1 := ⟨tb1093, tb1094, tb15, tb1095, by decide, by decide, by decide +kernel⟩
theorem mX8_sure {l : Launch} {D : va_G} {ad : Nat → Nat → Nat} {cs : Nat → ClassId} {P : Nat → Nat → Prop} {sz tU : Nat} {adK adV : Nat → Nat} {x1 : Int32} {S : St} {K : Int32 → St → Prop} (hI : wI ad P) (hn : ∀ kd i, i < cnM kd → P kd i) (hw : wpX8_sure x1 S K) : MI l yX8_sure cX8_sure 6 (some .int) 70 1647 D ad cs P sz tU adK adV [.ref (ad 40 0), .int x1] S K :=
  Met_of (by decide) (Nat.le_of_ble_eq_true rfl) hI hn (fun p e R s m args below meth c ls E hl hh => bX8_sure E  hw hh (lv_sub hl [0, 1] rfl))
def wbX8_gathers_12 (R2 : Int32 → St → Prop) (K : St → Prop) (x1 : Int32) : Nat → Int32 → St → Prop
  | 0, _, _ => False
  | n + 1, x2, S => if (S.1 40 0 8) ≤ x2 then (R2 (x1 + 1) S) else ((vp_in x1 4 ∧ wpX8_saysNo x1 x2 (S.1 46 0 x1.toNatClampNeg) S (fun r4 S4 => (vp_in ((4 * x1) + x2) 16 ∧ ∀ S5, S5 = su S4 58 0 ((4 * x1) + x2).toNatClampNeg (vp_nar .boolean r4) → wpX8_worth x1 x2 S5 (fun r6 S6 => (vp_in ((4 * x1) + x2) 16 ∧ ∀ S7, S7 = su S6 59 0 ((4 * x1) + x2).toNatClampNeg r6 → wbX8_gathers_12 R2 K x1 n (x2 + 1) S7))))))
set_option maxRecDepth 4000 in
theorem bX8_gathers_12 {p : Program} {l : Launch} {e : Env} {R : Room} {s : State} {m : MethodId} {args : Array Value} {below : List Frame} {meth : Method} {c : Code} {D : va_G} {ad : Nat → Nat → Nat} {cs : Nat → ClassId} {P : Nat → Nat → Prop} {sz tU : Nat} {adK adV : Nat → Nat} {R2 : Int32 → St → Prop} {K : St → Prop} {x1 : Int32} (E : Ex p s m args meth c R RX8 cX8_gathers 3 none 70 1647 D ad cs P (wA ad P) tU adK adV cnM) (hR2 : ∀ (z1 : Int32) (S : St) (H : Heap) (locs : List Loc) (ls : Array Slot), R2 z1 S → wH D ad cs P (wA ad P) s.heap sz S H locs → lv_has ls 3 [(0, .ref (ad 40 0)), (1, .int z1)] → W p l e R s m args below meth c H locs 0 0 (MQ below (va_Qv K (QX D ad cs P sz) (wA ad P)) args s 0 0 (wA ad P)) (F0 m 2 ls [])) : ∀ (n : Nat) (x2 : Int32) (S : St) (H : Heap) (locs : List Loc) (ls : Array Slot), wbX8_gathers_12 R2 K x1 n x2 S → wH D ad cs P (wA ad P) s.heap sz S H locs → lv_has ls 3 [(0, .ref (ad 40 0)), (1, .int x1), (2, .int x2)] → W p l e R s m args below meth c H locs 0 0 (MQ below (va_Qv K (QX D ad cs P sz) (wA ad P)) args s 0 0 (wA ad P)) (F0 m 12 ls []) := by
  have hx := E.hx
  have hb := E.hb
  intro n
  induction n with
  | zero => intro x2 S H locs ls hw hh hl; exact hw.elim
  | succ n ih =>
    intro x2 S H locs ls hw hh hl
    refine lv_iload_n hx hb dX8_gathers_12 rfl (lv_at hl 2 rfl) ?_
    refine lv_aload_n hx hb dX8_gathers_13 rfl (lv_at hl 0 rfl) ?_
    refine g_40_8 E hh tb742 (E.hn 40 0 (by decide)) dX8_gathers_14 ?_
    refine lv_icmp_ge (tgt := 64) hx hb dX8_gathers_17 (by decide) (fun c2 => ?_) (fun c2 => ?_)
    · have hw := ifT hw c2
      refine lv_iinc (k := 1) (v := x1 + 1) (lv' := [(1, .int (x1 + 1)), (0, .ref (ad 40 0)), (2, .int x2)]) hx hb dX8_gathers_64 hl rfl rfl (by decide) rfl (fun ls hl => ?_)
      refine lv_goto (tgt := 2) hx hb dX8_gathers_67 (by decide) ?_
      exact hR2 (x1 + 1) S _ _ _ hw hh (lv_sub hl [1, 0] rfl)
    · have hw := ifF hw c2
      refine lv_aload_n hx hb dX8_gathers_20 rfl (lv_at hl 0 rfl) ?_
      refine g_40_44 E hh tb778 (E.hn 40 0 (by decide)) dX8_gathers_21 ?_
      refine lv_iconst (v := 4) hx hb dX8_gathers_24 (by decide) ?_
      refine lv_iload_n hx hb dX8_gathers_25 rfl (lv_at hl 1 rfl) ?_
      refine lv_imul hx hb dX8_gathers_26 ?_
      refine lv_iload_n hx hb dX8_gathers_27 rfl (lv_at hl 2 rfl) ?_
      refine lv_iadd hx hb dX8_gathers_28 ?_
      refine lv_aload_n hx hb dX8_gathers_29 rfl (lv_at hl 0 rfl) ?_
      refine lv_iload_n hx hb dX8_gathers_30 rfl (lv_at hl 1 rfl) ?_
      refine lv_iload_n hx hb dX8_gathers_31 rfl (lv_at hl 2 rfl) ?_
      refine lv_aload_n hx hb dX8_gathers_32 rfl (lv_at hl 0 rfl) ?_
      refine g_40_11 E hh tb745 (E.hn 40 0 (by decide)) dX8_gathers_33 ?_
      refine lv_iload_n hx hb dX8_gathers_36 rfl (lv_at hl 1 rfl) ?_
      obtain ⟨hi3, hw⟩ := hw
      refine x_iald E hh (E.hn 46 0 (by decide)) ly_46 hi3 dX8_gathers_37 ?_
      refine x_ci E.hA hh (x_runV E hh (mX8_saysNo E.hI E.hn hw) kX8_saysNo tb1056 (E.hn 40 0 (by decide)) rv_40 ⟨by decide, by decide⟩ rfl hl.1 rfl (Nat.le_of_ble_eq_true rfl) dX8_gathers_38 ⟨Nat.zero_le _, Nat.zero_le _⟩) (fun r4 S4 H locs hw hh => ?_)
      have hq4 := hw.2
      have hw := hw.1
      obtain ⟨hi5, hw⟩ := hw
      refine x_zast E hh (E.hn 58 0 (by decide)) ly_58 hi5 dX8_gathers_41 (fun S5 H locs e5 hh => ?_)
      have hw := hw S5 e5
      refine lv_aload_n hx hb dX8_gathers_42 rfl (lv_at hl 0 rfl) ?_
      refine g_40_45 E hh tb779 (E.hn 40 0 (by decide)) dX8_gathers_43 ?_
      refine lv_iconst (v := 4) hx hb dX8_gathers_46 (by decide) ?_
      refine lv_iload_n hx hb dX8_gathers_47 rfl (lv_at hl 1 rfl) ?_
      refine lv_imul hx hb dX8_gathers_48 ?_
      refine lv_iload_n hx hb dX8_gathers_49 rfl (lv_at hl 2 rfl) ?_
      refine lv_iadd hx hb dX8_gathers_50 ?_
      refine lv_aload_n hx hb dX8_gathers_51 rfl (lv_at hl 0 rfl) ?_
      refine lv_iload_n hx hb dX8_gathers_52 rfl (lv_at hl 1 rfl) ?_
      refine lv_iload_n hx hb dX8_gathers_53 rfl (lv_at hl 2 rfl) ?_
      refine x_ci E.hA hh (x_runV E hh (mX8_worth E.hI E.hn hw) kX8_worth tb1041 (E.hn 40 0 (by decide)) rv_40 ⟨by decide, by decide⟩ rfl hl.1 rfl (Nat.le_of_ble_eq_true rfl) dX8_gathers_54 ⟨Nat.zero_le _, Nat.zero_le _⟩) (fun r6 S6 H locs hw hh => ?_)
      obtain ⟨hi7, hw⟩ := hw
      refine x_iast E hh (E.hn 59 0 (by decide)) ly_59 hi7 dX8_gathers_57 (fun S7 H locs e7 hh => ?_)
      have hw := hw S7 e7
      refine lv_iinc (k := 2) (v := x2 + 1) (lv' := [(2, .int (x2 + 1)), (0, .ref (ad 40 0)), (1, .int x1)]) hx hb dX8_gathers_58 hl rfl rfl (by decide) rfl (fun ls hl => ?_)
      refine lv_goto (tgt := 12) hx hb dX8_gathers_61 (by decide) ?_
      exact ih (x2 + 1) S7 _ _ _ hw hh (lv_sub hl [1, 2, 0] rfl)
def wbX8_gathers_2 (K : St → Prop) : Nat → Int32 → St → Prop
  | 0, _, _ => False
  | n + 1, x1, S => if (S.1 40 0 7) ≤ x1 then (K S) else (∃ k, wbX8_gathers_12 (fun yx1 S9 => wbX8_gathers_2 K n yx1 S9) K x1 k 0 S)
set_option maxRecDepth 4000 in
theorem bX8_gathers_2 {p : Program} {l : Launch} {e : Env} {R : Room} {s : State} {m : MethodId} {args : Array Value} {below : List Frame} {meth : Method} {c : Code} {D : va_G} {ad : Nat → Nat → Nat} {cs : Nat → ClassId} {P : Nat → Nat → Prop} {sz tU : Nat} {adK adV : Nat → Nat} {K : St → Prop} (E : Ex p s m args meth c R RX8 cX8_gathers 3 none 70 1647 D ad cs P (wA ad P) tU adK adV cnM) : ∀ (n : Nat) (x1 : Int32) (S : St) (H : Heap) (locs : List Loc) (ls : Array Slot), wbX8_gathers_2 K n x1 S → wH D ad cs P (wA ad P) s.heap sz S H locs → lv_has ls 3 [(0, .ref (ad 40 0)), (1, .int x1)] → W p l e R s m args below meth c H locs 0 0 (MQ below (va_Qv K (QX D ad cs P sz) (wA ad P)) args s 0 0 (wA ad P)) (F0 m 2 ls []) := by
  have hx := E.hx
  have hb := E.hb
  intro n
  induction n with
  | zero => intro x1 S H locs ls hw hh hl; exact hw.elim
  | succ n ih =>
    intro x1 S H locs ls hw hh hl
    refine lv_iload_n hx hb dX8_gathers_2 rfl (lv_at hl 1 rfl) ?_
    refine lv_aload_n hx hb dX8_gathers_3 rfl (lv_at hl 0 rfl) ?_
    refine g_40_7 E hh tb741 (E.hn 40 0 (by decide)) dX8_gathers_4 ?_
    refine lv_icmp_ge (tgt := 70) hx hb dX8_gathers_7 (by decide) (fun c1 => ?_) (fun c1 => ?_)
    · have hw := ifT hw c1
      exact x_vret E hh hw dX8_gathers_70
    · have hw := ifF hw c1
      refine lv_iconst (v := 0) hx hb dX8_gathers_10 (by decide) ?_
      refine lv_istore_n (lv' := [(2, .int 0), (0, .ref (ad 40 0)), (1, .int x1)]) hx hb dX8_gathers_11 rfl hl (by decide) rfl (fun ls hl => ?_)
      obtain ⟨k, hw⟩ := hw
      exact bX8_gathers_12 E ih k 0 S _ _ _ hw hh (lv_sub hl [1, 2, 0] rfl)
def wpX8_gathers (S : St) (K : St → Prop) : Prop := ∃ k, wbX8_gathers_2 K k 0 S
set_option maxRecDepth 4000 in
theorem bX8_gathers {p : Program} {l : Launch} {e : Env} {R : Room} {s : State} {m : MethodId} {args : Array Value} {below : List Frame} {meth : Method} {c : Code} {D : va_G} {ad : Nat → Nat → Nat} {cs : Nat → ClassId} {P : Nat → Nat → Prop} {sz tU : Nat} {adK adV : Nat → Nat} {K : St → Prop} {S : St} {H : Heap} {locs : List Loc} {ls : Array Slot} (E : Ex p s m args meth c R RX8 cX8_gathers 3 none 70 1647 D ad cs P (wA ad P) tU adK adV cnM) (hw : wpX8_gathers S K) (hh : wH D ad cs P (wA ad P) s.heap sz S H locs) (hl : lv_has ls 3 [(0, .ref (ad 40 0))]) : W p l e R s m args below meth c H locs 0 0 (MQ below (va_Qv K (QX D ad cs P sz) (wA ad P)) args s 0 0 (wA ad P)) (F0 m 0 ls []) := by
  have hx := E.hx
  have hb := E.hb
  refine lv_iconst (v := 0) hx hb dX8_gathers_0 (by decide) ?_
  refine lv_istore_n (lv' := [(1, .int 0), (0, .ref (ad 40 0))]) hx hb dX8_gathers_1 rfl hl (by decide) rfl (fun ls hl => ?_)
  obtain ⟨k, hw⟩ := hw
  exact bX8_gathers_2 E k 0 S _ _ _ hw hh (lv_sub hl [1, 0] rfl)
theorem kX8_gathers : kI yX8_gathers cX8_gathers 3 none 0 := ⟨tb1106, ts56, tb15, tb1107, by decide, by decide, by decide +kernel⟩
theorem mX8_gathers {l : Launch} {D : va_G} {ad : Nat → Nat → Nat} {cs : Nat → ClassId} {P : Nat → Nat → Prop} {sz tU : Nat} {adK adV : Nat → Nat} {S : St} {K : St → Prop} (hI : wI ad P) (hn : ∀ kd i, i < cnM kd → P kd i) (hw : wpX8_gathers S K) : MV l yX8_gathers cX8_gathers 3 none 70 1647 D ad cs P sz tU adK adV [.ref (ad 40 0)] S K :=
  Met_of (by decide) (Nat.le_of_ble_eq_true rfl) hI hn (fun p e R s m args below meth c ls E hl hh => bX8_gathers E  hw hh (lv_sub hl [0] rfl))
