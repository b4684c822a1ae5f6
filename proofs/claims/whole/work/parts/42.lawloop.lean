/-! the law's loop, written by wip/whole/tools/law.py -/
def wbL_law_1102 (L : Nat) (xs : Nat → Int32) (R18 : Int32 → St → Prop) (K : Int32 → St → Prop) (x3 : Int32) (S : St) : Prop := R18 (x3 + 6) S
set_option maxRecDepth 4000 in
theorem bL_law_1102 {p : Program} {l : Launch} {e : Env} {s : State} {m : MethodId} {bs : Nat} {below : List Frame} {meth : Method} {c : Code} {D : va_G} {ad : Nat → Nat → Nat} {cs : Nat → ClassId} {P : Nat → Nat → Prop} {sz tU : Nat} {adK adV : Nat → Nat} {L : Nat} {xs : Nat → Int32} {R18 : Int32 → St → Prop} {K : Int32 → St → Prop} {x3 : Int32} {S : St} {H : Heap} {locs : List Loc} {ls : Array Slot} (E : Ex p s m #[Value.ref bs] meth c room_1 R_law code 4 ret 80 1932 D ad cs P (fun q => s.heap.size ≤ q) tU adK adV cnL) (hX : va_X bs L xs s s.heap) (hbl : bs < s.heap.size) (hbA : ¬ s.heap.size ≤ bs) (hR18 : ∀ (z3 : Int32) (S : St) (H : Heap) (locs : List Loc) (ls : Array Slot), R18 z3 S → wH D ad cs P (fun q => s.heap.size ≤ q) s.heap sz S H locs → lv_has ls 4 [(0, .ref bs), (1, .ref (ad 0 0)), (2, .ref (ad 40 0)), (3, .int z3)] → W p l e room_1 s m #[Value.ref bs] below meth c H locs 600000 7302249 (lw_Z below #[Value.ref bs] s) (F0 m 18 ls [])) (hw : wbL_law_1102 L xs R18 K x3 S) (hh : wH D ad cs P (fun q => s.heap.size ≤ q) s.heap sz S H locs) (hl : lv_has ls 4 [(0, .ref bs), (1, .ref (ad 0 0)), (2, .ref (ad 40 0)), (3, .int x3)]) : W p l e room_1 s m #[Value.ref bs] below meth c H locs 600000 7302249 (lw_Z below #[Value.ref bs] s) (F0 m 1102 ls []) := by
  have hx := E.hx
  have hb := E.hb
  refine lv_iinc (k := 3) (v := x3 + 6) (lv' := [(3, .int (x3 + 6)), (0, .ref bs), (1, .ref (ad 0 0)), (2, .ref (ad 40 0))]) hx hb dL_law_1102 hl rfl rfl (by decide) rfl (fun ls hl => ?_)
  refine lv_goto (tgt := 18) hx hb dL_law_1105 (by decide) ?_
  exact hR18 (x3 + 6) S _ _ _ hw hh (lv_sub hl [1, 2, 3, 0] rfl)
def wbL_law_18 (L : Nat) (xs : Nat → Int32) (K : Int32 → St → Prop) : Nat → Int32 → St → Prop
  | 0, _, _ => False
  | n + 1, x3, S => if ((Int32.ofNat L) - 6) < x3 then True else ((vp_in x3 L ∧ (if ((xs x3.toNatClampNeg) &&& 31) = 0 then ((vp_in (x3 + 1) L ∧ wpX7_man (xs (x3 + 1).toNatClampNeg) S (fun r5 S5 => (vp_in (x3 + 1) L ∧ wpX8_man (xs (x3 + 1).toNatClampNeg) S5 (fun r7 S7 => if r5 = r7 then (wbL_law_1102 L xs (fun yx3 S9 => wbL_law_18 L xs K n yx3 S9) K x3 S7) else False))))) else (if ((xs x3.toNatClampNeg) &&& 31) = 1 then ((vp_in (x3 + 1) L ∧ (vp_in (x3 + 2) L ∧ wpX7_maid (xs (x3 + 1).toNatClampNeg) (xs (x3 + 2).toNatClampNeg) S (fun r12 S12 => (vp_in (x3 + 1) L ∧ (vp_in (x3 + 2) L ∧ wpX8_maid (xs (x3 + 1).toNatClampNeg) (xs (x3 + 2).toNatClampNeg) S12 (fun r15 S15 => if r12 = r15 then (wbL_law_1102 L xs (fun yx3 S9 => wbL_law_18 L xs K n yx3 S9) K x3 S15) else False))))))) else (if ((xs x3.toNatClampNeg) &&& 31) = 2 then ((vp_in (x3 + 1) L ∧ (vp_in (x3 + 2) L ∧ (vp_in (x3 + 3) L ∧ (vp_in (x3 + 4) L ∧ wpX7_likes (xs (x3 + 1).toNatClampNeg) (xs (x3 + 2).toNatClampNeg) (xs (x3 + 3).toNatClampNeg) (xs (x3 + 4).toNatClampNeg) S (fun r22 S22 => (vp_in (x3 + 1) L ∧ (vp_in (x3 + 2) L ∧ (vp_in (x3 + 3) L ∧ (vp_in (x3 + 4) L ∧ wpX8_likes (xs (x3 + 1).toNatClampNeg) (xs (x3 + 2).toNatClampNeg) (xs (x3 + 3).toNatClampNeg) (xs (x3 + 4).toNatClampNeg) S22 (fun r27 S27 => if r22 = r27 then (wbL_law_1102 L xs (fun yx3 S9 => wbL_law_18 L xs K n yx3 S9) K x3 S27) else False))))))))))) else (if ((xs x3.toNatClampNeg) &&& 31) = 3 then ((vp_in (x3 + 1) L ∧ (vp_in (x3 + 2) L ∧ (vp_in (x3 + 3) L ∧ wpX7_set (xs (x3 + 1).toNatClampNeg) (xs (x3 + 2).toNatClampNeg) (xs (x3 + 3).toNatClampNeg) S (fun r33 S33 => (vp_in (x3 + 1) L ∧ (vp_in (x3 + 2) L ∧ (vp_in (x3 + 3) L ∧ wpX8_set (xs (x3 + 1).toNatClampNeg) (xs (x3 + 2).toNatClampNeg) (xs (x3 + 3).toNatClampNeg) S33 (fun r37 S37 => if r33 = r37 then (wbL_law_1102 L xs (fun yx3 S9 => wbL_law_18 L xs K n yx3 S9) K x3 S37) else False))))))))) else (if ((xs x3.toNatClampNeg) &&& 31) = 4 then ((vp_in (x3 + 1) L ∧ (vp_in (x3 + 2) L ∧ (vp_in (x3 + 3) L ∧ wpX7_told (xs (x3 + 1).toNatClampNeg) (xs (x3 + 2).toNatClampNeg) (xs (x3 + 3).toNatClampNeg) S (fun r43 S43 => (vp_in (x3 + 1) L ∧ (vp_in (x3 + 2) L ∧ (vp_in (x3 + 3) L ∧ wpX8_told (xs (x3 + 1).toNatClampNeg) (xs (x3 + 2).toNatClampNeg) (xs (x3 + 3).toNatClampNeg) S43 (fun r47 S47 => if r43 = r47 then (wbL_law_1102 L xs (fun yx3 S9 => wbL_law_18 L xs K n yx3 S9) K x3 S47) else False))))))))) else (if ((xs x3.toNatClampNeg) &&& 31) = 5 then ((vp_in (x3 + 1) L ∧ (vp_in (x3 + 2) L ∧ wpX7_of (xs (x3 + 1).toNatClampNeg) (xs (x3 + 2).toNatClampNeg) S (fun r52 S52 => (vp_in (x3 + 1) L ∧ (vp_in (x3 + 2) L ∧ wpX8_of (xs (x3 + 1).toNatClampNeg) (xs (x3 + 2).toNatClampNeg) S52 (fun r55 S55 => if r52 = r55 then (wbL_law_1102 L xs (fun yx3 S9 => wbL_law_18 L xs K n yx3 S9) K x3 S55) else False))))))) else (if ((xs x3.toNatClampNeg) &&& 31) = 6 then ((vp_in (x3 + 1) L ∧ wpX7_feed (xs (x3 + 1).toNatClampNeg) S (fun r59 S59 => (vp_in (x3 + 1) L ∧ wpX8_feed (xs (x3 + 1).toNatClampNeg) S59 (fun r61 S61 => if r59 = r61 then (wbL_law_1102 L xs (fun yx3 S9 => wbL_law_18 L xs K n yx3 S9) K x3 S61) else False))))) else (if ((xs x3.toNatClampNeg) &&& 31) = 7 then (wpX7_text S (fun r64 S64 => wpX8_text S64 (fun r65 S65 => if r64 = r65 then (wbL_law_1102 L xs (fun yx3 S9 => wbL_law_18 L xs K n yx3 S9) K x3 S65) else False))) else (if ((xs x3.toNatClampNeg) &&& 31) = 8 then ((vp_in (x3 + 1) L ∧ wpX7_force (xs (x3 + 1).toNatClampNeg) S (fun r69 S69 => (vp_in (x3 + 1) L ∧ wpX8_force (xs (x3 + 1).toNatClampNeg) S69 (fun r71 S71 => if r69 = r71 then (wbL_law_1102 L xs (fun yx3 S9 => wbL_law_18 L xs K n yx3 S9) K x3 S71) else False))))) else (if ((xs x3.toNatClampNeg) &&& 31) = 9 then ((vp_in (x3 + 1) L ∧ (vp_in (x3 + 2) L ∧ wpX7_ask (xs (x3 + 1).toNatClampNeg) (xs (x3 + 2).toNatClampNeg) S (fun r76 S76 => (vp_in (x3 + 1) L ∧ (vp_in (x3 + 2) L ∧ wpX8_ask (xs (x3 + 1).toNatClampNeg) (xs (x3 + 2).toNatClampNeg) S76 (fun r79 S79 => if r76 = r79 then (wbL_law_1102 L xs (fun yx3 S9 => wbL_law_18 L xs K n yx3 S9) K x3 S79) else False))))))) else (if ((xs x3.toNatClampNeg) &&& 31) = 10 then ((vp_in (x3 + 1) L ∧ wpX7_part (xs (x3 + 1).toNatClampNeg) S (fun r83 S83 => (vp_in (x3 + 1) L ∧ wpX8_part_ (xs (x3 + 1).toNatClampNeg) S83 (fun r85 S85 => if r83 = r85 then (wbL_law_1102 L xs (fun yx3 S9 => wbL_law_18 L xs K n yx3 S9) K x3 S85) else False))))) else (if ((xs x3.toNatClampNeg) &&& 31) = 11 then ((vp_in (x3 + 1) L ∧ (vp_in (x3 + 2) L ∧ (vp_in (x3 + 3) L ∧ (vp_in (x3 + 4) L ∧ wpX7_way (xs (x3 + 1).toNatClampNeg) (xs (x3 + 2).toNatClampNeg) (xs (x3 + 3).toNatClampNeg) (xs (x3 + 4).toNatClampNeg) S (fun r92 S92 => (vp_in (x3 + 1) L ∧ (vp_in (x3 + 2) L ∧ (vp_in (x3 + 3) L ∧ (vp_in (x3 + 4) L ∧ wpX8_way (xs (x3 + 1).toNatClampNeg) (xs (x3 + 2).toNatClampNeg) (xs (x3 + 3).toNatClampNeg) (xs (x3 + 4).toNatClampNeg) S92 (fun r97 S97 => if r92 = r97 then (wbL_law_1102 L xs (fun yx3 S9 => wbL_law_18 L xs K n yx3 S9) K x3 S97) else False))))))))))) else (if ((xs x3.toNatClampNeg) &&& 31) = 12 then ((vp_in (x3 + 1) L ∧ wpX7_mistake (xs (x3 + 1).toNatClampNeg) S (fun r101 S101 => (vp_in (x3 + 1) L ∧ wpX8_mistake (xs (x3 + 1).toNatClampNeg) S101 (fun r103 S103 => if r101 = r103 then (wbL_law_1102 L xs (fun yx3 S9 => wbL_law_18 L xs K n yx3 S9) K x3 S103) else False))))) else (if ((xs x3.toNatClampNeg) &&& 31) = 13 then ((vp_in (x3 + 1) L ∧ wpX7_sure (xs (x3 + 1).toNatClampNeg) S (fun r107 S107 => (vp_in (x3 + 1) L ∧ wpX8_sure (xs (x3 + 1).toNatClampNeg) S107 (fun r109 S109 => if r107 = r109 then (wbL_law_1102 L xs (fun yx3 S9 => wbL_law_18 L xs K n yx3 S9) K x3 S109) else False))))) else (if ((xs x3.toNatClampNeg) &&& 31) = 14 then ((vp_in (x3 + 1) L ∧ wpX7_pairings (xs (x3 + 1).toNatClampNeg) S (fun r113 S113 => (vp_in (x3 + 1) L ∧ wpX8_pairings (xs (x3 + 1).toNatClampNeg) S113 (fun r115 S115 => if r113 = r115 then (wbL_law_1102 L xs (fun yx3 S9 => wbL_law_18 L xs K n yx3 S9) K x3 S115) else False))))) else (if ((xs x3.toNatClampNeg) &&& 31) = 15 then ((vp_in (x3 + 1) L ∧ (vp_in (x3 + 2) L ∧ wpX7_best (xs (x3 + 1).toNatClampNeg) (xs (x3 + 2).toNatClampNeg) S (fun r120 S120 => (vp_in (x3 + 1) L ∧ (vp_in (x3 + 2) L ∧ wpX8_best (xs (x3 + 1).toNatClampNeg) (xs (x3 + 2).toNatClampNeg) S120 (fun r123 S123 => if r120 = r123 then (wbL_law_1102 L xs (fun yx3 S9 => wbL_law_18 L xs K n yx3 S9) K x3 S123) else False))))))) else (if ((xs x3.toNatClampNeg) &&& 31) = 16 then ((vp_in (x3 + 1) L ∧ wpX7_row (xs (x3 + 1).toNatClampNeg) S (fun r127 S127 => (vp_in (x3 + 1) L ∧ wpX8_row (xs (x3 + 1).toNatClampNeg) S127 (fun r129 S129 => if r127 = r129 then (wbL_law_1102 L xs (fun yx3 S9 => wbL_law_18 L xs K n yx3 S9) K x3 S129) else False))))) else (if ((xs x3.toNatClampNeg) &&& 31) = 17 then ((vp_in (x3 + 1) L ∧ (vp_in (x3 + 2) L ∧ wpX7_year (xs (x3 + 1).toNatClampNeg) (xs (x3 + 2).toNatClampNeg) S (fun r134 S134 => (vp_in (x3 + 1) L ∧ (vp_in (x3 + 2) L ∧ wpX8_year (xs (x3 + 1).toNatClampNeg) (xs (x3 + 2).toNatClampNeg) S134 (fun r137 S137 => if r134 = r137 then (wbL_law_1102 L xs (fun yx3 S9 => wbL_law_18 L xs K n yx3 S9) K x3 S137) else False))))))) else (if ((xs x3.toNatClampNeg) &&& 31) = 18 then ((vp_in (x3 + 1) L ∧ (vp_in (x3 + 2) L ∧ wpX7_judge (xs (x3 + 1).toNatClampNeg) (xs (x3 + 2).toNatClampNeg) S (fun r142 S142 => (vp_in (x3 + 1) L ∧ (vp_in (x3 + 2) L ∧ wpX8_judge (xs (x3 + 1).toNatClampNeg) (xs (x3 + 2).toNatClampNeg) S142 (fun r145 S145 => if r142 = r145 then (wbL_law_1102 L xs (fun yx3 S9 => wbL_law_18 L xs K n yx3 S9) K x3 S145) else False))))))) else (if ((xs x3.toNatClampNeg) &&& 31) = 19 then ((vp_in (x3 + 1) L ∧ wpX7_drawn (xs (x3 + 1).toNatClampNeg) S (fun r149 S149 => (vp_in (x3 + 1) L ∧ wpX8_drawn (xs (x3 + 1).toNatClampNeg) S149 (fun r151 S151 => if r149 = r151 then (wbL_law_1102 L xs (fun yx3 S9 => wbL_law_18 L xs K n yx3 S9) K x3 S151) else False))))) else (if ((xs x3.toNatClampNeg) &&& 31) = 20 then ((vp_in (x3 + 1) L ∧ (vp_in (x3 + 2) L ∧ (vp_in (x3 + 3) L ∧ wpX7_chance (xs (x3 + 1).toNatClampNeg) (xs (x3 + 2).toNatClampNeg) (xs (x3 + 3).toNatClampNeg) S (fun r157 S157 => (vp_in (x3 + 1) L ∧ (vp_in (x3 + 2) L ∧ (vp_in (x3 + 3) L ∧ wpX8_chance (xs (x3 + 1).toNatClampNeg) (xs (x3 + 2).toNatClampNeg) (xs (x3 + 3).toNatClampNeg) S157 (fun r161 S161 => if (lg_cmp r157 r161) = 0 then (wbL_law_1102 L xs (fun yx3 S9 => wbL_law_18 L xs K n yx3 S9) K x3 S161) else False))))))))) else (if ((xs x3.toNatClampNeg) &&& 31) = 21 then (wpX7_image S (fun r164 S164 => wpX8_image S164 (fun r165 S165 => if r164 = r165 then (wbL_law_1102 L xs (fun yx3 S9 => wbL_law_18 L xs K n yx3 S9) K x3 S165) else False))) else (if ((xs x3.toNatClampNeg) &&& 31) = 22 then (wpX7_back S (fun r168 S168 => wpX8_back S168 (fun r169 S169 => if r168 = r169 then (wbL_law_1102 L xs (fun yx3 S9 => wbL_law_18 L xs K n yx3 S9) K x3 S169) else False))) else (if ((xs x3.toNatClampNeg) &&& 31) = 23 then ((vp_in (x3 + 1) L ∧ wpX7_count (xs (x3 + 1).toNatClampNeg) S (fun r173 S173 => (vp_in (x3 + 1) L ∧ wpX8_count (xs (x3 + 1).toNatClampNeg) S173 (fun r175 S175 => if r173 = r175 then (wbL_law_1102 L xs (fun yx3 S9 => wbL_law_18 L xs K n yx3 S9) K x3 S175) else False))))) else (if ((xs x3.toNatClampNeg) &&& 31) = 24 then ((vp_in (x3 + 1) L ∧ (vp_in (x3 + 2) L ∧ (vp_in (x3 + 3) L ∧ wpX7_sheet (xs (x3 + 1).toNatClampNeg) (xs (x3 + 2).toNatClampNeg) (xs (x3 + 3).toNatClampNeg) S (fun r181 S181 => (vp_in (x3 + 1) L ∧ (vp_in (x3 + 2) L ∧ (vp_in (x3 + 3) L ∧ wpX8_sheet (xs (x3 + 1).toNatClampNeg) (xs (x3 + 2).toNatClampNeg) (xs (x3 + 3).toNatClampNeg) S181 (fun r185 S185 => if r181 = r185 then (wbL_law_1102 L xs (fun yx3 S9 => wbL_law_18 L xs K n yx3 S9) K x3 S185) else False))))))))) else (if ((xs x3.toNatClampNeg) &&& 31) = 25 then ((vp_in (x3 + 1) L ∧ (vp_in (x3 + 2) L ∧ (vp_in (x3 + 3) L ∧ wpX7_cell (xs (x3 + 1).toNatClampNeg) (xs (x3 + 2).toNatClampNeg) (xs (x3 + 3).toNatClampNeg) S (fun r191 S191 => (vp_in (x3 + 1) L ∧ (vp_in (x3 + 2) L ∧ (vp_in (x3 + 3) L ∧ wpX8_cell (xs (x3 + 1).toNatClampNeg) (xs (x3 + 2).toNatClampNeg) (xs (x3 + 3).toNatClampNeg) S191 (fun r195 S195 => if r191 = r195 then (wbL_law_1102 L xs (fun yx3 S9 => wbL_law_18 L xs K n yx3 S9) K x3 S195) else False))))))))) else (if ((xs x3.toNatClampNeg) &&& 31) = 26 then ((vp_in (x3 + 1) L ∧ (vp_in (x3 + 2) L ∧ (vp_in (x3 + 3) L ∧ (vp_in (x3 + 4) L ∧ (vp_in (x3 + 5) L ∧ wpX7_copy (xs (x3 + 1).toNatClampNeg) (xs (x3 + 2).toNatClampNeg) (xs (x3 + 3).toNatClampNeg) (xs (x3 + 4).toNatClampNeg) (xs (x3 + 5).toNatClampNeg) S (fun r203 S203 => (vp_in (x3 + 1) L ∧ (vp_in (x3 + 2) L ∧ (vp_in (x3 + 3) L ∧ (vp_in (x3 + 4) L ∧ (vp_in (x3 + 5) L ∧ wpX8_copy (xs (x3 + 1).toNatClampNeg) (xs (x3 + 2).toNatClampNeg) (xs (x3 + 3).toNatClampNeg) (xs (x3 + 4).toNatClampNeg) (xs (x3 + 5).toNatClampNeg) S203 (fun r209 S209 => if r203 = r209 then (wbL_law_1102 L xs (fun yx3 S9 => wbL_law_18 L xs K n yx3 S9) K x3 S209) else False))))))))))))) else (if ((xs x3.toNatClampNeg) &&& 31) = 27 then ((vp_in (x3 + 1) L ∧ (vp_in (x3 + 2) L ∧ (vp_in (x3 + 3) L ∧ (vp_in (x3 + 4) L ∧ wpX7_likings (xs (x3 + 1).toNatClampNeg) (xs (x3 + 2).toNatClampNeg) (xs (x3 + 3).toNatClampNeg) (xs (x3 + 4).toNatClampNeg) S (fun r216 S216 => (vp_in (x3 + 1) L ∧ (vp_in (x3 + 2) L ∧ (vp_in (x3 + 3) L ∧ (vp_in (x3 + 4) L ∧ wpX8_likings (xs (x3 + 1).toNatClampNeg) (xs (x3 + 2).toNatClampNeg) (xs (x3 + 3).toNatClampNeg) (xs (x3 + 4).toNatClampNeg) S216 (fun r221 S221 => if r216 = r221 then (wbL_law_1102 L xs (fun yx3 S9 => wbL_law_18 L xs K n yx3 S9) K x3 S221) else False))))))))))) else (if ((xs x3.toNatClampNeg) &&& 31) = 28 then ((vp_in (x3 + 1) L ∧ (vp_in (x3 + 2) L ∧ wpX7_taken (xs (x3 + 1).toNatClampNeg) (xs (x3 + 2).toNatClampNeg) S (fun r226 S226 => (vp_in (x3 + 1) L ∧ (vp_in (x3 + 2) L ∧ wpX8_taken (xs (x3 + 1).toNatClampNeg) (xs (x3 + 2).toNatClampNeg) S226 (fun r229 S229 => if r226 = r229 then (wbL_law_1102 L xs (fun yx3 S9 => wbL_law_18 L xs K n yx3 S9) K x3 S229) else False))))))) else (wbL_law_1102 L xs (fun yx3 S9 => wbL_law_18 L xs K n yx3 S9) K x3 S))))))))))))))))))))))))))))))))
set_option maxRecDepth 4000 in
theorem bL_law_18 {p : Program} {l : Launch} {e : Env} {s : State} {m : MethodId} {bs : Nat} {below : List Frame} {meth : Method} {c : Code} {D : va_G} {ad : Nat → Nat → Nat} {cs : Nat → ClassId} {P : Nat → Nat → Prop} {sz tU : Nat} {adK adV : Nat → Nat} {L : Nat} {xs : Nat → Int32} {K : Int32 → St → Prop} (E : Ex p s m #[Value.ref bs] meth c room_1 R_law code 4 ret 80 1932 D ad cs P (fun q => s.heap.size ≤ q) tU adK adV cnL) (hX : va_X bs L xs s s.heap) (hbl : bs < s.heap.size) (hbA : ¬ s.heap.size ≤ bs) : ∀ (n : Nat) (x3 : Int32) (S : St) (H : Heap) (locs : List Loc) (ls : Array Slot), wbL_law_18 L xs K n x3 S → wH D ad cs P (fun q => s.heap.size ≤ q) s.heap sz S H locs → lv_has ls 4 [(0, .ref bs), (1, .ref (ad 0 0)), (2, .ref (ad 40 0)), (3, .int x3)] → W p l e room_1 s m #[Value.ref bs] below meth c H locs 600000 7302249 (lw_Z below #[Value.ref bs] s) (F0 m 18 ls []) := by
  have hx := E.hx
  have hb := E.hb
  intro n
  induction n with
  | zero => intro x3 S H locs ls hw hh hl; exact hw.elim
  | succ n ih =>
    intro x3 S H locs ls hw hh hl
    refine lv_iload_n hx hb dL_law_18 rfl (lv_at hl 3 rfl) ?_
    refine lv_aload_n hx hb dL_law_19 rfl (lv_at hl 0 rfl) ?_
    refine va_slen hx hb hX hbl hbA hh.2.1 dL_law_20 ?_
    refine lv_bipush (v := 6) hx hb dL_law_21 (by decide) ?_
    refine lv_isub hx hb dL_law_23 ?_
    refine lv_icmp_gt (tgt := 1108) hx hb dL_law_24 (by decide) (fun c1 => ?_) (fun c1 => ?_)
    · have hw := ifT hw c1
      refine lv_iconst (v := 1) hx hb dL_law_1108 (by decide) ?_
      exact va_forget hh.2.1.2.2 (lw_ret hx hb E.hr E.hk dL_law_1109)
    · have hw := ifF hw c1
      refine lv_aload_n hx hb dL_law_27 rfl (lv_at hl 0 rfl) ?_
      refine lv_iload_n hx hb dL_law_28 rfl (lv_at hl 3 rfl) ?_
      obtain ⟨hi2, hw⟩ := hw
      refine va_sld hx hb hX hbl hbA hh.2.1 hi2 dL_law_29 ?_
      refine lv_bipush (v := 31) hx hb dL_law_30 (by decide) ?_
      refine lv_iand hx hb dL_law_32 ?_
      by_cases c3 : ((xs x3.toNatClampNeg) &&& 31) = 0
      · have hw := ifT hw c3
        refine lv_tableIn (tgt := 164) hx hb dL_law_33 (by rw [c3] <;> decide) (by rw [c3] <;> decide) (by rw [c3] <;> rfl) (by decide) ?_
        refine lv_aload_n hx hb dL_law_164 rfl (lv_at hl 1 rfl) ?_
        refine lv_aload_n hx hb dL_law_165 rfl (lv_at hl 0 rfl) ?_
        refine lv_iload_n hx hb dL_law_166 rfl (lv_at hl 3 rfl) ?_
        refine lv_iconst (v := 1) hx hb dL_law_167 (by decide) ?_
        refine lv_iadd hx hb dL_law_168 ?_
        obtain ⟨hi4, hw⟩ := hw
        refine va_sld hx hb hX hbl hbA hh.2.1 hi4 dL_law_169 ?_
        refine x_ci E.hA hh (x_runV E hh (mX7_man E.hI (fun kd i h => E.hn kd i (Nat.lt_of_lt_of_le h (cnA_L kd))) hw) kX7_man tb401 (E.hn 0 0 (by decide)) rv_0 ⟨by decide, by decide⟩ rfl hl.1 rfl (Nat.le_of_ble_eq_true rfl) dL_law_170 ⟨by decide, by decide⟩) (fun r5 S5 H locs hw hh => ?_)
        refine lv_aload_n hx hb dL_law_173 rfl (lv_at hl 2 rfl) ?_
        refine lv_aload_n hx hb dL_law_174 rfl (lv_at hl 0 rfl) ?_
        refine lv_iload_n hx hb dL_law_175 rfl (lv_at hl 3 rfl) ?_
        refine lv_iconst (v := 1) hx hb dL_law_176 (by decide) ?_
        refine lv_iadd hx hb dL_law_177 ?_
        obtain ⟨hi6, hw⟩ := hw
        refine va_sld hx hb hX hbl hbA hh.2.1 hi6 dL_law_178 ?_
        refine x_ci E.hA hh (x_runV E hh (mX8_man E.hI (fun kd i h => E.hn kd i (cnM_PL kd i h)) hw) kX8_man tb909 (E.hn 40 0 (by decide)) rv_40 ⟨by decide, by decide⟩ rfl hl.1 rfl (Nat.le_of_ble_eq_true rfl) dL_law_179 ⟨by decide, by decide⟩) (fun r7 S7 H locs hw hh => ?_)
        refine lv_icmp_eq (tgt := 1102) hx hb dL_law_182 (by decide) (fun c8 => ?_) (fun c8 => ?_)
        · have hw := ifT hw c8
          exact bL_law_1102 E hX hbl hbA ih hw hh (lv_sub hl [0, 1, 2, 3] rfl)
        · have hw := ifF hw c8
          refine lv_iconst (v := 0) hx hb dL_law_185 (by decide) ?_
          exact hw.elim
      have hw := ifF hw c3
      by_cases c9 : ((xs x3.toNatClampNeg) &&& 31) = 1
      · have hw := ifT hw c9
        refine lv_tableIn (tgt := 187) hx hb dL_law_33 (by rw [c9] <;> decide) (by rw [c9] <;> decide) (by rw [c9] <;> rfl) (by decide) ?_
        refine lv_aload_n hx hb dL_law_187 rfl (lv_at hl 1 rfl) ?_
        refine lv_aload_n hx hb dL_law_188 rfl (lv_at hl 0 rfl) ?_
        refine lv_iload_n hx hb dL_law_189 rfl (lv_at hl 3 rfl) ?_
        refine lv_iconst (v := 1) hx hb dL_law_190 (by decide) ?_
        refine lv_iadd hx hb dL_law_191 ?_
        obtain ⟨hi10, hw⟩ := hw
        refine va_sld hx hb hX hbl hbA hh.2.1 hi10 dL_law_192 ?_
        refine lv_aload_n hx hb dL_law_193 rfl (lv_at hl 0 rfl) ?_
        refine lv_iload_n hx hb dL_law_194 rfl (lv_at hl 3 rfl) ?_
        refine lv_iconst (v := 2) hx hb dL_law_195 (by decide) ?_
        refine lv_iadd hx hb dL_law_196 ?_
        obtain ⟨hi11, hw⟩ := hw
        refine va_sld hx hb hX hbl hbA hh.2.1 hi11 dL_law_197 ?_
        refine x_ci E.hA hh (x_runV E hh (mX7_maid E.hI (fun kd i h => E.hn kd i (Nat.lt_of_lt_of_le h (cnA_L kd))) hw) kX7_maid tb408 (E.hn 0 0 (by decide)) rv_0 ⟨by decide, by decide⟩ rfl hl.1 rfl (Nat.le_of_ble_eq_true rfl) dL_law_198 ⟨by decide, by decide⟩) (fun r12 S12 H locs hw hh => ?_)
        refine lv_aload_n hx hb dL_law_201 rfl (lv_at hl 2 rfl) ?_
        refine lv_aload_n hx hb dL_law_202 rfl (lv_at hl 0 rfl) ?_
        refine lv_iload_n hx hb dL_law_203 rfl (lv_at hl 3 rfl) ?_
        refine lv_iconst (v := 1) hx hb dL_law_204 (by decide) ?_
        refine lv_iadd hx hb dL_law_205 ?_
        obtain ⟨hi13, hw⟩ := hw
        refine va_sld hx hb hX hbl hbA hh.2.1 hi13 dL_law_206 ?_
        refine lv_aload_n hx hb dL_law_207 rfl (lv_at hl 0 rfl) ?_
        refine lv_iload_n hx hb dL_law_208 rfl (lv_at hl 3 rfl) ?_
        refine lv_iconst (v := 2) hx hb dL_law_209 (by decide) ?_
        refine lv_iadd hx hb dL_law_210 ?_
        obtain ⟨hi14, hw⟩ := hw
        refine va_sld hx hb hX hbl hbA hh.2.1 hi14 dL_law_211 ?_
        refine x_ci E.hA hh (x_runV E hh (mX8_maid E.hI (fun kd i h => E.hn kd i (cnM_PL kd i h)) hw) kX8_maid tb917 (E.hn 40 0 (by decide)) rv_40 ⟨by decide, by decide⟩ rfl hl.1 rfl (Nat.le_of_ble_eq_true rfl) dL_law_212 ⟨by decide, by decide⟩) (fun r15 S15 H locs hw hh => ?_)
        refine lv_icmp_eq (tgt := 1102) hx hb dL_law_215 (by decide) (fun c16 => ?_) (fun c16 => ?_)
        · have hw := ifT hw c16
          exact bL_law_1102 E hX hbl hbA ih hw hh (lv_sub hl [0, 1, 2, 3] rfl)
        · have hw := ifF hw c16
          refine lv_iconst (v := 0) hx hb dL_law_218 (by decide) ?_
          exact hw.elim
      have hw := ifF hw c9
      by_cases c17 : ((xs x3.toNatClampNeg) &&& 31) = 2
      · have hw := ifT hw c17
        refine lv_tableIn (tgt := 220) hx hb dL_law_33 (by rw [c17] <;> decide) (by rw [c17] <;> decide) (by rw [c17] <;> rfl) (by decide) ?_
        refine lv_aload_n hx hb dL_law_220 rfl (lv_at hl 1 rfl) ?_
        refine lv_aload_n hx hb dL_law_221 rfl (lv_at hl 0 rfl) ?_
        refine lv_iload_n hx hb dL_law_222 rfl (lv_at hl 3 rfl) ?_
        refine lv_iconst (v := 1) hx hb dL_law_223 (by decide) ?_
        refine lv_iadd hx hb dL_law_224 ?_
        obtain ⟨hi18, hw⟩ := hw
        refine va_sld hx hb hX hbl hbA hh.2.1 hi18 dL_law_225 ?_
        refine lv_aload_n hx hb dL_law_226 rfl (lv_at hl 0 rfl) ?_
        refine lv_iload_n hx hb dL_law_227 rfl (lv_at hl 3 rfl) ?_
        refine lv_iconst (v := 2) hx hb dL_law_228 (by decide) ?_
        refine lv_iadd hx hb dL_law_229 ?_
        obtain ⟨hi19, hw⟩ := hw
        refine va_sld hx hb hX hbl hbA hh.2.1 hi19 dL_law_230 ?_
        refine lv_aload_n hx hb dL_law_231 rfl (lv_at hl 0 rfl) ?_
        refine lv_iload_n hx hb dL_law_232 rfl (lv_at hl 3 rfl) ?_
        refine lv_iconst (v := 3) hx hb dL_law_233 (by decide) ?_
        refine lv_iadd hx hb dL_law_234 ?_
        obtain ⟨hi20, hw⟩ := hw
        refine va_sld hx hb hX hbl hbA hh.2.1 hi20 dL_law_235 ?_
        refine lv_aload_n hx hb dL_law_236 rfl (lv_at hl 0 rfl) ?_
        refine lv_iload_n hx hb dL_law_237 rfl (lv_at hl 3 rfl) ?_
        refine lv_iconst (v := 4) hx hb dL_law_238 (by decide) ?_
        refine lv_iadd hx hb dL_law_239 ?_
        obtain ⟨hi21, hw⟩ := hw
        refine va_sld hx hb hX hbl hbA hh.2.1 hi21 dL_law_240 ?_
        refine x_ci E.hA hh (x_runV E hh (mX7_likes E.hI (fun kd i h => E.hn kd i (Nat.lt_of_lt_of_le h (cnA_L kd))) hw) kX7_likes tb412 (E.hn 0 0 (by decide)) rv_0 ⟨by decide, by decide⟩ rfl hl.1 rfl (Nat.le_of_ble_eq_true rfl) dL_law_241 ⟨by decide, by decide⟩) (fun r22 S22 H locs hw hh => ?_)
        refine lv_aload_n hx hb dL_law_244 rfl (lv_at hl 2 rfl) ?_
        refine lv_aload_n hx hb dL_law_245 rfl (lv_at hl 0 rfl) ?_
        refine lv_iload_n hx hb dL_law_246 rfl (lv_at hl 3 rfl) ?_
        refine lv_iconst (v := 1) hx hb dL_law_247 (by decide) ?_
        refine lv_iadd hx hb dL_law_248 ?_
        obtain ⟨hi23, hw⟩ := hw
        refine va_sld hx hb hX hbl hbA hh.2.1 hi23 dL_law_249 ?_
        refine lv_aload_n hx hb dL_law_250 rfl (lv_at hl 0 rfl) ?_
        refine lv_iload_n hx hb dL_law_251 rfl (lv_at hl 3 rfl) ?_
        refine lv_iconst (v := 2) hx hb dL_law_252 (by decide) ?_
        refine lv_iadd hx hb dL_law_253 ?_
        obtain ⟨hi24, hw⟩ := hw
        refine va_sld hx hb hX hbl hbA hh.2.1 hi24 dL_law_254 ?_
        refine lv_aload_n hx hb dL_law_255 rfl (lv_at hl 0 rfl) ?_
        refine lv_iload_n hx hb dL_law_256 rfl (lv_at hl 3 rfl) ?_
        refine lv_iconst (v := 3) hx hb dL_law_257 (by decide) ?_
        refine lv_iadd hx hb dL_law_258 ?_
        obtain ⟨hi25, hw⟩ := hw
        refine va_sld hx hb hX hbl hbA hh.2.1 hi25 dL_law_259 ?_
        refine lv_aload_n hx hb dL_law_260 rfl (lv_at hl 0 rfl) ?_
        refine lv_iload_n hx hb dL_law_261 rfl (lv_at hl 3 rfl) ?_
        refine lv_iconst (v := 4) hx hb dL_law_262 (by decide) ?_
        refine lv_iadd hx hb dL_law_263 ?_
        obtain ⟨hi26, hw⟩ := hw
        refine va_sld hx hb hX hbl hbA hh.2.1 hi26 dL_law_264 ?_
        refine x_ci E.hA hh (x_runV E hh (mX8_likes E.hI (fun kd i h => E.hn kd i (cnM_PL kd i h)) hw) kX8_likes tb922 (E.hn 40 0 (by decide)) rv_40 ⟨by decide, by decide⟩ rfl hl.1 rfl (Nat.le_of_ble_eq_true rfl) dL_law_265 ⟨by decide, by decide⟩) (fun r27 S27 H locs hw hh => ?_)
        refine lv_icmp_eq (tgt := 1102) hx hb dL_law_268 (by decide) (fun c28 => ?_) (fun c28 => ?_)
        · have hw := ifT hw c28
          exact bL_law_1102 E hX hbl hbA ih hw hh (lv_sub hl [0, 1, 2, 3] rfl)
        · have hw := ifF hw c28
          refine lv_iconst (v := 0) hx hb dL_law_271 (by decide) ?_
          exact hw.elim
      have hw := ifF hw c17
      by_cases c29 : ((xs x3.toNatClampNeg) &&& 31) = 3
      · have hw := ifT hw c29
        refine lv_tableIn (tgt := 273) hx hb dL_law_33 (by rw [c29] <;> decide) (by rw [c29] <;> decide) (by rw [c29] <;> rfl) (by decide) ?_
        refine lv_aload_n hx hb dL_law_273 rfl (lv_at hl 1 rfl) ?_
        refine lv_aload_n hx hb dL_law_274 rfl (lv_at hl 0 rfl) ?_
        refine lv_iload_n hx hb dL_law_275 rfl (lv_at hl 3 rfl) ?_
        refine lv_iconst (v := 1) hx hb dL_law_276 (by decide) ?_
        refine lv_iadd hx hb dL_law_277 ?_
        obtain ⟨hi30, hw⟩ := hw
        refine va_sld hx hb hX hbl hbA hh.2.1 hi30 dL_law_278 ?_
        refine lv_aload_n hx hb dL_law_279 rfl (lv_at hl 0 rfl) ?_
        refine lv_iload_n hx hb dL_law_280 rfl (lv_at hl 3 rfl) ?_
        refine lv_iconst (v := 2) hx hb dL_law_281 (by decide) ?_
        refine lv_iadd hx hb dL_law_282 ?_
        obtain ⟨hi31, hw⟩ := hw
        refine va_sld hx hb hX hbl hbA hh.2.1 hi31 dL_law_283 ?_
        refine lv_aload_n hx hb dL_law_284 rfl (lv_at hl 0 rfl) ?_
        refine lv_iload_n hx hb dL_law_285 rfl (lv_at hl 3 rfl) ?_
        refine lv_iconst (v := 3) hx hb dL_law_286 (by decide) ?_
        refine lv_iadd hx hb dL_law_287 ?_
        obtain ⟨hi32, hw⟩ := hw
        refine va_sld hx hb hX hbl hbA hh.2.1 hi32 dL_law_288 ?_
        refine x_ci E.hA hh (x_runV E hh (mX7_set E.hI (fun kd i h => E.hn kd i (Nat.lt_of_lt_of_le h (cnA_L kd))) hw) kX7_set tb434 (E.hn 0 0 (by decide)) rv_0 ⟨by decide, by decide⟩ rfl hl.1 rfl (Nat.le_of_ble_eq_true rfl) dL_law_289 ⟨by decide, by decide⟩) (fun r33 S33 H locs hw hh => ?_)
        refine lv_aload_n hx hb dL_law_292 rfl (lv_at hl 2 rfl) ?_
        refine lv_aload_n hx hb dL_law_293 rfl (lv_at hl 0 rfl) ?_
        refine lv_iload_n hx hb dL_law_294 rfl (lv_at hl 3 rfl) ?_
        refine lv_iconst (v := 1) hx hb dL_law_295 (by decide) ?_
        refine lv_iadd hx hb dL_law_296 ?_
        obtain ⟨hi34, hw⟩ := hw
        refine va_sld hx hb hX hbl hbA hh.2.1 hi34 dL_law_297 ?_
        refine lv_aload_n hx hb dL_law_298 rfl (lv_at hl 0 rfl) ?_
        refine lv_iload_n hx hb dL_law_299 rfl (lv_at hl 3 rfl) ?_
        refine lv_iconst (v := 2) hx hb dL_law_300 (by decide) ?_
        refine lv_iadd hx hb dL_law_301 ?_
        obtain ⟨hi35, hw⟩ := hw
        refine va_sld hx hb hX hbl hbA hh.2.1 hi35 dL_law_302 ?_
        refine lv_aload_n hx hb dL_law_303 rfl (lv_at hl 0 rfl) ?_
        refine lv_iload_n hx hb dL_law_304 rfl (lv_at hl 3 rfl) ?_
        refine lv_iconst (v := 3) hx hb dL_law_305 (by decide) ?_
        refine lv_iadd hx hb dL_law_306 ?_
        obtain ⟨hi36, hw⟩ := hw
        refine va_sld hx hb hX hbl hbA hh.2.1 hi36 dL_law_307 ?_
        refine x_ci E.hA hh (x_runV E hh (mX8_set E.hI (fun kd i h => E.hn kd i (cnM_PL kd i h)) hw) kX8_set tb935 (E.hn 40 0 (by decide)) rv_40 ⟨by decide, by decide⟩ rfl hl.1 rfl (Nat.le_of_ble_eq_true rfl) dL_law_308 ⟨by decide, by decide⟩) (fun r37 S37 H locs hw hh => ?_)
        refine lv_icmp_eq (tgt := 1102) hx hb dL_law_311 (by decide) (fun c38 => ?_) (fun c38 => ?_)
        · have hw := ifT hw c38
          exact bL_law_1102 E hX hbl hbA ih hw hh (lv_sub hl [0, 1, 2, 3] rfl)
        · have hw := ifF hw c38
          refine lv_iconst (v := 0) hx hb dL_law_314 (by decide) ?_
          exact hw.elim
      have hw := ifF hw c29
      by_cases c39 : ((xs x3.toNatClampNeg) &&& 31) = 4
      · have hw := ifT hw c39
        refine lv_tableIn (tgt := 316) hx hb dL_law_33 (by rw [c39] <;> decide) (by rw [c39] <;> decide) (by rw [c39] <;> rfl) (by decide) ?_
        refine lv_aload_n hx hb dL_law_316 rfl (lv_at hl 1 rfl) ?_
        refine lv_aload_n hx hb dL_law_317 rfl (lv_at hl 0 rfl) ?_
        refine lv_iload_n hx hb dL_law_318 rfl (lv_at hl 3 rfl) ?_
        refine lv_iconst (v := 1) hx hb dL_law_319 (by decide) ?_
        refine lv_iadd hx hb dL_law_320 ?_
        obtain ⟨hi40, hw⟩ := hw
        refine va_sld hx hb hX hbl hbA hh.2.1 hi40 dL_law_321 ?_
        refine lv_aload_n hx hb dL_law_322 rfl (lv_at hl 0 rfl) ?_
        refine lv_iload_n hx hb dL_law_323 rfl (lv_at hl 3 rfl) ?_
        refine lv_iconst (v := 2) hx hb dL_law_324 (by decide) ?_
        refine lv_iadd hx hb dL_law_325 ?_
        obtain ⟨hi41, hw⟩ := hw
        refine va_sld hx hb hX hbl hbA hh.2.1 hi41 dL_law_326 ?_
        refine lv_aload_n hx hb dL_law_327 rfl (lv_at hl 0 rfl) ?_
        refine lv_iload_n hx hb dL_law_328 rfl (lv_at hl 3 rfl) ?_
        refine lv_iconst (v := 3) hx hb dL_law_329 (by decide) ?_
        refine lv_iadd hx hb dL_law_330 ?_
        obtain ⟨hi42, hw⟩ := hw
        refine va_sld hx hb hX hbl hbA hh.2.1 hi42 dL_law_331 ?_
        refine x_ci E.hA hh (x_runV E hh (mX7_told E.hI (fun kd i h => E.hn kd i (Nat.lt_of_lt_of_le h (cnA_L kd))) hw) kX7_told tb442 (E.hn 0 0 (by decide)) rv_0 ⟨by decide, by decide⟩ rfl hl.1 rfl (Nat.le_of_ble_eq_true rfl) dL_law_332 ⟨by decide, by decide⟩) (fun r43 S43 H locs hw hh => ?_)
        refine lv_aload_n hx hb dL_law_335 rfl (lv_at hl 2 rfl) ?_
        refine lv_aload_n hx hb dL_law_336 rfl (lv_at hl 0 rfl) ?_
        refine lv_iload_n hx hb dL_law_337 rfl (lv_at hl 3 rfl) ?_
        refine lv_iconst (v := 1) hx hb dL_law_338 (by decide) ?_
        refine lv_iadd hx hb dL_law_339 ?_
        obtain ⟨hi44, hw⟩ := hw
        refine va_sld hx hb hX hbl hbA hh.2.1 hi44 dL_law_340 ?_
        refine lv_aload_n hx hb dL_law_341 rfl (lv_at hl 0 rfl) ?_
        refine lv_iload_n hx hb dL_law_342 rfl (lv_at hl 3 rfl) ?_
        refine lv_iconst (v := 2) hx hb dL_law_343 (by decide) ?_
        refine lv_iadd hx hb dL_law_344 ?_
        obtain ⟨hi45, hw⟩ := hw
        refine va_sld hx hb hX hbl hbA hh.2.1 hi45 dL_law_345 ?_
        refine lv_aload_n hx hb dL_law_346 rfl (lv_at hl 0 rfl) ?_
        refine lv_iload_n hx hb dL_law_347 rfl (lv_at hl 3 rfl) ?_
        refine lv_iconst (v := 3) hx hb dL_law_348 (by decide) ?_
        refine lv_iadd hx hb dL_law_349 ?_
        obtain ⟨hi46, hw⟩ := hw
        refine va_sld hx hb hX hbl hbA hh.2.1 hi46 dL_law_350 ?_
        refine x_ci E.hA hh (x_runV E hh (mX8_told E.hI (fun kd i h => E.hn kd i (cnM_PL kd i h)) hw) kX8_told tb1037 (E.hn 40 0 (by decide)) rv_40 ⟨by decide, by decide⟩ rfl hl.1 rfl (Nat.le_of_ble_eq_true rfl) dL_law_351 ⟨by decide, by decide⟩) (fun r47 S47 H locs hw hh => ?_)
        refine lv_icmp_eq (tgt := 1102) hx hb dL_law_354 (by decide) (fun c48 => ?_) (fun c48 => ?_)
        · have hw := ifT hw c48
          exact bL_law_1102 E hX hbl hbA ih hw hh (lv_sub hl [0, 1, 2, 3] rfl)
        · have hw := ifF hw c48
          refine lv_iconst (v := 0) hx hb dL_law_357 (by decide) ?_
          exact hw.elim
      have hw := ifF hw c39
      by_cases c49 : ((xs x3.toNatClampNeg) &&& 31) = 5
      · have hw := ifT hw c49
        refine lv_tableIn (tgt := 359) hx hb dL_law_33 (by rw [c49] <;> decide) (by rw [c49] <;> decide) (by rw [c49] <;> rfl) (by decide) ?_
        refine lv_aload_n hx hb dL_law_359 rfl (lv_at hl 1 rfl) ?_
        refine lv_aload_n hx hb dL_law_360 rfl (lv_at hl 0 rfl) ?_
        refine lv_iload_n hx hb dL_law_361 rfl (lv_at hl 3 rfl) ?_
        refine lv_iconst (v := 1) hx hb dL_law_362 (by decide) ?_
        refine lv_iadd hx hb dL_law_363 ?_
        obtain ⟨hi50, hw⟩ := hw
        refine va_sld hx hb hX hbl hbA hh.2.1 hi50 dL_law_364 ?_
        refine lv_aload_n hx hb dL_law_365 rfl (lv_at hl 0 rfl) ?_
        refine lv_iload_n hx hb dL_law_366 rfl (lv_at hl 3 rfl) ?_
        refine lv_iconst (v := 2) hx hb dL_law_367 (by decide) ?_
        refine lv_iadd hx hb dL_law_368 ?_
        obtain ⟨hi51, hw⟩ := hw
        refine va_sld hx hb hX hbl hbA hh.2.1 hi51 dL_law_369 ?_
        refine x_ci E.hA hh (x_runV E hh (mX7_of E.hI (fun kd i h => E.hn kd i (Nat.lt_of_lt_of_le h (cnA_L kd))) hw) kX7_of tb491 (E.hn 0 0 (by decide)) rv_0 ⟨by decide, by decide⟩ rfl hl.1 rfl (Nat.le_of_ble_eq_true rfl) dL_law_370 ⟨by decide, by decide⟩) (fun r52 S52 H locs hw hh => ?_)
        refine lv_aload_n hx hb dL_law_373 rfl (lv_at hl 2 rfl) ?_
        refine lv_aload_n hx hb dL_law_374 rfl (lv_at hl 0 rfl) ?_
        refine lv_iload_n hx hb dL_law_375 rfl (lv_at hl 3 rfl) ?_
        refine lv_iconst (v := 1) hx hb dL_law_376 (by decide) ?_
        refine lv_iadd hx hb dL_law_377 ?_
        obtain ⟨hi53, hw⟩ := hw
        refine va_sld hx hb hX hbl hbA hh.2.1 hi53 dL_law_378 ?_
        refine lv_aload_n hx hb dL_law_379 rfl (lv_at hl 0 rfl) ?_
        refine lv_iload_n hx hb dL_law_380 rfl (lv_at hl 3 rfl) ?_
        refine lv_iconst (v := 2) hx hb dL_law_381 (by decide) ?_
        refine lv_iadd hx hb dL_law_382 ?_
        obtain ⟨hi54, hw⟩ := hw
        refine va_sld hx hb hX hbl hbA hh.2.1 hi54 dL_law_383 ?_
        refine x_ci E.hA hh (x_runV E hh (mX8_of E.hI (fun kd i h => E.hn kd i (cnM_PL kd i h)) hw) kX8_of tb940 (E.hn 40 0 (by decide)) rv_40 ⟨by decide, by decide⟩ rfl hl.1 rfl (Nat.le_of_ble_eq_true rfl) dL_law_384 ⟨by decide, by decide⟩) (fun r55 S55 H locs hw hh => ?_)
        refine lv_icmp_eq (tgt := 1102) hx hb dL_law_387 (by decide) (fun c56 => ?_) (fun c56 => ?_)
        · have hw := ifT hw c56
          exact bL_law_1102 E hX hbl hbA ih hw hh (lv_sub hl [0, 1, 2, 3] rfl)
        · have hw := ifF hw c56
          refine lv_iconst (v := 0) hx hb dL_law_390 (by decide) ?_
          exact hw.elim
      have hw := ifF hw c49
      by_cases c57 : ((xs x3.toNatClampNeg) &&& 31) = 6
      · have hw := ifT hw c57
        refine lv_tableIn (tgt := 392) hx hb dL_law_33 (by rw [c57] <;> decide) (by rw [c57] <;> decide) (by rw [c57] <;> rfl) (by decide) ?_
        refine lv_aload_n hx hb dL_law_392 rfl (lv_at hl 1 rfl) ?_
        refine lv_aload_n hx hb dL_law_393 rfl (lv_at hl 0 rfl) ?_
        refine lv_iload_n hx hb dL_law_394 rfl (lv_at hl 3 rfl) ?_
        refine lv_iconst (v := 1) hx hb dL_law_395 (by decide) ?_
        refine lv_iadd hx hb dL_law_396 ?_
        obtain ⟨hi58, hw⟩ := hw
        refine va_sld hx hb hX hbl hbA hh.2.1 hi58 dL_law_397 ?_
        refine x_ci E.hA hh (x_runV E hh (mX7_feed E.hI (fun kd i h => E.hn kd i (Nat.lt_of_lt_of_le h (cnA_L kd))) hw) kX7_feed tb509 (E.hn 0 0 (by decide)) rv_0 ⟨by decide, by decide⟩ rfl hl.1 rfl (Nat.le_of_ble_eq_true rfl) dL_law_398 ⟨by decide, by decide⟩) (fun r59 S59 H locs hw hh => ?_)
        refine lv_aload_n hx hb dL_law_401 rfl (lv_at hl 2 rfl) ?_
        refine lv_aload_n hx hb dL_law_402 rfl (lv_at hl 0 rfl) ?_
        refine lv_iload_n hx hb dL_law_403 rfl (lv_at hl 3 rfl) ?_
        refine lv_iconst (v := 1) hx hb dL_law_404 (by decide) ?_
        refine lv_iadd hx hb dL_law_405 ?_
        obtain ⟨hi60, hw⟩ := hw
        refine va_sld hx hb hX hbl hbA hh.2.1 hi60 dL_law_406 ?_
        refine x_ci E.hA hh (x_runV E hh (mX8_feed E.hI (fun kd i h => E.hn kd i (cnM_PL kd i h)) hw) kX8_feed tb953 (E.hn 40 0 (by decide)) rv_40 ⟨by decide, by decide⟩ rfl hl.1 rfl (Nat.le_of_ble_eq_true rfl) dL_law_407 ⟨by decide, by decide⟩) (fun r61 S61 H locs hw hh => ?_)
        refine lv_icmp_eq (tgt := 1102) hx hb dL_law_410 (by decide) (fun c62 => ?_) (fun c62 => ?_)
        · have hw := ifT hw c62
          exact bL_law_1102 E hX hbl hbA ih hw hh (lv_sub hl [0, 1, 2, 3] rfl)
        · have hw := ifF hw c62
          refine lv_iconst (v := 0) hx hb dL_law_413 (by decide) ?_
          exact hw.elim
      have hw := ifF hw c57
      by_cases c63 : ((xs x3.toNatClampNeg) &&& 31) = 7
      · have hw := ifT hw c63
        refine lv_tableIn (tgt := 415) hx hb dL_law_33 (by rw [c63] <;> decide) (by rw [c63] <;> decide) (by rw [c63] <;> rfl) (by decide) ?_
        refine lv_aload_n hx hb dL_law_415 rfl (lv_at hl 1 rfl) ?_
        refine x_ci E.hA hh (x_runV E hh (mX7_text E.hI (fun kd i h => E.hn kd i (Nat.lt_of_lt_of_le h (cnA_L kd))) hw) kX7_text tb513 (E.hn 0 0 (by decide)) rv_0 ⟨by decide, by decide⟩ rfl hl.1 rfl (Nat.le_of_ble_eq_true rfl) dL_law_416 ⟨by decide, by decide⟩) (fun r64 S64 H locs hw hh => ?_)
        refine lv_aload_n hx hb dL_law_419 rfl (lv_at hl 2 rfl) ?_
        refine x_ci E.hA hh (x_runV E hh (mX8_text E.hI (fun kd i h => E.hn kd i (cnM_PL kd i h)) hw) kX8_text tb958 (E.hn 40 0 (by decide)) rv_40 ⟨by decide, by decide⟩ rfl hl.1 rfl (Nat.le_of_ble_eq_true rfl) dL_law_420 ⟨by decide, by decide⟩) (fun r65 S65 H locs hw hh => ?_)
        refine lv_icmp_eq (tgt := 1102) hx hb dL_law_423 (by decide) (fun c66 => ?_) (fun c66 => ?_)
        · have hw := ifT hw c66
          exact bL_law_1102 E hX hbl hbA ih hw hh (lv_sub hl [0, 1, 2, 3] rfl)
        · have hw := ifF hw c66
          refine lv_iconst (v := 0) hx hb dL_law_426 (by decide) ?_
          exact hw.elim
      have hw := ifF hw c63
      by_cases c67 : ((xs x3.toNatClampNeg) &&& 31) = 8
      · have hw := ifT hw c67
        refine lv_tableIn (tgt := 428) hx hb dL_law_33 (by rw [c67] <;> decide) (by rw [c67] <;> decide) (by rw [c67] <;> rfl) (by decide) ?_
        refine lv_aload_n hx hb dL_law_428 rfl (lv_at hl 1 rfl) ?_
        refine lv_aload_n hx hb dL_law_429 rfl (lv_at hl 0 rfl) ?_
        refine lv_iload_n hx hb dL_law_430 rfl (lv_at hl 3 rfl) ?_
        refine lv_iconst (v := 1) hx hb dL_law_431 (by decide) ?_
        refine lv_iadd hx hb dL_law_432 ?_
        obtain ⟨hi68, hw⟩ := hw
        refine va_sld hx hb hX hbl hbA hh.2.1 hi68 dL_law_433 ?_
        refine x_ci E.hA hh (x_runV E hh (mX7_force E.hI (fun kd i h => E.hn kd i (Nat.lt_of_lt_of_le h (cnA_L kd))) hw) kX7_force tb517 (E.hn 0 0 (by decide)) rv_0 ⟨by decide, by decide⟩ rfl hl.1 rfl (Nat.le_of_ble_eq_true rfl) dL_law_434 ⟨by decide, by decide⟩) (fun r69 S69 H locs hw hh => ?_)
        refine lv_aload_n hx hb dL_law_437 rfl (lv_at hl 2 rfl) ?_
        refine lv_aload_n hx hb dL_law_438 rfl (lv_at hl 0 rfl) ?_
        refine lv_iload_n hx hb dL_law_439 rfl (lv_at hl 3 rfl) ?_
        refine lv_iconst (v := 1) hx hb dL_law_440 (by decide) ?_
        refine lv_iadd hx hb dL_law_441 ?_
        obtain ⟨hi70, hw⟩ := hw
        refine va_sld hx hb hX hbl hbA hh.2.1 hi70 dL_law_442 ?_
        refine x_ci E.hA hh (x_runV E hh (mX8_force E.hI (fun kd i h => E.hn kd i (cnM_PL kd i h)) hw) kX8_force tb1033 (E.hn 40 0 (by decide)) rv_40 ⟨by decide, by decide⟩ rfl hl.1 rfl (Nat.le_of_ble_eq_true rfl) dL_law_443 ⟨by decide, by decide⟩) (fun r71 S71 H locs hw hh => ?_)
        refine lv_icmp_eq (tgt := 1102) hx hb dL_law_446 (by decide) (fun c72 => ?_) (fun c72 => ?_)
        · have hw := ifT hw c72
          exact bL_law_1102 E hX hbl hbA ih hw hh (lv_sub hl [0, 1, 2, 3] rfl)
        · have hw := ifF hw c72
          refine lv_iconst (v := 0) hx hb dL_law_449 (by decide) ?_
          exact hw.elim
      have hw := ifF hw c67
      by_cases c73 : ((xs x3.toNatClampNeg) &&& 31) = 9
      · have hw := ifT hw c73
        refine lv_tableIn (tgt := 451) hx hb dL_law_33 (by rw [c73] <;> decide) (by rw [c73] <;> decide) (by rw [c73] <;> rfl) (by decide) ?_
        refine lv_aload_n hx hb dL_law_451 rfl (lv_at hl 1 rfl) ?_
        refine lv_aload_n hx hb dL_law_452 rfl (lv_at hl 0 rfl) ?_
        refine lv_iload_n hx hb dL_law_453 rfl (lv_at hl 3 rfl) ?_
        refine lv_iconst (v := 1) hx hb dL_law_454 (by decide) ?_
        refine lv_iadd hx hb dL_law_455 ?_
        obtain ⟨hi74, hw⟩ := hw
        refine va_sld hx hb hX hbl hbA hh.2.1 hi74 dL_law_456 ?_
        refine lv_aload_n hx hb dL_law_457 rfl (lv_at hl 0 rfl) ?_
        refine lv_iload_n hx hb dL_law_458 rfl (lv_at hl 3 rfl) ?_
        refine lv_iconst (v := 2) hx hb dL_law_459 (by decide) ?_
        refine lv_iadd hx hb dL_law_460 ?_
        obtain ⟨hi75, hw⟩ := hw
        refine va_sld hx hb hX hbl hbA hh.2.1 hi75 dL_law_461 ?_
        refine x_ci E.hA hh (x_runV E hh (mX7_ask E.hI (fun kd i h => E.hn kd i (Nat.lt_of_lt_of_le h (cnA_L kd))) hw) kX7_ask tb521 (E.hn 0 0 (by decide)) rv_0 ⟨by decide, by decide⟩ rfl hl.1 rfl (Nat.le_of_ble_eq_true rfl) dL_law_462 ⟨by decide, by decide⟩) (fun r76 S76 H locs hw hh => ?_)
        refine lv_aload_n hx hb dL_law_465 rfl (lv_at hl 2 rfl) ?_
        refine lv_aload_n hx hb dL_law_466 rfl (lv_at hl 0 rfl) ?_
        refine lv_iload_n hx hb dL_law_467 rfl (lv_at hl 3 rfl) ?_
        refine lv_iconst (v := 1) hx hb dL_law_468 (by decide) ?_
        refine lv_iadd hx hb dL_law_469 ?_
        obtain ⟨hi77, hw⟩ := hw
        refine va_sld hx hb hX hbl hbA hh.2.1 hi77 dL_law_470 ?_
        refine lv_aload_n hx hb dL_law_471 rfl (lv_at hl 0 rfl) ?_
        refine lv_iload_n hx hb dL_law_472 rfl (lv_at hl 3 rfl) ?_
        refine lv_iconst (v := 2) hx hb dL_law_473 (by decide) ?_
        refine lv_iadd hx hb dL_law_474 ?_
        obtain ⟨hi78, hw⟩ := hw
        refine va_sld hx hb hX hbl hbA hh.2.1 hi78 dL_law_475 ?_
        refine x_ci E.hA hh (x_runV E hh (mX8_ask E.hI (fun kd i h => E.hn kd i (cnM_PL kd i h)) hw) kX8_ask tb1068 (E.hn 40 0 (by decide)) rv_40 ⟨by decide, by decide⟩ rfl hl.1 rfl (Nat.le_of_ble_eq_true rfl) dL_law_476 ⟨by decide, by decide⟩) (fun r79 S79 H locs hw hh => ?_)
        refine lv_icmp_eq (tgt := 1102) hx hb dL_law_479 (by decide) (fun c80 => ?_) (fun c80 => ?_)
        · have hw := ifT hw c80
          exact bL_law_1102 E hX hbl hbA ih hw hh (lv_sub hl [0, 1, 2, 3] rfl)
        · have hw := ifF hw c80
          refine lv_iconst (v := 0) hx hb dL_law_482 (by decide) ?_
          exact hw.elim
      have hw := ifF hw c73
      by_cases c81 : ((xs x3.toNatClampNeg) &&& 31) = 10
      · have hw := ifT hw c81
        refine lv_tableIn (tgt := 484) hx hb dL_law_33 (by rw [c81] <;> decide) (by rw [c81] <;> decide) (by rw [c81] <;> rfl) (by decide) ?_
        refine lv_aload_n hx hb dL_law_484 rfl (lv_at hl 1 rfl) ?_
        refine lv_aload_n hx hb dL_law_485 rfl (lv_at hl 0 rfl) ?_
        refine lv_iload_n hx hb dL_law_486 rfl (lv_at hl 3 rfl) ?_
        refine lv_iconst (v := 1) hx hb dL_law_487 (by decide) ?_
        refine lv_iadd hx hb dL_law_488 ?_
        obtain ⟨hi82, hw⟩ := hw
        refine va_sld hx hb hX hbl hbA hh.2.1 hi82 dL_law_489 ?_
        refine x_ci E.hA hh (x_runV E hh (mX7_part E.hI (fun kd i h => E.hn kd i (Nat.lt_of_lt_of_le h (cnA_L kd))) hw) kX7_part tb535 (E.hn 0 0 (by decide)) rv_0 ⟨by decide, by decide⟩ rfl hl.1 rfl (Nat.le_of_ble_eq_true rfl) dL_law_490 ⟨by decide, by decide⟩) (fun r83 S83 H locs hw hh => ?_)
        refine lv_aload_n hx hb dL_law_493 rfl (lv_at hl 2 rfl) ?_
        refine lv_aload_n hx hb dL_law_494 rfl (lv_at hl 0 rfl) ?_
        refine lv_iload_n hx hb dL_law_495 rfl (lv_at hl 3 rfl) ?_
        refine lv_iconst (v := 1) hx hb dL_law_496 (by decide) ?_
        refine lv_iadd hx hb dL_law_497 ?_
        obtain ⟨hi84, hw⟩ := hw
        refine va_sld hx hb hX hbl hbA hh.2.1 hi84 dL_law_498 ?_
        refine x_ci E.hA hh (x_runV E hh (mX8_part_ E.hI (fun kd i h => E.hn kd i (cnM_PL kd i h)) hw) kX8_part_ tb1076 (E.hn 40 0 (by decide)) rv_40 ⟨by decide, by decide⟩ rfl hl.1 rfl (Nat.le_of_ble_eq_true rfl) dL_law_499 ⟨by decide, by decide⟩) (fun r85 S85 H locs hw hh => ?_)
        refine lv_icmp_eq (tgt := 1102) hx hb dL_law_502 (by decide) (fun c86 => ?_) (fun c86 => ?_)
        · have hw := ifT hw c86
          exact bL_law_1102 E hX hbl hbA ih hw hh (lv_sub hl [0, 1, 2, 3] rfl)
        · have hw := ifF hw c86
          refine lv_iconst (v := 0) hx hb dL_law_505 (by decide) ?_
          exact hw.elim
      have hw := ifF hw c81
      by_cases c87 : ((xs x3.toNatClampNeg) &&& 31) = 11
      · have hw := ifT hw c87
        refine lv_tableIn (tgt := 507) hx hb dL_law_33 (by rw [c87] <;> decide) (by rw [c87] <;> decide) (by rw [c87] <;> rfl) (by decide) ?_
        refine lv_aload_n hx hb dL_law_507 rfl (lv_at hl 1 rfl) ?_
        refine lv_aload_n hx hb dL_law_508 rfl (lv_at hl 0 rfl) ?_
        refine lv_iload_n hx hb dL_law_509 rfl (lv_at hl 3 rfl) ?_
        refine lv_iconst (v := 1) hx hb dL_law_510 (by decide) ?_
        refine lv_iadd hx hb dL_law_511 ?_
        obtain ⟨hi88, hw⟩ := hw
        refine va_sld hx hb hX hbl hbA hh.2.1 hi88 dL_law_512 ?_
        refine lv_aload_n hx hb dL_law_513 rfl (lv_at hl 0 rfl) ?_
        refine lv_iload_n hx hb dL_law_514 rfl (lv_at hl 3 rfl) ?_
        refine lv_iconst (v := 2) hx hb dL_law_515 (by decide) ?_
        refine lv_iadd hx hb dL_law_516 ?_
        obtain ⟨hi89, hw⟩ := hw
        refine va_sld hx hb hX hbl hbA hh.2.1 hi89 dL_law_517 ?_
        refine lv_aload_n hx hb dL_law_518 rfl (lv_at hl 0 rfl) ?_
        refine lv_iload_n hx hb dL_law_519 rfl (lv_at hl 3 rfl) ?_
        refine lv_iconst (v := 3) hx hb dL_law_520 (by decide) ?_
        refine lv_iadd hx hb dL_law_521 ?_
        obtain ⟨hi90, hw⟩ := hw
        refine va_sld hx hb hX hbl hbA hh.2.1 hi90 dL_law_522 ?_
        refine lv_aload_n hx hb dL_law_523 rfl (lv_at hl 0 rfl) ?_
        refine lv_iload_n hx hb dL_law_524 rfl (lv_at hl 3 rfl) ?_
        refine lv_iconst (v := 4) hx hb dL_law_525 (by decide) ?_
        refine lv_iadd hx hb dL_law_526 ?_
        obtain ⟨hi91, hw⟩ := hw
        refine va_sld hx hb hX hbl hbA hh.2.1 hi91 dL_law_527 ?_
        refine x_ci E.hA hh (x_runV E hh (mX7_way E.hI (fun kd i h => E.hn kd i (Nat.lt_of_lt_of_le h (cnA_L kd))) hw) kX7_way tb539 (E.hn 0 0 (by decide)) rv_0 ⟨by decide, by decide⟩ rfl hl.1 rfl (Nat.le_of_ble_eq_true rfl) dL_law_528 ⟨by decide, by decide⟩) (fun r92 S92 H locs hw hh => ?_)
        refine lv_aload_n hx hb dL_law_531 rfl (lv_at hl 2 rfl) ?_
        refine lv_aload_n hx hb dL_law_532 rfl (lv_at hl 0 rfl) ?_
        refine lv_iload_n hx hb dL_law_533 rfl (lv_at hl 3 rfl) ?_
        refine lv_iconst (v := 1) hx hb dL_law_534 (by decide) ?_
        refine lv_iadd hx hb dL_law_535 ?_
        obtain ⟨hi93, hw⟩ := hw
        refine va_sld hx hb hX hbl hbA hh.2.1 hi93 dL_law_536 ?_
        refine lv_aload_n hx hb dL_law_537 rfl (lv_at hl 0 rfl) ?_
        refine lv_iload_n hx hb dL_law_538 rfl (lv_at hl 3 rfl) ?_
        refine lv_iconst (v := 2) hx hb dL_law_539 (by decide) ?_
        refine lv_iadd hx hb dL_law_540 ?_
        obtain ⟨hi94, hw⟩ := hw
        refine va_sld hx hb hX hbl hbA hh.2.1 hi94 dL_law_541 ?_
        refine lv_aload_n hx hb dL_law_542 rfl (lv_at hl 0 rfl) ?_
        refine lv_iload_n hx hb dL_law_543 rfl (lv_at hl 3 rfl) ?_
        refine lv_iconst (v := 3) hx hb dL_law_544 (by decide) ?_
        refine lv_iadd hx hb dL_law_545 ?_
        obtain ⟨hi95, hw⟩ := hw
        refine va_sld hx hb hX hbl hbA hh.2.1 hi95 dL_law_546 ?_
        refine lv_aload_n hx hb dL_law_547 rfl (lv_at hl 0 rfl) ?_
        refine lv_iload_n hx hb dL_law_548 rfl (lv_at hl 3 rfl) ?_
        refine lv_iconst (v := 4) hx hb dL_law_549 (by decide) ?_
        refine lv_iadd hx hb dL_law_550 ?_
        obtain ⟨hi96, hw⟩ := hw
        refine va_sld hx hb hX hbl hbA hh.2.1 hi96 dL_law_551 ?_
        refine x_ci E.hA hh (x_runV E hh (mX8_way E.hI (fun kd i h => E.hn kd i (cnM_PL kd i h)) hw) kX8_way tb1080 (E.hn 40 0 (by decide)) rv_40 ⟨by decide, by decide⟩ rfl hl.1 rfl (Nat.le_of_ble_eq_true rfl) dL_law_552 ⟨by decide, by decide⟩) (fun r97 S97 H locs hw hh => ?_)
        refine lv_icmp_eq (tgt := 1102) hx hb dL_law_555 (by decide) (fun c98 => ?_) (fun c98 => ?_)
        · have hw := ifT hw c98
          exact bL_law_1102 E hX hbl hbA ih hw hh (lv_sub hl [0, 1, 2, 3] rfl)
        · have hw := ifF hw c98
          refine lv_iconst (v := 0) hx hb dL_law_558 (by decide) ?_
          exact hw.elim
      have hw := ifF hw c87
      by_cases c99 : ((xs x3.toNatClampNeg) &&& 31) = 12
      · have hw := ifT hw c99
        refine lv_tableIn (tgt := 560) hx hb dL_law_33 (by rw [c99] <;> decide) (by rw [c99] <;> decide) (by rw [c99] <;> rfl) (by decide) ?_
        refine lv_aload_n hx hb dL_law_560 rfl (lv_at hl 1 rfl) ?_
        refine lv_aload_n hx hb dL_law_561 rfl (lv_at hl 0 rfl) ?_
        refine lv_iload_n hx hb dL_law_562 rfl (lv_at hl 3 rfl) ?_
        refine lv_iconst (v := 1) hx hb dL_law_563 (by decide) ?_
        refine lv_iadd hx hb dL_law_564 ?_
        obtain ⟨hi100, hw⟩ := hw
        refine va_sld hx hb hX hbl hbA hh.2.1 hi100 dL_law_565 ?_
        refine x_ci E.hA hh (x_runV E hh (mX7_mistake E.hI (fun kd i h => E.hn kd i (Nat.lt_of_lt_of_le h (cnA_L kd))) hw) kX7_mistake tb568 (E.hn 0 0 (by decide)) rv_0 ⟨by decide, by decide⟩ rfl hl.1 rfl (Nat.le_of_ble_eq_true rfl) dL_law_566 ⟨by decide, by decide⟩) (fun r101 S101 H locs hw hh => ?_)
        refine lv_aload_n hx hb dL_law_569 rfl (lv_at hl 2 rfl) ?_
        refine lv_aload_n hx hb dL_law_570 rfl (lv_at hl 0 rfl) ?_
        refine lv_iload_n hx hb dL_law_571 rfl (lv_at hl 3 rfl) ?_
        refine lv_iconst (v := 1) hx hb dL_law_572 (by decide) ?_
        refine lv_iadd hx hb dL_law_573 ?_
        obtain ⟨hi102, hw⟩ := hw
        refine va_sld hx hb hX hbl hbA hh.2.1 hi102 dL_law_574 ?_
        refine x_ci E.hA hh (x_runV E hh (mX8_mistake E.hI (fun kd i h => E.hn kd i (cnM_PL kd i h)) hw) kX8_mistake tb1088 (E.hn 40 0 (by decide)) rv_40 ⟨by decide, by decide⟩ rfl hl.1 rfl (Nat.le_of_ble_eq_true rfl) dL_law_575 ⟨by decide, by decide⟩) (fun r103 S103 H locs hw hh => ?_)
        refine lv_icmp_eq (tgt := 1102) hx hb dL_law_578 (by decide) (fun c104 => ?_) (fun c104 => ?_)
        · have hw := ifT hw c104
          exact bL_law_1102 E hX hbl hbA ih hw hh (lv_sub hl [0, 1, 2, 3] rfl)
        · have hw := ifF hw c104
          refine lv_iconst (v := 0) hx hb dL_law_581 (by decide) ?_
          exact hw.elim
      have hw := ifF hw c99
      by_cases c105 : ((xs x3.toNatClampNeg) &&& 31) = 13
      · have hw := ifT hw c105
        refine lv_tableIn (tgt := 583) hx hb dL_law_33 (by rw [c105] <;> decide) (by rw [c105] <;> decide) (by rw [c105] <;> rfl) (by decide) ?_
        refine lv_aload_n hx hb dL_law_583 rfl (lv_at hl 1 rfl) ?_
        refine lv_aload_n hx hb dL_law_584 rfl (lv_at hl 0 rfl) ?_
        refine lv_iload_n hx hb dL_law_585 rfl (lv_at hl 3 rfl) ?_
        refine lv_iconst (v := 1) hx hb dL_law_586 (by decide) ?_
        refine lv_iadd hx hb dL_law_587 ?_
        obtain ⟨hi106, hw⟩ := hw
        refine va_sld hx hb hX hbl hbA hh.2.1 hi106 dL_law_588 ?_
        refine x_ci E.hA hh (x_runV E hh (mX7_sure E.hI (fun kd i h => E.hn kd i (Nat.lt_of_lt_of_le h (cnA_L kd))) hw) kX7_sure tb572 (E.hn 0 0 (by decide)) rv_0 ⟨by decide, by decide⟩ rfl hl.1 rfl (Nat.le_of_ble_eq_true rfl) dL_law_589 ⟨by decide, by decide⟩) (fun r107 S107 H locs hw hh => ?_)
        refine lv_aload_n hx hb dL_law_592 rfl (lv_at hl 2 rfl) ?_
        refine lv_aload_n hx hb dL_law_593 rfl (lv_at hl 0 rfl) ?_
        refine lv_iload_n hx hb dL_law_594 rfl (lv_at hl 3 rfl) ?_
        refine lv_iconst (v := 1) hx hb dL_law_595 (by decide) ?_
        refine lv_iadd hx hb dL_law_596 ?_
        obtain ⟨hi108, hw⟩ := hw
        refine va_sld hx hb hX hbl hbA hh.2.1 hi108 dL_law_597 ?_
        refine x_ci E.hA hh (x_runV E hh (mX8_sure E.hI (fun kd i h => E.hn kd i (cnM_PL kd i h)) hw) kX8_sure tb1092 (E.hn 40 0 (by decide)) rv_40 ⟨by decide, by decide⟩ rfl hl.1 rfl (Nat.le_of_ble_eq_true rfl) dL_law_598 ⟨by decide, by decide⟩) (fun r109 S109 H locs hw hh => ?_)
        refine lv_icmp_eq (tgt := 1102) hx hb dL_law_601 (by decide) (fun c110 => ?_) (fun c110 => ?_)
        · have hw := ifT hw c110
          exact bL_law_1102 E hX hbl hbA ih hw hh (lv_sub hl [0, 1, 2, 3] rfl)
        · have hw := ifF hw c110
          refine lv_iconst (v := 0) hx hb dL_law_604 (by decide) ?_
          exact hw.elim
      have hw := ifF hw c105
      by_cases c111 : ((xs x3.toNatClampNeg) &&& 31) = 14
      · have hw := ifT hw c111
        refine lv_tableIn (tgt := 606) hx hb dL_law_33 (by rw [c111] <;> decide) (by rw [c111] <;> decide) (by rw [c111] <;> rfl) (by decide) ?_
        refine lv_aload_n hx hb dL_law_606 rfl (lv_at hl 1 rfl) ?_
        refine lv_aload_n hx hb dL_law_607 rfl (lv_at hl 0 rfl) ?_
        refine lv_iload_n hx hb dL_law_608 rfl (lv_at hl 3 rfl) ?_
        refine lv_iconst (v := 1) hx hb dL_law_609 (by decide) ?_
        refine lv_iadd hx hb dL_law_610 ?_
        obtain ⟨hi112, hw⟩ := hw
        refine va_sld hx hb hX hbl hbA hh.2.1 hi112 dL_law_611 ?_
        refine x_ci E.hA hh (x_runV E hh (mX7_pairings E.hI (fun kd i h => E.hn kd i (Nat.lt_of_lt_of_le h (cnA_L kd))) hw) kX7_pairings tb580 (E.hn 0 0 (by decide)) rv_0 ⟨by decide, by decide⟩ rfl hl.1 rfl (Nat.le_of_ble_eq_true rfl) dL_law_612 ⟨by decide, by decide⟩) (fun r113 S113 H locs hw hh => ?_)
        refine lv_aload_n hx hb dL_law_615 rfl (lv_at hl 2 rfl) ?_
        refine lv_aload_n hx hb dL_law_616 rfl (lv_at hl 0 rfl) ?_
        refine lv_iload_n hx hb dL_law_617 rfl (lv_at hl 3 rfl) ?_
        refine lv_iconst (v := 1) hx hb dL_law_618 (by decide) ?_
        refine lv_iadd hx hb dL_law_619 ?_
        obtain ⟨hi114, hw⟩ := hw
        refine va_sld hx hb hX hbl hbA hh.2.1 hi114 dL_law_620 ?_
        refine x_ci E.hA hh (x_runV E hh (mX8_pairings E.hI (fun kd i h => E.hn kd i (cnM_PL kd i h)) hw) kX8_pairings tb1096 (E.hn 40 0 (by decide)) rv_40 ⟨by decide, by decide⟩ rfl hl.1 rfl (Nat.le_of_ble_eq_true rfl) dL_law_621 ⟨by decide, by decide⟩) (fun r115 S115 H locs hw hh => ?_)
        refine lv_icmp_eq (tgt := 1102) hx hb dL_law_624 (by decide) (fun c116 => ?_) (fun c116 => ?_)
        · have hw := ifT hw c116
          exact bL_law_1102 E hX hbl hbA ih hw hh (lv_sub hl [0, 1, 2, 3] rfl)
        · have hw := ifF hw c116
          refine lv_iconst (v := 0) hx hb dL_law_627 (by decide) ?_
          exact hw.elim
      have hw := ifF hw c111
      by_cases c117 : ((xs x3.toNatClampNeg) &&& 31) = 15
      · have hw := ifT hw c117
        refine lv_tableIn (tgt := 629) hx hb dL_law_33 (by rw [c117] <;> decide) (by rw [c117] <;> decide) (by rw [c117] <;> rfl) (by decide) ?_
        refine lv_aload_n hx hb dL_law_629 rfl (lv_at hl 1 rfl) ?_
        refine lv_aload_n hx hb dL_law_630 rfl (lv_at hl 0 rfl) ?_
        refine lv_iload_n hx hb dL_law_631 rfl (lv_at hl 3 rfl) ?_
        refine lv_iconst (v := 1) hx hb dL_law_632 (by decide) ?_
        refine lv_iadd hx hb dL_law_633 ?_
        obtain ⟨hi118, hw⟩ := hw
        refine va_sld hx hb hX hbl hbA hh.2.1 hi118 dL_law_634 ?_
        refine lv_aload_n hx hb dL_law_635 rfl (lv_at hl 0 rfl) ?_
        refine lv_iload_n hx hb dL_law_636 rfl (lv_at hl 3 rfl) ?_
        refine lv_iconst (v := 2) hx hb dL_law_637 (by decide) ?_
        refine lv_iadd hx hb dL_law_638 ?_
        obtain ⟨hi119, hw⟩ := hw
        refine va_sld hx hb hX hbl hbA hh.2.1 hi119 dL_law_639 ?_
        refine x_ci E.hA hh (x_runV E hh (mX7_best E.hI (fun kd i h => E.hn kd i (Nat.lt_of_lt_of_le h (cnA_L kd))) hw) kX7_best tb609 (E.hn 0 0 (by decide)) rv_0 ⟨by decide, by decide⟩ rfl hl.1 rfl (Nat.le_of_ble_eq_true rfl) dL_law_640 ⟨by decide, by decide⟩) (fun r120 S120 H locs hw hh => ?_)
        refine lv_aload_n hx hb dL_law_643 rfl (lv_at hl 2 rfl) ?_
        refine lv_aload_n hx hb dL_law_644 rfl (lv_at hl 0 rfl) ?_
        refine lv_iload_n hx hb dL_law_645 rfl (lv_at hl 3 rfl) ?_
        refine lv_iconst (v := 1) hx hb dL_law_646 (by decide) ?_
        refine lv_iadd hx hb dL_law_647 ?_
        obtain ⟨hi121, hw⟩ := hw
        refine va_sld hx hb hX hbl hbA hh.2.1 hi121 dL_law_648 ?_
        refine lv_aload_n hx hb dL_law_649 rfl (lv_at hl 0 rfl) ?_
        refine lv_iload_n hx hb dL_law_650 rfl (lv_at hl 3 rfl) ?_
        refine lv_iconst (v := 2) hx hb dL_law_651 (by decide) ?_
        refine lv_iadd hx hb dL_law_652 ?_
        obtain ⟨hi122, hw⟩ := hw
        refine va_sld hx hb hX hbl hbA hh.2.1 hi122 dL_law_653 ?_
        refine x_ci E.hA hh (x_runV E hh (mX8_best E.hI (fun kd i h => E.hn kd i (cnM_PL kd i h)) hw) kX8_best tb1124 (E.hn 40 0 (by decide)) rv_40 ⟨by decide, by decide⟩ rfl hl.1 rfl (Nat.le_of_ble_eq_true rfl) dL_law_654 ⟨by decide, by decide⟩) (fun r123 S123 H locs hw hh => ?_)
        refine lv_icmp_eq (tgt := 1102) hx hb dL_law_657 (by decide) (fun c124 => ?_) (fun c124 => ?_)
        · have hw := ifT hw c124
          exact bL_law_1102 E hX hbl hbA ih hw hh (lv_sub hl [0, 1, 2, 3] rfl)
        · have hw := ifF hw c124
          refine lv_iconst (v := 0) hx hb dL_law_660 (by decide) ?_
          exact hw.elim
      have hw := ifF hw c117
      by_cases c125 : ((xs x3.toNatClampNeg) &&& 31) = 16
      · have hw := ifT hw c125
        refine lv_tableIn (tgt := 662) hx hb dL_law_33 (by rw [c125] <;> decide) (by rw [c125] <;> decide) (by rw [c125] <;> rfl) (by decide) ?_
        refine lv_aload_n hx hb dL_law_662 rfl (lv_at hl 1 rfl) ?_
        refine lv_aload_n hx hb dL_law_663 rfl (lv_at hl 0 rfl) ?_
        refine lv_iload_n hx hb dL_law_664 rfl (lv_at hl 3 rfl) ?_
        refine lv_iconst (v := 1) hx hb dL_law_665 (by decide) ?_
        refine lv_iadd hx hb dL_law_666 ?_
        obtain ⟨hi126, hw⟩ := hw
        refine va_sld hx hb hX hbl hbA hh.2.1 hi126 dL_law_667 ?_
        refine x_ci E.hA hh (x_runV E hh (mX7_row E.hI (fun kd i h => E.hn kd i (Nat.lt_of_lt_of_le h (cnA_L kd))) hw) kX7_row tb617 (E.hn 0 0 (by decide)) rv_0 ⟨by decide, by decide⟩ rfl hl.1 rfl (Nat.le_of_ble_eq_true rfl) dL_law_668 ⟨by decide, by decide⟩) (fun r127 S127 H locs hw hh => ?_)
        refine lv_aload_n hx hb dL_law_671 rfl (lv_at hl 2 rfl) ?_
        refine lv_aload_n hx hb dL_law_672 rfl (lv_at hl 0 rfl) ?_
        refine lv_iload_n hx hb dL_law_673 rfl (lv_at hl 3 rfl) ?_
        refine lv_iconst (v := 1) hx hb dL_law_674 (by decide) ?_
        refine lv_iadd hx hb dL_law_675 ?_
        obtain ⟨hi128, hw⟩ := hw
        refine va_sld hx hb hX hbl hbA hh.2.1 hi128 dL_law_676 ?_
        refine x_ci E.hA hh (x_runV E hh (mX8_row E.hI (fun kd i h => E.hn kd i (cnM_PL kd i h)) hw) kX8_row tb1128 (E.hn 40 0 (by decide)) rv_40 ⟨by decide, by decide⟩ rfl hl.1 rfl (Nat.le_of_ble_eq_true rfl) dL_law_677 ⟨by decide, by decide⟩) (fun r129 S129 H locs hw hh => ?_)
        refine lv_icmp_eq (tgt := 1102) hx hb dL_law_680 (by decide) (fun c130 => ?_) (fun c130 => ?_)
        · have hw := ifT hw c130
          exact bL_law_1102 E hX hbl hbA ih hw hh (lv_sub hl [0, 1, 2, 3] rfl)
        · have hw := ifF hw c130
          refine lv_iconst (v := 0) hx hb dL_law_683 (by decide) ?_
          exact hw.elim
      have hw := ifF hw c125
      by_cases c131 : ((xs x3.toNatClampNeg) &&& 31) = 17
      · have hw := ifT hw c131
        refine lv_tableIn (tgt := 685) hx hb dL_law_33 (by rw [c131] <;> decide) (by rw [c131] <;> decide) (by rw [c131] <;> rfl) (by decide) ?_
        refine lv_aload_n hx hb dL_law_685 rfl (lv_at hl 1 rfl) ?_
        refine lv_aload_n hx hb dL_law_686 rfl (lv_at hl 0 rfl) ?_
        refine lv_iload_n hx hb dL_law_687 rfl (lv_at hl 3 rfl) ?_
        refine lv_iconst (v := 1) hx hb dL_law_688 (by decide) ?_
        refine lv_iadd hx hb dL_law_689 ?_
        obtain ⟨hi132, hw⟩ := hw
        refine va_sld hx hb hX hbl hbA hh.2.1 hi132 dL_law_690 ?_
        refine lv_aload_n hx hb dL_law_691 rfl (lv_at hl 0 rfl) ?_
        refine lv_iload_n hx hb dL_law_692 rfl (lv_at hl 3 rfl) ?_
        refine lv_iconst (v := 2) hx hb dL_law_693 (by decide) ?_
        refine lv_iadd hx hb dL_law_694 ?_
        obtain ⟨hi133, hw⟩ := hw
        refine va_sld hx hb hX hbl hbA hh.2.1 hi133 dL_law_695 ?_
        refine x_ci E.hA hh (x_runV E hh (mX7_year E.hI (fun kd i h => E.hn kd i (Nat.lt_of_lt_of_le h (cnA_L kd))) hw) kX7_year tb632 (E.hn 0 0 (by decide)) rv_0 ⟨by decide, by decide⟩ rfl hl.1 rfl (Nat.le_of_ble_eq_true rfl) dL_law_696 ⟨by decide, by decide⟩) (fun r134 S134 H locs hw hh => ?_)
        refine lv_aload_n hx hb dL_law_699 rfl (lv_at hl 2 rfl) ?_
        refine lv_aload_n hx hb dL_law_700 rfl (lv_at hl 0 rfl) ?_
        refine lv_iload_n hx hb dL_law_701 rfl (lv_at hl 3 rfl) ?_
        refine lv_iconst (v := 1) hx hb dL_law_702 (by decide) ?_
        refine lv_iadd hx hb dL_law_703 ?_
        obtain ⟨hi135, hw⟩ := hw
        refine va_sld hx hb hX hbl hbA hh.2.1 hi135 dL_law_704 ?_
        refine lv_aload_n hx hb dL_law_705 rfl (lv_at hl 0 rfl) ?_
        refine lv_iload_n hx hb dL_law_706 rfl (lv_at hl 3 rfl) ?_
        refine lv_iconst (v := 2) hx hb dL_law_707 (by decide) ?_
        refine lv_iadd hx hb dL_law_708 ?_
        obtain ⟨hi136, hw⟩ := hw
        refine va_sld hx hb hX hbl hbA hh.2.1 hi136 dL_law_709 ?_
        refine x_ci E.hA hh (x_runV E hh (mX8_year E.hI (fun kd i h => E.hn kd i (cnM_PL kd i h)) hw) kX8_year tb1136 (E.hn 40 0 (by decide)) rv_40 ⟨by decide, by decide⟩ rfl hl.1 rfl (Nat.le_of_ble_eq_true rfl) dL_law_710 ⟨by decide, by decide⟩) (fun r137 S137 H locs hw hh => ?_)
        refine lv_icmp_eq (tgt := 1102) hx hb dL_law_713 (by decide) (fun c138 => ?_) (fun c138 => ?_)
        · have hw := ifT hw c138
          exact bL_law_1102 E hX hbl hbA ih hw hh (lv_sub hl [0, 1, 2, 3] rfl)
        · have hw := ifF hw c138
          refine lv_iconst (v := 0) hx hb dL_law_716 (by decide) ?_
          exact hw.elim
      have hw := ifF hw c131
      by_cases c139 : ((xs x3.toNatClampNeg) &&& 31) = 18
      · have hw := ifT hw c139
        refine lv_tableIn (tgt := 718) hx hb dL_law_33 (by rw [c139] <;> decide) (by rw [c139] <;> decide) (by rw [c139] <;> rfl) (by decide) ?_
        refine lv_aload_n hx hb dL_law_718 rfl (lv_at hl 1 rfl) ?_
        refine lv_aload_n hx hb dL_law_719 rfl (lv_at hl 0 rfl) ?_
        refine lv_iload_n hx hb dL_law_720 rfl (lv_at hl 3 rfl) ?_
        refine lv_iconst (v := 1) hx hb dL_law_721 (by decide) ?_
        refine lv_iadd hx hb dL_law_722 ?_
        obtain ⟨hi140, hw⟩ := hw
        refine va_sld hx hb hX hbl hbA hh.2.1 hi140 dL_law_723 ?_
        refine lv_aload_n hx hb dL_law_724 rfl (lv_at hl 0 rfl) ?_
        refine lv_iload_n hx hb dL_law_725 rfl (lv_at hl 3 rfl) ?_
        refine lv_iconst (v := 2) hx hb dL_law_726 (by decide) ?_
        refine lv_iadd hx hb dL_law_727 ?_
        obtain ⟨hi141, hw⟩ := hw
        refine va_sld hx hb hX hbl hbA hh.2.1 hi141 dL_law_728 ?_
        refine x_ci E.hA hh (x_runV E hh (mX7_judge E.hI (fun kd i h => E.hn kd i (Nat.lt_of_lt_of_le h (cnA_L kd))) hw) kX7_judge tb650 (E.hn 0 0 (by decide)) rv_0 ⟨by decide, by decide⟩ rfl hl.1 rfl (Nat.le_of_ble_eq_true rfl) dL_law_729 ⟨by decide, by decide⟩) (fun r142 S142 H locs hw hh => ?_)
        refine lv_aload_n hx hb dL_law_732 rfl (lv_at hl 2 rfl) ?_
        refine lv_aload_n hx hb dL_law_733 rfl (lv_at hl 0 rfl) ?_
        refine lv_iload_n hx hb dL_law_734 rfl (lv_at hl 3 rfl) ?_
        refine lv_iconst (v := 1) hx hb dL_law_735 (by decide) ?_
        refine lv_iadd hx hb dL_law_736 ?_
        obtain ⟨hi143, hw⟩ := hw
        refine va_sld hx hb hX hbl hbA hh.2.1 hi143 dL_law_737 ?_
        refine lv_aload_n hx hb dL_law_738 rfl (lv_at hl 0 rfl) ?_
        refine lv_iload_n hx hb dL_law_739 rfl (lv_at hl 3 rfl) ?_
        refine lv_iconst (v := 2) hx hb dL_law_740 (by decide) ?_
        refine lv_iadd hx hb dL_law_741 ?_
        obtain ⟨hi144, hw⟩ := hw
        refine va_sld hx hb hX hbl hbA hh.2.1 hi144 dL_law_742 ?_
        refine x_ci E.hA hh (x_runV E hh (mX8_judge E.hI (fun kd i h => E.hn kd i (cnM_PL kd i h)) hw) kX8_judge tb1149 (E.hn 40 0 (by decide)) rv_40 ⟨by decide, by decide⟩ rfl hl.1 rfl (Nat.le_of_ble_eq_true rfl) dL_law_743 ⟨by decide, by decide⟩) (fun r145 S145 H locs hw hh => ?_)
        refine lv_icmp_eq (tgt := 1102) hx hb dL_law_746 (by decide) (fun c146 => ?_) (fun c146 => ?_)
        · have hw := ifT hw c146
          exact bL_law_1102 E hX hbl hbA ih hw hh (lv_sub hl [0, 1, 2, 3] rfl)
        · have hw := ifF hw c146
          refine lv_iconst (v := 0) hx hb dL_law_749 (by decide) ?_
          exact hw.elim
      have hw := ifF hw c139
      by_cases c147 : ((xs x3.toNatClampNeg) &&& 31) = 19
      · have hw := ifT hw c147
        refine lv_tableIn (tgt := 751) hx hb dL_law_33 (by rw [c147] <;> decide) (by rw [c147] <;> decide) (by rw [c147] <;> rfl) (by decide) ?_
        refine lv_aload_n hx hb dL_law_751 rfl (lv_at hl 1 rfl) ?_
        refine lv_aload_n hx hb dL_law_752 rfl (lv_at hl 0 rfl) ?_
        refine lv_iload_n hx hb dL_law_753 rfl (lv_at hl 3 rfl) ?_
        refine lv_iconst (v := 1) hx hb dL_law_754 (by decide) ?_
        refine lv_iadd hx hb dL_law_755 ?_
        obtain ⟨hi148, hw⟩ := hw
        refine va_sld hx hb hX hbl hbA hh.2.1 hi148 dL_law_756 ?_
        refine x_ci E.hA hh (x_runV E hh (mX7_drawn E.hI (fun kd i h => E.hn kd i (Nat.lt_of_lt_of_le h (cnA_L kd))) hw) kX7_drawn tb655 (E.hn 0 0 (by decide)) rv_0 ⟨by decide, by decide⟩ rfl hl.1 rfl (Nat.le_of_ble_eq_true rfl) dL_law_757 ⟨by decide, by decide⟩) (fun r149 S149 H locs hw hh => ?_)
        refine lv_aload_n hx hb dL_law_760 rfl (lv_at hl 2 rfl) ?_
        refine lv_aload_n hx hb dL_law_761 rfl (lv_at hl 0 rfl) ?_
        refine lv_iload_n hx hb dL_law_762 rfl (lv_at hl 3 rfl) ?_
        refine lv_iconst (v := 1) hx hb dL_law_763 (by decide) ?_
        refine lv_iadd hx hb dL_law_764 ?_
        obtain ⟨hi150, hw⟩ := hw
        refine va_sld hx hb hX hbl hbA hh.2.1 hi150 dL_law_765 ?_
        refine x_ci E.hA hh (x_runV E hh (mX8_drawn E.hI (fun kd i h => E.hn kd i (cnM_PL kd i h)) hw) kX8_drawn tb1153 (E.hn 40 0 (by decide)) rv_40 ⟨by decide, by decide⟩ rfl hl.1 rfl (Nat.le_of_ble_eq_true rfl) dL_law_766 ⟨by decide, by decide⟩) (fun r151 S151 H locs hw hh => ?_)
        refine lv_icmp_eq (tgt := 1102) hx hb dL_law_769 (by decide) (fun c152 => ?_) (fun c152 => ?_)
        · have hw := ifT hw c152
          exact bL_law_1102 E hX hbl hbA ih hw hh (lv_sub hl [0, 1, 2, 3] rfl)
        · have hw := ifF hw c152
          refine lv_iconst (v := 0) hx hb dL_law_772 (by decide) ?_
          exact hw.elim
      have hw := ifF hw c147
      by_cases c153 : ((xs x3.toNatClampNeg) &&& 31) = 20
      · have hw := ifT hw c153
        refine lv_tableIn (tgt := 774) hx hb dL_law_33 (by rw [c153] <;> decide) (by rw [c153] <;> decide) (by rw [c153] <;> rfl) (by decide) ?_
        refine lv_aload_n hx hb dL_law_774 rfl (lv_at hl 1 rfl) ?_
        refine lv_aload_n hx hb dL_law_775 rfl (lv_at hl 0 rfl) ?_
        refine lv_iload_n hx hb dL_law_776 rfl (lv_at hl 3 rfl) ?_
        refine lv_iconst (v := 1) hx hb dL_law_777 (by decide) ?_
        refine lv_iadd hx hb dL_law_778 ?_
        obtain ⟨hi154, hw⟩ := hw
        refine va_sld hx hb hX hbl hbA hh.2.1 hi154 dL_law_779 ?_
        refine lv_aload_n hx hb dL_law_780 rfl (lv_at hl 0 rfl) ?_
        refine lv_iload_n hx hb dL_law_781 rfl (lv_at hl 3 rfl) ?_
        refine lv_iconst (v := 2) hx hb dL_law_782 (by decide) ?_
        refine lv_iadd hx hb dL_law_783 ?_
        obtain ⟨hi155, hw⟩ := hw
        refine va_sld hx hb hX hbl hbA hh.2.1 hi155 dL_law_784 ?_
        refine lv_aload_n hx hb dL_law_785 rfl (lv_at hl 0 rfl) ?_
        refine lv_iload_n hx hb dL_law_786 rfl (lv_at hl 3 rfl) ?_
        refine lv_iconst (v := 3) hx hb dL_law_787 (by decide) ?_
        refine lv_iadd hx hb dL_law_788 ?_
        obtain ⟨hi156, hw⟩ := hw
        refine va_sld hx hb hX hbl hbA hh.2.1 hi156 dL_law_789 ?_
        refine x_cl E.hA hh (x_runV E hh (mX7_chance E.hI (fun kd i h => E.hn kd i (Nat.lt_of_lt_of_le h (cnA_L kd))) hw) kX7_chance tb664 (E.hn 0 0 (by decide)) rv_0 ⟨by decide, by decide⟩ rfl hl.1 rfl (Nat.le_of_ble_eq_true rfl) dL_law_790 ⟨by decide, by decide⟩) (fun r157 S157 H locs hw hh => ?_)
        refine lv_aload_n hx hb dL_law_793 rfl (lv_at hl 2 rfl) ?_
        refine lv_aload_n hx hb dL_law_794 rfl (lv_at hl 0 rfl) ?_
        refine lv_iload_n hx hb dL_law_795 rfl (lv_at hl 3 rfl) ?_
        refine lv_iconst (v := 1) hx hb dL_law_796 (by decide) ?_
        refine lv_iadd hx hb dL_law_797 ?_
        obtain ⟨hi158, hw⟩ := hw
        refine va_sld hx hb hX hbl hbA hh.2.1 hi158 dL_law_798 ?_
        refine lv_aload_n hx hb dL_law_799 rfl (lv_at hl 0 rfl) ?_
        refine lv_iload_n hx hb dL_law_800 rfl (lv_at hl 3 rfl) ?_
        refine lv_iconst (v := 2) hx hb dL_law_801 (by decide) ?_
        refine lv_iadd hx hb dL_law_802 ?_
        obtain ⟨hi159, hw⟩ := hw
        refine va_sld hx hb hX hbl hbA hh.2.1 hi159 dL_law_803 ?_
        refine lv_aload_n hx hb dL_law_804 rfl (lv_at hl 0 rfl) ?_
        refine lv_iload_n hx hb dL_law_805 rfl (lv_at hl 3 rfl) ?_
        refine lv_iconst (v := 3) hx hb dL_law_806 (by decide) ?_
        refine lv_iadd hx hb dL_law_807 ?_
        obtain ⟨hi160, hw⟩ := hw
        refine va_sld hx hb hX hbl hbA hh.2.1 hi160 dL_law_808 ?_
        refine x_cl E.hA hh (x_runV E hh (mX8_chance E.hI (fun kd i h => E.hn kd i (cnM_PL kd i h)) hw) kX8_chance tb1158 (E.hn 40 0 (by decide)) rv_40 ⟨by decide, by decide⟩ rfl hl.1 rfl (Nat.le_of_ble_eq_true rfl) dL_law_809 ⟨by decide, by decide⟩) (fun r161 S161 H locs hw hh => ?_)
        refine W.lcmp hx hb dL_law_812 ?_
        refine lv_if_eq (tgt := 1102) hx hb dL_law_813 (by decide) (fun c162 => ?_) (fun c162 => ?_)
        · have hw := ifT hw c162
          exact bL_law_1102 E hX hbl hbA ih hw hh (lv_sub hl [0, 1, 2, 3] rfl)
        · have hw := ifF hw c162
          refine lv_iconst (v := 0) hx hb dL_law_816 (by decide) ?_
          exact hw.elim
      have hw := ifF hw c153
      by_cases c163 : ((xs x3.toNatClampNeg) &&& 31) = 21
      · have hw := ifT hw c163
        refine lv_tableIn (tgt := 818) hx hb dL_law_33 (by rw [c163] <;> decide) (by rw [c163] <;> decide) (by rw [c163] <;> rfl) (by decide) ?_
        refine lv_aload_n hx hb dL_law_818 rfl (lv_at hl 1 rfl) ?_
        refine x_ci E.hA hh (x_runV E hh (mX7_image E.hI (fun kd i h => E.hn kd i (Nat.lt_of_lt_of_le h (cnA_L kd))) hw) kX7_image tb673 (E.hn 0 0 (by decide)) rv_0 ⟨by decide, by decide⟩ rfl hl.1 rfl (Nat.le_of_ble_eq_true rfl) dL_law_819 ⟨by decide, by decide⟩) (fun r164 S164 H locs hw hh => ?_)
        refine lv_aload_n hx hb dL_law_822 rfl (lv_at hl 2 rfl) ?_
        refine x_ci E.hA hh (x_runV E hh (mX8_image E.hI (fun kd i h => E.hn kd i (cnM_PL kd i h)) hw) kX8_image tb1165 (E.hn 40 0 (by decide)) rv_40 ⟨by decide, by decide⟩ rfl hl.1 rfl (Nat.le_of_ble_eq_true rfl) dL_law_823 ⟨by decide, by decide⟩) (fun r165 S165 H locs hw hh => ?_)
        refine lv_icmp_eq (tgt := 1102) hx hb dL_law_826 (by decide) (fun c166 => ?_) (fun c166 => ?_)
        · have hw := ifT hw c166
          exact bL_law_1102 E hX hbl hbA ih hw hh (lv_sub hl [0, 1, 2, 3] rfl)
        · have hw := ifF hw c166
          refine lv_iconst (v := 0) hx hb dL_law_829 (by decide) ?_
          exact hw.elim
      have hw := ifF hw c163
      by_cases c167 : ((xs x3.toNatClampNeg) &&& 31) = 22
      · have hw := ifT hw c167
        refine lv_tableIn (tgt := 831) hx hb dL_law_33 (by rw [c167] <;> decide) (by rw [c167] <;> decide) (by rw [c167] <;> rfl) (by decide) ?_
        refine lv_aload_n hx hb dL_law_831 rfl (lv_at hl 1 rfl) ?_
        refine x_ci E.hA hh (x_runV E hh (mX7_back E.hI (fun kd i h => E.hn kd i (Nat.lt_of_lt_of_le h (cnA_L kd))) hw) kX7_back tb677 (E.hn 0 0 (by decide)) rv_0 ⟨by decide, by decide⟩ rfl hl.1 rfl (Nat.le_of_ble_eq_true rfl) dL_law_832 ⟨by decide, by decide⟩) (fun r168 S168 H locs hw hh => ?_)
        refine lv_aload_n hx hb dL_law_835 rfl (lv_at hl 2 rfl) ?_
        refine x_ci E.hA hh (x_runV E hh (mX8_back E.hI (fun kd i h => E.hn kd i (cnM_PL kd i h)) hw) kX8_back tb1169 (E.hn 40 0 (by decide)) rv_40 ⟨by decide, by decide⟩ rfl hl.1 rfl (Nat.le_of_ble_eq_true rfl) dL_law_836 ⟨by decide, by decide⟩) (fun r169 S169 H locs hw hh => ?_)
        refine lv_icmp_eq (tgt := 1102) hx hb dL_law_839 (by decide) (fun c170 => ?_) (fun c170 => ?_)
        · have hw := ifT hw c170
          exact bL_law_1102 E hX hbl hbA ih hw hh (lv_sub hl [0, 1, 2, 3] rfl)
        · have hw := ifF hw c170
          refine lv_iconst (v := 0) hx hb dL_law_842 (by decide) ?_
          exact hw.elim
      have hw := ifF hw c167
      by_cases c171 : ((xs x3.toNatClampNeg) &&& 31) = 23
      · have hw := ifT hw c171
        refine lv_tableIn (tgt := 844) hx hb dL_law_33 (by rw [c171] <;> decide) (by rw [c171] <;> decide) (by rw [c171] <;> rfl) (by decide) ?_
        refine lv_aload_n hx hb dL_law_844 rfl (lv_at hl 1 rfl) ?_
        refine lv_aload_n hx hb dL_law_845 rfl (lv_at hl 0 rfl) ?_
        refine lv_iload_n hx hb dL_law_846 rfl (lv_at hl 3 rfl) ?_
        refine lv_iconst (v := 1) hx hb dL_law_847 (by decide) ?_
        refine lv_iadd hx hb dL_law_848 ?_
        obtain ⟨hi172, hw⟩ := hw
        refine va_sld hx hb hX hbl hbA hh.2.1 hi172 dL_law_849 ?_
        refine x_ci E.hA hh (x_runV E hh (mX7_count E.hI (fun kd i h => E.hn kd i (Nat.lt_of_lt_of_le h (cnA_L kd))) hw) kX7_count tb681 (E.hn 0 0 (by decide)) rv_0 ⟨by decide, by decide⟩ rfl hl.1 rfl (Nat.le_of_ble_eq_true rfl) dL_law_850 ⟨by decide, by decide⟩) (fun r173 S173 H locs hw hh => ?_)
        refine lv_aload_n hx hb dL_law_853 rfl (lv_at hl 2 rfl) ?_
        refine lv_aload_n hx hb dL_law_854 rfl (lv_at hl 0 rfl) ?_
        refine lv_iload_n hx hb dL_law_855 rfl (lv_at hl 3 rfl) ?_
        refine lv_iconst (v := 1) hx hb dL_law_856 (by decide) ?_
        refine lv_iadd hx hb dL_law_857 ?_
        obtain ⟨hi174, hw⟩ := hw
        refine va_sld hx hb hX hbl hbA hh.2.1 hi174 dL_law_858 ?_
        refine x_ci E.hA hh (x_runV E hh (mX8_count E.hI (fun kd i h => E.hn kd i (cnM_PL kd i h)) hw) kX8_count tb1173 (E.hn 40 0 (by decide)) rv_40 ⟨by decide, by decide⟩ rfl hl.1 rfl (Nat.le_of_ble_eq_true rfl) dL_law_859 ⟨by decide, by decide⟩) (fun r175 S175 H locs hw hh => ?_)
        refine lv_icmp_eq (tgt := 1102) hx hb dL_law_862 (by decide) (fun c176 => ?_) (fun c176 => ?_)
        · have hw := ifT hw c176
          exact bL_law_1102 E hX hbl hbA ih hw hh (lv_sub hl [0, 1, 2, 3] rfl)
        · have hw := ifF hw c176
          refine lv_iconst (v := 0) hx hb dL_law_865 (by decide) ?_
          exact hw.elim
      have hw := ifF hw c171
      by_cases c177 : ((xs x3.toNatClampNeg) &&& 31) = 24
      · have hw := ifT hw c177
        refine lv_tableIn (tgt := 867) hx hb dL_law_33 (by rw [c177] <;> decide) (by rw [c177] <;> decide) (by rw [c177] <;> rfl) (by decide) ?_
        refine lv_aload_n hx hb dL_law_867 rfl (lv_at hl 1 rfl) ?_
        refine lv_aload_n hx hb dL_law_868 rfl (lv_at hl 0 rfl) ?_
        refine lv_iload_n hx hb dL_law_869 rfl (lv_at hl 3 rfl) ?_
        refine lv_iconst (v := 1) hx hb dL_law_870 (by decide) ?_
        refine lv_iadd hx hb dL_law_871 ?_
        obtain ⟨hi178, hw⟩ := hw
        refine va_sld hx hb hX hbl hbA hh.2.1 hi178 dL_law_872 ?_
        refine lv_aload_n hx hb dL_law_873 rfl (lv_at hl 0 rfl) ?_
        refine lv_iload_n hx hb dL_law_874 rfl (lv_at hl 3 rfl) ?_
        refine lv_iconst (v := 2) hx hb dL_law_875 (by decide) ?_
        refine lv_iadd hx hb dL_law_876 ?_
        obtain ⟨hi179, hw⟩ := hw
        refine va_sld hx hb hX hbl hbA hh.2.1 hi179 dL_law_877 ?_
        refine lv_aload_n hx hb dL_law_878 rfl (lv_at hl 0 rfl) ?_
        refine lv_iload_n hx hb dL_law_879 rfl (lv_at hl 3 rfl) ?_
        refine lv_iconst (v := 3) hx hb dL_law_880 (by decide) ?_
        refine lv_iadd hx hb dL_law_881 ?_
        obtain ⟨hi180, hw⟩ := hw
        refine va_sld hx hb hX hbl hbA hh.2.1 hi180 dL_law_882 ?_
        refine x_ci E.hA hh (x_runV E hh (mX7_sheet E.hI (fun kd i h => E.hn kd i (Nat.lt_of_lt_of_le h (cnA_L kd))) hw) kX7_sheet tb685 (E.hn 0 0 (by decide)) rv_0 ⟨by decide, by decide⟩ rfl hl.1 rfl (Nat.le_of_ble_eq_true rfl) dL_law_883 ⟨by decide, by decide⟩) (fun r181 S181 H locs hw hh => ?_)
        refine lv_aload_n hx hb dL_law_886 rfl (lv_at hl 2 rfl) ?_
        refine lv_aload_n hx hb dL_law_887 rfl (lv_at hl 0 rfl) ?_
        refine lv_iload_n hx hb dL_law_888 rfl (lv_at hl 3 rfl) ?_
        refine lv_iconst (v := 1) hx hb dL_law_889 (by decide) ?_
        refine lv_iadd hx hb dL_law_890 ?_
        obtain ⟨hi182, hw⟩ := hw
        refine va_sld hx hb hX hbl hbA hh.2.1 hi182 dL_law_891 ?_
        refine lv_aload_n hx hb dL_law_892 rfl (lv_at hl 0 rfl) ?_
        refine lv_iload_n hx hb dL_law_893 rfl (lv_at hl 3 rfl) ?_
        refine lv_iconst (v := 2) hx hb dL_law_894 (by decide) ?_
        refine lv_iadd hx hb dL_law_895 ?_
        obtain ⟨hi183, hw⟩ := hw
        refine va_sld hx hb hX hbl hbA hh.2.1 hi183 dL_law_896 ?_
        refine lv_aload_n hx hb dL_law_897 rfl (lv_at hl 0 rfl) ?_
        refine lv_iload_n hx hb dL_law_898 rfl (lv_at hl 3 rfl) ?_
        refine lv_iconst (v := 3) hx hb dL_law_899 (by decide) ?_
        refine lv_iadd hx hb dL_law_900 ?_
        obtain ⟨hi184, hw⟩ := hw
        refine va_sld hx hb hX hbl hbA hh.2.1 hi184 dL_law_901 ?_
        refine x_ci E.hA hh (x_runV E hh (mX8_sheet E.hI (fun kd i h => E.hn kd i (cnM_PL kd i h)) hw) kX8_sheet tb1177 (E.hn 40 0 (by decide)) rv_40 ⟨by decide, by decide⟩ rfl hl.1 rfl (Nat.le_of_ble_eq_true rfl) dL_law_902 ⟨by decide, by decide⟩) (fun r185 S185 H locs hw hh => ?_)
        refine lv_icmp_eq (tgt := 1102) hx hb dL_law_905 (by decide) (fun c186 => ?_) (fun c186 => ?_)
        · have hw := ifT hw c186
          exact bL_law_1102 E hX hbl hbA ih hw hh (lv_sub hl [0, 1, 2, 3] rfl)
        · have hw := ifF hw c186
          refine lv_iconst (v := 0) hx hb dL_law_908 (by decide) ?_
          exact hw.elim
      have hw := ifF hw c177
      by_cases c187 : ((xs x3.toNatClampNeg) &&& 31) = 25
      · have hw := ifT hw c187
        refine lv_tableIn (tgt := 910) hx hb dL_law_33 (by rw [c187] <;> decide) (by rw [c187] <;> decide) (by rw [c187] <;> rfl) (by decide) ?_
        refine lv_aload_n hx hb dL_law_910 rfl (lv_at hl 1 rfl) ?_
        refine lv_aload_n hx hb dL_law_911 rfl (lv_at hl 0 rfl) ?_
        refine lv_iload_n hx hb dL_law_912 rfl (lv_at hl 3 rfl) ?_
        refine lv_iconst (v := 1) hx hb dL_law_913 (by decide) ?_
        refine lv_iadd hx hb dL_law_914 ?_
        obtain ⟨hi188, hw⟩ := hw
        refine va_sld hx hb hX hbl hbA hh.2.1 hi188 dL_law_915 ?_
        refine lv_aload_n hx hb dL_law_916 rfl (lv_at hl 0 rfl) ?_
        refine lv_iload_n hx hb dL_law_917 rfl (lv_at hl 3 rfl) ?_
        refine lv_iconst (v := 2) hx hb dL_law_918 (by decide) ?_
        refine lv_iadd hx hb dL_law_919 ?_
        obtain ⟨hi189, hw⟩ := hw
        refine va_sld hx hb hX hbl hbA hh.2.1 hi189 dL_law_920 ?_
        refine lv_aload_n hx hb dL_law_921 rfl (lv_at hl 0 rfl) ?_
        refine lv_iload_n hx hb dL_law_922 rfl (lv_at hl 3 rfl) ?_
        refine lv_iconst (v := 3) hx hb dL_law_923 (by decide) ?_
        refine lv_iadd hx hb dL_law_924 ?_
        obtain ⟨hi190, hw⟩ := hw
        refine va_sld hx hb hX hbl hbA hh.2.1 hi190 dL_law_925 ?_
        refine x_ci E.hA hh (x_runV E hh (mX7_cell E.hI (fun kd i h => E.hn kd i (Nat.lt_of_lt_of_le h (cnA_L kd))) hw) kX7_cell tb694 (E.hn 0 0 (by decide)) rv_0 ⟨by decide, by decide⟩ rfl hl.1 rfl (Nat.le_of_ble_eq_true rfl) dL_law_926 ⟨by decide, by decide⟩) (fun r191 S191 H locs hw hh => ?_)
        refine lv_aload_n hx hb dL_law_929 rfl (lv_at hl 2 rfl) ?_
        refine lv_aload_n hx hb dL_law_930 rfl (lv_at hl 0 rfl) ?_
        refine lv_iload_n hx hb dL_law_931 rfl (lv_at hl 3 rfl) ?_
        refine lv_iconst (v := 1) hx hb dL_law_932 (by decide) ?_
        refine lv_iadd hx hb dL_law_933 ?_
        obtain ⟨hi192, hw⟩ := hw
        refine va_sld hx hb hX hbl hbA hh.2.1 hi192 dL_law_934 ?_
        refine lv_aload_n hx hb dL_law_935 rfl (lv_at hl 0 rfl) ?_
        refine lv_iload_n hx hb dL_law_936 rfl (lv_at hl 3 rfl) ?_
        refine lv_iconst (v := 2) hx hb dL_law_937 (by decide) ?_
        refine lv_iadd hx hb dL_law_938 ?_
        obtain ⟨hi193, hw⟩ := hw
        refine va_sld hx hb hX hbl hbA hh.2.1 hi193 dL_law_939 ?_
        refine lv_aload_n hx hb dL_law_940 rfl (lv_at hl 0 rfl) ?_
        refine lv_iload_n hx hb dL_law_941 rfl (lv_at hl 3 rfl) ?_
        refine lv_iconst (v := 3) hx hb dL_law_942 (by decide) ?_
        refine lv_iadd hx hb dL_law_943 ?_
        obtain ⟨hi194, hw⟩ := hw
        refine va_sld hx hb hX hbl hbA hh.2.1 hi194 dL_law_944 ?_
        refine x_ci E.hA hh (x_runV E hh (mX8_cell E.hI (fun kd i h => E.hn kd i (cnM_PL kd i h)) hw) kX8_cell tb1182 (E.hn 40 0 (by decide)) rv_40 ⟨by decide, by decide⟩ rfl hl.1 rfl (Nat.le_of_ble_eq_true rfl) dL_law_945 ⟨by decide, by decide⟩) (fun r195 S195 H locs hw hh => ?_)
        refine lv_icmp_eq (tgt := 1102) hx hb dL_law_948 (by decide) (fun c196 => ?_) (fun c196 => ?_)
        · have hw := ifT hw c196
          exact bL_law_1102 E hX hbl hbA ih hw hh (lv_sub hl [0, 1, 2, 3] rfl)
        · have hw := ifF hw c196
          refine lv_iconst (v := 0) hx hb dL_law_951 (by decide) ?_
          exact hw.elim
      have hw := ifF hw c187
      by_cases c197 : ((xs x3.toNatClampNeg) &&& 31) = 26
      · have hw := ifT hw c197
        refine lv_tableIn (tgt := 953) hx hb dL_law_33 (by rw [c197] <;> decide) (by rw [c197] <;> decide) (by rw [c197] <;> rfl) (by decide) ?_
        refine lv_aload_n hx hb dL_law_953 rfl (lv_at hl 1 rfl) ?_
        refine lv_aload_n hx hb dL_law_954 rfl (lv_at hl 0 rfl) ?_
        refine lv_iload_n hx hb dL_law_955 rfl (lv_at hl 3 rfl) ?_
        refine lv_iconst (v := 1) hx hb dL_law_956 (by decide) ?_
        refine lv_iadd hx hb dL_law_957 ?_
        obtain ⟨hi198, hw⟩ := hw
        refine va_sld hx hb hX hbl hbA hh.2.1 hi198 dL_law_958 ?_
        refine lv_aload_n hx hb dL_law_959 rfl (lv_at hl 0 rfl) ?_
        refine lv_iload_n hx hb dL_law_960 rfl (lv_at hl 3 rfl) ?_
        refine lv_iconst (v := 2) hx hb dL_law_961 (by decide) ?_
        refine lv_iadd hx hb dL_law_962 ?_
        obtain ⟨hi199, hw⟩ := hw
        refine va_sld hx hb hX hbl hbA hh.2.1 hi199 dL_law_963 ?_
        refine lv_aload_n hx hb dL_law_964 rfl (lv_at hl 0 rfl) ?_
        refine lv_iload_n hx hb dL_law_965 rfl (lv_at hl 3 rfl) ?_
        refine lv_iconst (v := 3) hx hb dL_law_966 (by decide) ?_
        refine lv_iadd hx hb dL_law_967 ?_
        obtain ⟨hi200, hw⟩ := hw
        refine va_sld hx hb hX hbl hbA hh.2.1 hi200 dL_law_968 ?_
        refine lv_aload_n hx hb dL_law_969 rfl (lv_at hl 0 rfl) ?_
        refine lv_iload_n hx hb dL_law_970 rfl (lv_at hl 3 rfl) ?_
        refine lv_iconst (v := 4) hx hb dL_law_971 (by decide) ?_
        refine lv_iadd hx hb dL_law_972 ?_
        obtain ⟨hi201, hw⟩ := hw
        refine va_sld hx hb hX hbl hbA hh.2.1 hi201 dL_law_973 ?_
        refine lv_aload_n hx hb dL_law_974 rfl (lv_at hl 0 rfl) ?_
        refine lv_iload_n hx hb dL_law_975 rfl (lv_at hl 3 rfl) ?_
        refine lv_iconst (v := 5) hx hb dL_law_976 (by decide) ?_
        refine lv_iadd hx hb dL_law_977 ?_
        obtain ⟨hi202, hw⟩ := hw
        refine va_sld hx hb hX hbl hbA hh.2.1 hi202 dL_law_978 ?_
        refine x_ci E.hA hh (x_runV E hh (mX7_copy E.hI (fun kd i h => E.hn kd i (Nat.lt_of_lt_of_le h (cnA_L kd))) hw) kX7_copy tb706 (E.hn 0 0 (by decide)) rv_0 ⟨by decide, by decide⟩ rfl hl.1 rfl (Nat.le_of_ble_eq_true rfl) dL_law_979 ⟨by decide, by decide⟩) (fun r203 S203 H locs hw hh => ?_)
        refine lv_aload_n hx hb dL_law_982 rfl (lv_at hl 2 rfl) ?_
        refine lv_aload_n hx hb dL_law_983 rfl (lv_at hl 0 rfl) ?_
        refine lv_iload_n hx hb dL_law_984 rfl (lv_at hl 3 rfl) ?_
        refine lv_iconst (v := 1) hx hb dL_law_985 (by decide) ?_
        refine lv_iadd hx hb dL_law_986 ?_
        obtain ⟨hi204, hw⟩ := hw
        refine va_sld hx hb hX hbl hbA hh.2.1 hi204 dL_law_987 ?_
        refine lv_aload_n hx hb dL_law_988 rfl (lv_at hl 0 rfl) ?_
        refine lv_iload_n hx hb dL_law_989 rfl (lv_at hl 3 rfl) ?_
        refine lv_iconst (v := 2) hx hb dL_law_990 (by decide) ?_
        refine lv_iadd hx hb dL_law_991 ?_
        obtain ⟨hi205, hw⟩ := hw
        refine va_sld hx hb hX hbl hbA hh.2.1 hi205 dL_law_992 ?_
        refine lv_aload_n hx hb dL_law_993 rfl (lv_at hl 0 rfl) ?_
        refine lv_iload_n hx hb dL_law_994 rfl (lv_at hl 3 rfl) ?_
        refine lv_iconst (v := 3) hx hb dL_law_995 (by decide) ?_
        refine lv_iadd hx hb dL_law_996 ?_
        obtain ⟨hi206, hw⟩ := hw
        refine va_sld hx hb hX hbl hbA hh.2.1 hi206 dL_law_997 ?_
        refine lv_aload_n hx hb dL_law_998 rfl (lv_at hl 0 rfl) ?_
        refine lv_iload_n hx hb dL_law_999 rfl (lv_at hl 3 rfl) ?_
        refine lv_iconst (v := 4) hx hb dL_law_1000 (by decide) ?_
        refine lv_iadd hx hb dL_law_1001 ?_
        obtain ⟨hi207, hw⟩ := hw
        refine va_sld hx hb hX hbl hbA hh.2.1 hi207 dL_law_1002 ?_
        refine lv_aload_n hx hb dL_law_1003 rfl (lv_at hl 0 rfl) ?_
        refine lv_iload_n hx hb dL_law_1004 rfl (lv_at hl 3 rfl) ?_
        refine lv_iconst (v := 5) hx hb dL_law_1005 (by decide) ?_
        refine lv_iadd hx hb dL_law_1006 ?_
        obtain ⟨hi208, hw⟩ := hw
        refine va_sld hx hb hX hbl hbA hh.2.1 hi208 dL_law_1007 ?_
        refine x_ci E.hA hh (x_runV E hh (mX8_copy E.hI (fun kd i h => E.hn kd i (cnM_PL kd i h)) hw) kX8_copy tb1186 (E.hn 40 0 (by decide)) rv_40 ⟨by decide, by decide⟩ rfl hl.1 rfl (Nat.le_of_ble_eq_true rfl) dL_law_1008 ⟨by decide, by decide⟩) (fun r209 S209 H locs hw hh => ?_)
        refine lv_icmp_eq (tgt := 1102) hx hb dL_law_1011 (by decide) (fun c210 => ?_) (fun c210 => ?_)
        · have hw := ifT hw c210
          exact bL_law_1102 E hX hbl hbA ih hw hh (lv_sub hl [0, 1, 2, 3] rfl)
        · have hw := ifF hw c210
          refine lv_iconst (v := 0) hx hb dL_law_1014 (by decide) ?_
          exact hw.elim
      have hw := ifF hw c197
      by_cases c211 : ((xs x3.toNatClampNeg) &&& 31) = 27
      · have hw := ifT hw c211
        refine lv_tableIn (tgt := 1016) hx hb dL_law_33 (by rw [c211] <;> decide) (by rw [c211] <;> decide) (by rw [c211] <;> rfl) (by decide) ?_
        refine lv_aload_n hx hb dL_law_1016 rfl (lv_at hl 1 rfl) ?_
        refine lv_aload_n hx hb dL_law_1017 rfl (lv_at hl 0 rfl) ?_
        refine lv_iload_n hx hb dL_law_1018 rfl (lv_at hl 3 rfl) ?_
        refine lv_iconst (v := 1) hx hb dL_law_1019 (by decide) ?_
        refine lv_iadd hx hb dL_law_1020 ?_
        obtain ⟨hi212, hw⟩ := hw
        refine va_sld hx hb hX hbl hbA hh.2.1 hi212 dL_law_1021 ?_
        refine lv_aload_n hx hb dL_law_1022 rfl (lv_at hl 0 rfl) ?_
        refine lv_iload_n hx hb dL_law_1023 rfl (lv_at hl 3 rfl) ?_
        refine lv_iconst (v := 2) hx hb dL_law_1024 (by decide) ?_
        refine lv_iadd hx hb dL_law_1025 ?_
        obtain ⟨hi213, hw⟩ := hw
        refine va_sld hx hb hX hbl hbA hh.2.1 hi213 dL_law_1026 ?_
        refine lv_aload_n hx hb dL_law_1027 rfl (lv_at hl 0 rfl) ?_
        refine lv_iload_n hx hb dL_law_1028 rfl (lv_at hl 3 rfl) ?_
        refine lv_iconst (v := 3) hx hb dL_law_1029 (by decide) ?_
        refine lv_iadd hx hb dL_law_1030 ?_
        obtain ⟨hi214, hw⟩ := hw
        refine va_sld hx hb hX hbl hbA hh.2.1 hi214 dL_law_1031 ?_
        refine lv_aload_n hx hb dL_law_1032 rfl (lv_at hl 0 rfl) ?_
        refine lv_iload_n hx hb dL_law_1033 rfl (lv_at hl 3 rfl) ?_
        refine lv_iconst (v := 4) hx hb dL_law_1034 (by decide) ?_
        refine lv_iadd hx hb dL_law_1035 ?_
        obtain ⟨hi215, hw⟩ := hw
        refine va_sld hx hb hX hbl hbA hh.2.1 hi215 dL_law_1036 ?_
        refine x_ci E.hA hh (x_runV E hh (mX7_likings E.hI (fun kd i h => E.hn kd i (Nat.lt_of_lt_of_le h (cnA_L kd))) hw) kX7_likings tb711 (E.hn 0 0 (by decide)) rv_0 ⟨by decide, by decide⟩ rfl hl.1 rfl (Nat.le_of_ble_eq_true rfl) dL_law_1037 ⟨by decide, by decide⟩) (fun r216 S216 H locs hw hh => ?_)
        refine lv_aload_n hx hb dL_law_1040 rfl (lv_at hl 2 rfl) ?_
        refine lv_aload_n hx hb dL_law_1041 rfl (lv_at hl 0 rfl) ?_
        refine lv_iload_n hx hb dL_law_1042 rfl (lv_at hl 3 rfl) ?_
        refine lv_iconst (v := 1) hx hb dL_law_1043 (by decide) ?_
        refine lv_iadd hx hb dL_law_1044 ?_
        obtain ⟨hi217, hw⟩ := hw
        refine va_sld hx hb hX hbl hbA hh.2.1 hi217 dL_law_1045 ?_
        refine lv_aload_n hx hb dL_law_1046 rfl (lv_at hl 0 rfl) ?_
        refine lv_iload_n hx hb dL_law_1047 rfl (lv_at hl 3 rfl) ?_
        refine lv_iconst (v := 2) hx hb dL_law_1048 (by decide) ?_
        refine lv_iadd hx hb dL_law_1049 ?_
        obtain ⟨hi218, hw⟩ := hw
        refine va_sld hx hb hX hbl hbA hh.2.1 hi218 dL_law_1050 ?_
        refine lv_aload_n hx hb dL_law_1051 rfl (lv_at hl 0 rfl) ?_
        refine lv_iload_n hx hb dL_law_1052 rfl (lv_at hl 3 rfl) ?_
        refine lv_iconst (v := 3) hx hb dL_law_1053 (by decide) ?_
        refine lv_iadd hx hb dL_law_1054 ?_
        obtain ⟨hi219, hw⟩ := hw
        refine va_sld hx hb hX hbl hbA hh.2.1 hi219 dL_law_1055 ?_
        refine lv_aload_n hx hb dL_law_1056 rfl (lv_at hl 0 rfl) ?_
        refine lv_iload_n hx hb dL_law_1057 rfl (lv_at hl 3 rfl) ?_
        refine lv_iconst (v := 4) hx hb dL_law_1058 (by decide) ?_
        refine lv_iadd hx hb dL_law_1059 ?_
        obtain ⟨hi220, hw⟩ := hw
        refine va_sld hx hb hX hbl hbA hh.2.1 hi220 dL_law_1060 ?_
        refine x_ci E.hA hh (x_runV E hh (mX8_likings E.hI (fun kd i h => E.hn kd i (cnM_PL kd i h)) hw) kX8_likings tb1190 (E.hn 40 0 (by decide)) rv_40 ⟨by decide, by decide⟩ rfl hl.1 rfl (Nat.le_of_ble_eq_true rfl) dL_law_1061 ⟨by decide, by decide⟩) (fun r221 S221 H locs hw hh => ?_)
        refine lv_icmp_eq (tgt := 1102) hx hb dL_law_1064 (by decide) (fun c222 => ?_) (fun c222 => ?_)
        · have hw := ifT hw c222
          exact bL_law_1102 E hX hbl hbA ih hw hh (lv_sub hl [0, 1, 2, 3] rfl)
        · have hw := ifF hw c222
          refine lv_iconst (v := 0) hx hb dL_law_1067 (by decide) ?_
          exact hw.elim
      have hw := ifF hw c211
      by_cases c223 : ((xs x3.toNatClampNeg) &&& 31) = 28
      · have hw := ifT hw c223
        refine lv_tableIn (tgt := 1069) hx hb dL_law_33 (by rw [c223] <;> decide) (by rw [c223] <;> decide) (by rw [c223] <;> rfl) (by decide) ?_
        refine lv_aload_n hx hb dL_law_1069 rfl (lv_at hl 1 rfl) ?_
        refine lv_aload_n hx hb dL_law_1070 rfl (lv_at hl 0 rfl) ?_
        refine lv_iload_n hx hb dL_law_1071 rfl (lv_at hl 3 rfl) ?_
        refine lv_iconst (v := 1) hx hb dL_law_1072 (by decide) ?_
        refine lv_iadd hx hb dL_law_1073 ?_
        obtain ⟨hi224, hw⟩ := hw
        refine va_sld hx hb hX hbl hbA hh.2.1 hi224 dL_law_1074 ?_
        refine lv_aload_n hx hb dL_law_1075 rfl (lv_at hl 0 rfl) ?_
        refine lv_iload_n hx hb dL_law_1076 rfl (lv_at hl 3 rfl) ?_
        refine lv_iconst (v := 2) hx hb dL_law_1077 (by decide) ?_
        refine lv_iadd hx hb dL_law_1078 ?_
        obtain ⟨hi225, hw⟩ := hw
        refine va_sld hx hb hX hbl hbA hh.2.1 hi225 dL_law_1079 ?_
        refine x_ci E.hA hh (x_runV E hh (mX7_taken E.hI (fun kd i h => E.hn kd i (Nat.lt_of_lt_of_le h (cnA_L kd))) hw) kX7_taken tb716 (E.hn 0 0 (by decide)) rv_0 ⟨by decide, by decide⟩ rfl hl.1 rfl (Nat.le_of_ble_eq_true rfl) dL_law_1080 ⟨by decide, by decide⟩) (fun r226 S226 H locs hw hh => ?_)
        refine lv_aload_n hx hb dL_law_1083 rfl (lv_at hl 2 rfl) ?_
        refine lv_aload_n hx hb dL_law_1084 rfl (lv_at hl 0 rfl) ?_
        refine lv_iload_n hx hb dL_law_1085 rfl (lv_at hl 3 rfl) ?_
        refine lv_iconst (v := 1) hx hb dL_law_1086 (by decide) ?_
        refine lv_iadd hx hb dL_law_1087 ?_
        obtain ⟨hi227, hw⟩ := hw
        refine va_sld hx hb hX hbl hbA hh.2.1 hi227 dL_law_1088 ?_
        refine lv_aload_n hx hb dL_law_1089 rfl (lv_at hl 0 rfl) ?_
        refine lv_iload_n hx hb dL_law_1090 rfl (lv_at hl 3 rfl) ?_
        refine lv_iconst (v := 2) hx hb dL_law_1091 (by decide) ?_
        refine lv_iadd hx hb dL_law_1092 ?_
        obtain ⟨hi228, hw⟩ := hw
        refine va_sld hx hb hX hbl hbA hh.2.1 hi228 dL_law_1093 ?_
        refine x_ci E.hA hh (x_runV E hh (mX8_taken E.hI (fun kd i h => E.hn kd i (cnM_PL kd i h)) hw) kX8_taken tb1195 (E.hn 40 0 (by decide)) rv_40 ⟨by decide, by decide⟩ rfl hl.1 rfl (Nat.le_of_ble_eq_true rfl) dL_law_1094 ⟨by decide, by decide⟩) (fun r229 S229 H locs hw hh => ?_)
        refine lv_icmp_eq (tgt := 1102) hx hb dL_law_1097 (by decide) (fun c230 => ?_) (fun c230 => ?_)
        · have hw := ifT hw c230
          exact bL_law_1102 E hX hbl hbA ih hw hh (lv_sub hl [0, 1, 2, 3] rfl)
        · have hw := ifF hw c230
          refine lv_iconst (v := 0) hx hb dL_law_1100 (by decide) ?_
          exact hw.elim
      have hw := ifF hw c223
      refine lv_tableOut (tgt := 1102) hx hb dL_law_33 (by have n0 := lv_neT c3 (a := 0) rfl; have n1 := lv_neT c9 (a := 1) rfl; have n2 := lv_neT c17 (a := 2) rfl; have n3 := lv_neT c29 (a := 3) rfl; have n4 := lv_neT c39 (a := 4) rfl; have n5 := lv_neT c49 (a := 5) rfl; have n6 := lv_neT c57 (a := 6) rfl; have n7 := lv_neT c63 (a := 7) rfl; have n8 := lv_neT c67 (a := 8) rfl; have n9 := lv_neT c73 (a := 9) rfl; have n10 := lv_neT c81 (a := 10) rfl; have n11 := lv_neT c87 (a := 11) rfl; have n12 := lv_neT c99 (a := 12) rfl; have n13 := lv_neT c105 (a := 13) rfl; have n14 := lv_neT c111 (a := 14) rfl; have n15 := lv_neT c117 (a := 15) rfl; have n16 := lv_neT c125 (a := 16) rfl; have n17 := lv_neT c131 (a := 17) rfl; have n18 := lv_neT c139 (a := 18) rfl; have n19 := lv_neT c147 (a := 19) rfl; have n20 := lv_neT c153 (a := 20) rfl; have n21 := lv_neT c163 (a := 21) rfl; have n22 := lv_neT c167 (a := 22) rfl; have n23 := lv_neT c171 (a := 23) rfl; have n24 := lv_neT c177 (a := 24) rfl; have n25 := lv_neT c187 (a := 25) rfl; have n26 := lv_neT c197 (a := 26) rfl; have n27 := lv_neT c211 (a := 27) rfl; have n28 := lv_neT c223 (a := 28) rfl; omega) (by decide) ?_
      exact bL_law_1102 E hX hbl hbA ih hw hh (lv_sub hl [0, 1, 2, 3] rfl)

