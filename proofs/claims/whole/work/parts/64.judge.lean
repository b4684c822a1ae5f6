/-! judge -/
def judV (m n : Nat) (T : Tn) (a b c : Int32) : Prop := (((∃ i, i < m ∧ a = nI i) ∧ ∃ i, i < n ∧ b = nI i) ∧ 0 ≤ c ∧ c ≤ 1) ∧ mayB m T a.toNatClampNeg b.toNatClampNeg = true
noncomputable def judL (m n : Nat) (U : Rl) (I : Nat → Int32) : Nat → Nat → Tn → Int32 → Int32 × Int32
  | 0, _, _, f => (-1, f)
  | d + 1, k, T, f => @ite _ (judV m n T (I (3 * k)) (I (3 * k + 1)) (I (3 * k + 2))) (Classical.propDecidable _)
      (judL m n U I d (k + 1) (endT T (I (3 * k)).toNatClampNeg (I (3 * k + 1)).toNatClampNeg (decide (I (3 * k + 2) = 1))) (bif (noB U T (I (3 * k)).toNatClampNeg (I (3 * k + 1)).toNatClampNeg (T 1 (I (3 * k)).toNatClampNeg)) == decide (I (3 * k + 2) = 1) then f + 1 else f)) (nI k, f)
theorem ts_nt' {x : Bool} (h : ¬ x = true) : x = false := by cases x <;> first | rfl | exact absurd rfl h
theorem bI_eqb {a b : Bool} : (bI a = bI b) = ((a == b) = true) := by cases a <;> cases b <;> decide
section
variable {m n r q c : Nat} {U : Rl} {I : Nat → Int32} {K : Int32 → St → Prop} {wh : Int32}
theorem sp_jud_l (hc : 3 * c ≤ 40) : ∀ (d k : Nat) (T : Tn) (f : Int32) (S : St), k + d = c → S.1 10 0 0 = nI m → S.1 10 0 1 = nI n → RT S 1 m n r T → RuC S r U → S.1 30 q 1 = nI (3 * c) → (∀ j, j < 3 * c → S.1 31 q j = I j) →
    (∀ S1, fk S S1 → K (if wh = 0 then (judL m n U I d k T f).1 else (judL m n U I d k T f).2) S1) → wbX7_judge_65 K wh q (d + 1) f (nI k) S
  | 0, k, T, f, S, e, h0, h1, hT, hU, hz, hI, kk => by
    show if S.1 30 q 1 ≤ 3 * nI k then _ else _
    rw [hz, lit32 3, pk_mul, if_pos (nI_le (by omega) (by omega))]
    have := kk S (fk_rfl S)
    by_cases w : wh = 0
    · rw [if_pos w] at this ⊢; exact this
    · rw [if_neg w] at this ⊢; exact this
  | d + 1, k, T, f, S, e, h0, h1, hT, hU, hz, hI, kk => by
    obtain ⟨hm, hn, _⟩ := hT.1
    show if S.1 30 q 1 ≤ 3 * nI k then _ else _
    rw [hz, show (3 : Int32) * nI k = nI (3 * k) from pk_mul 3 k, if_neg (nI_ge (by omega) (by omega)), nI_1, nI_p2, nI_clamp (by omega), nI_clamp (by omega), nI_clamp (by omega), hI _ (by omega), hI _ (by omega), hI _ (by omega)]
    refine ⟨vp_in_nI (by omega) (by omega), vp_in_nI (by omega) (by omega), vp_in_nI (by omega) (by omega), ?_⟩
    unfold judL at kk
    have bad : ¬ judV m n T (I (3 * k)) (I (3 * k + 1)) (I (3 * k + 2)) → wbX7_judge_148 K wh f (nI k) S := by
      intro hb
      rw [if_neg hb] at kk
      have := kk S (fk_rfl S)
      unfold wbX7_judge_148
      by_cases w : wh = 0
      · rw [if_pos w] at this ⊢; exact this
      · rw [if_neg w] at this ⊢; exact this
    by_cases c1 : (∃ i, i < m ∧ I (3 * k) = nI i) ∧ ∃ i, i < n ∧ I (3 * k + 1) = nI i
    · obtain ⟨⟨x, hx, ex⟩, y, hy, ey⟩ := id c1
      rw [ex, ey]
      refine pair1 h0 h1 hm hn hx hy ?_
      rw [if_neg nfi]
      by_cases c2 : 0 ≤ I (3 * k + 2) ∧ I (3 * k + 2) ≤ 1
      · refine w1 c2 ?_
        rw [if_neg nfi]
        refine sp_mayAsk hT hx hy (bI_if (fun w => bad (fun hb => ?_)) (fun w => ?_))
        · have := hb.2
          rw [ex, ey, nI_clamp (by omega), nI_clamp (by omega), w] at this
          cases this
        · have good : judV m n T (I (3 * k)) (I (3 * k + 1)) (I (3 * k + 2)) := ⟨⟨c1, c2⟩, by rw [ex, ey, nI_clamp (by omega), nI_clamp (by omega)]; exact w⟩
          rw [if_pos good, ex, ey, nI_clamp (by omega), nI_clamp (by omega)] at kk
          refine sp_saysNo hT hU hx hy (fun S1 f1 => ?_)
          unfold wbX7_judge_182 wbX7_judge_188 wbX7_judge_207
          have go : ∀ (v : Bool) (f2 : Int32), v = decide (I (3 * k + 2) = 1) → f2 = (bif (noB U T x y (T 1 x)) == decide (I (3 * k + 2) = 1) then f + 1 else f) → wpX5_endAsking 1 (nI x) (nI y) (bI v) S1 (fun S26 => wbX7_judge_65 K wh q (d + 1) f2 (nI k + 1) S26) := by
            intro v f2 ev e2
            rw [← e2, ← ev] at kk
            refine sp_end (RT_fq hT f1) hx hy (fun S2 t2 W2 _ _ _ => ?_)
            rw [nI_1]
            have g2 : fk S S2 := fk_tr (fk_fq f1) ⟨⟨fun kd i w => W2 kd i (by unfold cz at w; omega), fun j _ => by rw [W2 40 0 (by omega)]⟩, fun kd i w => W2 kd i (by omega), by rw [W2 40 0 (by omega)]⟩
            exact sp_jud_l hc d (k + 1) _ f2 S2 (by omega) (by rw [g2.1.1 10 0 (by unfold cz; omega), h0]) (by rw [g2.1.1 10 0 (by unfold cz; omega), h1]) t2 (RuC_fz hU g2.1) (by rw [g2.1.1 30 q (by unfold cz; omega), hz]) (fun j hj => by rw [g2.1.1 31 q (by unfold cz; omega), hI j hj]) (fun S3 f3 => kk S3 (fk_tr g2 f3))
          by_cases c3 : I (3 * k + 2) = 1
          · rw [if_pos c3]
            cases w3 : noB U T x y (T 1 x)
            · rw [if_neg (show ¬ bI false = 1 by decide), if_pos c3]
              exact go true _ (decide_eq_true c3).symm (by rw [decide_eq_true c3, w3]; rfl)
            · rw [if_pos (show bI true = 1 by decide), if_pos c3]
              exact go true _ (decide_eq_true c3).symm (by rw [decide_eq_true c3, w3]; rfl)
          · rw [if_neg c3]
            cases w3 : noB U T x y (T 1 x)
            · rw [if_pos (show bI false = 0 by decide), if_neg c3]
              exact go false _ (decide_eq_false c3).symm (by rw [decide_eq_false c3, w3]; rfl)
            · rw [if_neg (show ¬ bI true = 0 by decide), if_neg c3]
              exact go false _ (decide_eq_false c3).symm (by rw [decide_eq_false c3, w3]; rfl)
      · refine w0 c2 ?_
        rw [if_pos rfl]
        exact bad (fun hb => c2 hb.1.2)
    · refine pair0 h0 h1 hm hn c1 ?_
      rw [if_pos rfl]
      exact bad (fun hb => c1 hb.1.1)
theorem mp_jud_l {S0 : St} {T0 : Tn} (hm : m ≤ 4) (hn : n ≤ 4) (hq : q < 4) (hc : 3 * c ≤ 40) (hM0 : RM S0 m n r T0) : ∀ (d k : Nat) (T : Tn) (f : Int32) (S : St), k + d = c → RM S m n r T → VT m n T → RuM S r U → S.1 66 0 q = nI (3 * c) → (∀ j, j < 3 * c → S.1 67 0 (40 * q + j) = I j) → aside S0 S →
    (∀ S1, RM S1 m n r T0 → fz S S1 → K (if wh = 0 then (judL m n U I d k T f).1 else (judL m n U I d k T f).2) S1) → wbX8_judge_58 K (nI q) wh (d + 2) (-1) f (nI k) S
  | 0, k, T, f, S, e, hT, hV, hU, hz, hI, hA, kk => by
    refine ⟨vp_in_nI hq (by omega), ?_⟩
    rw [nI_clamp (by omega), hz, show (3 : Int32) = nI 3 from rfl, pk_div (by omega) (by omega) (by omega), Nat.mul_div_cancel_left c (by omega), if_pos (nI_le (by omega) (by omega))]
    refine mp_lback hm hn hM0 hA (fun S1 m1 f1 => ?_)
    have := kk S1 m1 f1
    by_cases w : wh = 0
    · rw [if_pos w] at this ⊢; exact this
    · rw [if_neg w] at this ⊢; exact this
  | d + 1, k, T, f, S, e, hT, hV, hU, hz, hI, hA, kk => by
    have vq : vp_in (nI q) 4 := vp_in_nI hq (by omega)
    refine ⟨vq, ?_⟩
    have e3 : (3 : Int32) * nI k = nI (3 * k) := pk_mul 3 k
    rw [nI_clamp (n := q) (by omega), hz, show nI (3 * c) / 3 = nI c by rw [show (3 : Int32) = nI 3 from rfl, pk_div (by omega) (by omega) (by omega), Nat.mul_div_cancel_left c (by omega)], if_neg (nI_ge (by omega) (by omega)), if_pos rfl, e3, at40, nI_1, nI_p2, nI_clamp (by omega), nI_clamp (by omega), nI_clamp (by omega)]
    rw [show 40 * q + 3 * k + 1 = 40 * q + (3 * k + 1) by omega, show 40 * q + 3 * k + 2 = 40 * q + (3 * k + 2) by omega, hI _ (by omega), hI _ (by omega), hI _ (by omega)]
    refine ⟨vp_in_nI (by omega) (by omega), vp_in_nI (by omega) (by omega), vp_in_nI (by omega) (by omega), ?_⟩
    unfold judL at kk
    have bad : ¬ judV m n T (I (3 * k)) (I (3 * k + 1)) (I (3 * k + 2)) → ∀ G, wbX8_judge_228 (fun yx3 yx4 yx5 S9 => wbX8_judge_58 K (nI q) wh (d + 2) yx3 yx4 yx5 S9) G (nI q) wh f (nI k) S := by
      intro hb G
      rw [if_neg hb] at kk
      unfold wbX8_judge_228 wbX8_judge_231
      refine ⟨vq, ?_⟩
      have fin : wbX8_judge_237 K wh (nI k) f S := by
        refine mp_lback hm hn hM0 hA (fun S1 m1 f1 => ?_)
        have := kk S1 m1 f1
        by_cases w : wh = 0
        · rw [if_pos w] at this ⊢; exact this
        · rw [if_neg w] at this ⊢; exact this
      by_cases q1 : S.1 66 0 (nI q).toNatClampNeg / 3 ≤ nI k + 1
      · rw [if_pos q1]; exact fin
      · rw [if_neg q1, if_neg (nI_nm1 (by omega))]; exact fin
    by_cases c0 : ∃ i, i < m ∧ I (3 * k) = nI i
    · obtain ⟨x, hx, ex⟩ := id c0
      rw [ex]
      refine mman1 hT.1.1 hm hx ?_
      rw [if_neg nfi]
      by_cases c1 : ∃ i, i < n ∧ I (3 * k + 1) = nI i
      · obtain ⟨y, hy, ey⟩ := id c1
        rw [ey]
        refine mmaid1 hT.1.2.1 hn hy ?_
        rw [if_neg nfi]
        by_cases c2 : 0 ≤ I (3 * k + 2) ∧ I (3 * k + 2) ≤ 1
        · refine v1 c2 ?_
          rw [if_neg nfi]
          refine mp_mayAsk hT hm hn hx hy (bI_if (fun w => bad (fun hb => ?_) _) (fun w => ⟨vp_in_nI (by omega) (by omega), ?_⟩))
          · have := hb.2
            rw [ex, ey, nI_clamp (by omega), nI_clamp (by omega), w] at this
            cases this
          · have good : judV m n T (I (3 * k)) (I (3 * k + 1)) (I (3 * k + 2)) := ⟨⟨⟨c0, c1⟩, c2⟩, by rw [ex, ey, nI_clamp (by omega), nI_clamp (by omega)]; exact w⟩
            rw [if_pos good, ex, ey, nI_clamp (by omega), nI_clamp (by omega)] at kk
            rw [nI_clamp (by omega), (hT.2.1 x hx).1]
            refine mp_saysNo hT hV hm hn hU (hV.2.1 x hx) hx hy (fun S1 f1 => ?_)
            unfold wbX8_judge_196 wbX8_judge_204 wbX8_judge_222 wbX8_judge_231
            have go : ∀ (v : Bool) (f2 : Int32), v = decide (I (3 * k + 2) = 1) → f2 = (bif (noB U T x y (T 1 x)) == decide (I (3 * k + 2) = 1) then f + 1 else f) → wpX8_answers (nI x) (nI y) (bI (!v)) S1 (fun S31 => wbX8_judge_58 K (nI q) wh (d + 2) (-1) f2 (nI k + 1) S31) := by
              intro v f2 ev e2
              rw [← e2, ← ev] at kk
              refine mp_end_l (RM_fq hT f1) hV hm hn hx hy w (fun S2 m2 g2 => ?_)
              rw [nI_1]
              have g3 : fl S S2 := fl_tr (fl_fq f1) g2
              exact mp_jud_l hm hn hq hc hM0 d (k + 1) _ f2 S2 (by omega) m2 (VT_end hV hx hn (fun _ => ⟨hy, (may_no w hm).2⟩)) (RuM_fz hU g3.1) (by rw [g3.1.1 66 0 (by unfold cz; omega), hz]) (fun j hj => by rw [g3.1.1 67 0 (by unfold cz; omega), hI j hj]) (aside_fl hA g3) (fun S3 m3 f3 => kk S3 m3 (fz_tr g3.1 f3))
            by_cases c3 : I (3 * k + 2) = 1
            · rw [if_pos c3]
              have n3 : ¬ I (3 * k + 2) = 0 := by rw [c3]; exact nfi
              cases w3 : noB U T x y (T 1 x)
              · rw [if_neg (show ¬ bI false = 1 by decide), if_neg n3]
                exact go true _ (decide_eq_true c3).symm (by rw [decide_eq_true c3, w3]; exact Int32.add_zero f)
              · rw [if_pos (show bI true = 1 by decide), if_neg n3]
                exact go true _ (decide_eq_true c3).symm (by rw [decide_eq_true c3, w3]; rfl)
            · rw [if_neg c3]
              have n3 : I (3 * k + 2) = 0 := by
                obtain ⟨i, _, hi, ei⟩ := in_nI (a := 0) (b := 1) (by omega) c2 (by omega)
                rcases (show i = 0 ∨ i = 1 by omega) with rfl | rfl
                · exact ei
                · exact absurd ei c3
              cases w3 : noB U T x y (T 1 x)
              · rw [if_pos (show bI false = 0 by decide), if_pos n3]
                exact go false _ (decide_eq_false c3).symm (by rw [decide_eq_false c3, w3]; rfl)
              · rw [if_neg (show ¬ bI true = 0 by decide), if_pos n3]
                exact go false _ (decide_eq_false c3).symm (by rw [decide_eq_false c3, w3]; exact Int32.add_zero f)
        · refine v0 c2 ?_
          rw [if_pos rfl]
          exact bad (fun hb => c2 hb.1.2) _
      · refine mmaid0 hT.1.2.1 hn c1 ?_
        rw [if_pos rfl]
        exact bad (fun hb => c1 hb.1.1.2) _
    · refine mman0 hT.1.1 hm c0 ?_
      rw [if_pos rfl]
      exact bad (fun hb => c0 hb.1.1.1) _
end
section
variable {S : St} {F : Int32 → St → Prop} {K : St → Prop} {a b c d e : Int32}
theorem call_judge (R : Rel S) (hK : ∀ S1, Rel S1 → K S1) (hF : Hm F (wpX8_judge a b) K) : wpX7_judge a b S F := by
  obtain ⟨m, n, r, T, k, V, R⟩ := R
  have hR : Rel S := ⟨m, n, r, T, k, V, R⟩
  obtain ⟨hT, hJ, hM, hV, h2, hr, h3, h4, h5⟩ := id R
  have hm := hT.1.1
  have hn := hT.1.2.1
  unfold wpX7_judge
  by_cases ca : 0 ≤ a ∧ a ≤ 3
  · refine s1 ca ?_
    rw [if_neg nfi]
    obtain ⟨q, hq, rfl⟩ := sht ca
    have vq : vp_in (nI q) 4 := vp_in_nI hq (by omega)
    by_cases cb : 0 ≤ b ∧ b ≤ 1
    · refine w1 cb ?_
      rw [if_neg nfi]
      refine ⟨vq, ?_⟩
      unfold wpX4_isMissing
      rw [nI_clamp (by omega)]
      have md : ∀ (v : Int32) (S1 : St), (if (S1.1 64 0 q) = 0 then (if v = (-11) then K S1 else False) else (if ((S1.1 66 0 q) - (S1.1 66 0 q) / 3 * 3) = 0 then (wpX8_laysAside S1 (fun S9 => ∃ k, wbX8_judge_58 (fun r2 S2 => if v = r2 then K S2 else False) (nI q) b k (-1) 0 0 S9)) else (if v = (-2) then K S1 else False))) → wpX8_judge (nI q) b S1 (fun r2 S2 => if v = r2 then K S2 else False) := by
        intro v S1 hv
        unfold wpX8_judge
        refine ms1 ca ?_
        rw [if_neg nfi]
        refine v1 cb ?_
        rw [if_neg nfi, nI_clamp (by omega)]
        refine ⟨vq, ?_⟩
        by_cases w : S1.1 64 0 q = 0
        · rw [if_pos w] at hv ⊢; exact hv
        · rw [if_neg w] at hv ⊢; exact ⟨vq, hv⟩
      rcases h5 q hq with ⟨u1, u2⟩ | ⟨so, z, u0, u1, u2, u3, u4, u5, u6, u7⟩
      · rw [u1, if_pos rfl]
        show if (1 : Int32) = 0 then _ else _
        rw [if_neg nfi]
        refine hF _ _ (md _ _ ?_)
        rw [u2, if_pos rfl]
        exact same (hK _ hR)
      rw [u2, if_neg (nI_nm1 (by omega))]
      show if (0 : Int32) = 0 then _ else _
      have er : nI z - nI z / 3 * 3 = nI (z % 3) := pk_rem (d := 3) (by omega) (by omega) (by omega)
      rw [if_pos rfl, u5, er]
      by_cases cz3 : z % 3 = 0
      · rw [cz3, if_pos (by decide)]
        obtain ⟨c, rfl⟩ : ∃ c, z = 3 * c := ⟨z / 3, by omega⟩
        refine sp_resemble (by omega) hT (fun S1 t1 _ W1 _ _ => ⟨c + 1, ?_⟩)
        have f1 : fk S S1 := ⟨⟨fun kd i w => W1 kd i (by unfold cz at w; omega), fun j _ => by rw [W1 40 0 (by omega)]⟩, fun kd i w => W1 kd i (by omega), by rw [W1 40 0 (by omega)]⟩
        refine sp_jud_l (c := c) (I := S.1 31 q) (U := V r) (m := m) (n := n) (r := r) (by omega) c 0 T 0 S1 (by omega) (by rw [W1 10 0 (by omega), hT.2.1.1]) (by rw [W1 10 0 (by omega), hT.2.1.2.1]) t1 (RuC_fz (h2.2.2 r hr).1 f1.1) (by rw [W1 30 q (by omega), u5]) (fun j _ => by rw [W1 31 q (by omega)]) (fun S2 f2 => hF _ _ (md _ _ ?_))
        have f3 := fk_tr f1 f2
        rw [f3.2.1 64 0 (by omega), f3.2.1 66 0 (by omega), u3, if_neg nfi, u6, er, cz3, if_pos (by decide)]
        have m2 := RM_fk hM f3
        have R2 := Rel_q R f3.1 m2
        refine mp_aside (fun S3 a3 g3 W3 w16 => ⟨c + 2, ?_⟩)
        have m3 : RM S3 m n r T := (RM_eq (fun kd a b => W3 kd a b) (fun j hj => by rcases hj with rfl | rfl | rfl | rfl <;> first | exact w16 | exact g3.2 _ (by omega))).mpr m2
        refine mp_jud_l (S0 := S2) hm hn hq (by omega) m2 c 0 T 0 S3 (by omega) m3 hV (RuM_fz (R2.2.2.2.2.1.2.2 r hr).2 g3) (by rw [g3.1 66 0 (by unfold cz; omega), f3.2.1 66 0 (by omega), u6]) (fun j hj => by rw [g3.1 67 0 (by unfold cz; omega), f3.2.1 67 0 (by omega), u7 j hj]) a3 (fun S4 m4 f4 => same (hK _ ⟨m, n, r, T, k, V, Rel_q R2 (fz_tr g3 f4) m4⟩))
      · rw [if_neg (by rw [show (0 : Int32) = nI 0 from rfl, nI_eq (by omega) (by omega)]; exact cz3)]
        refine hF _ _ (md _ _ ?_)
        rw [u3, if_neg nfi, u6, er, if_neg (by rw [show (0 : Int32) = nI 0 from rfl, nI_eq (by omega) (by omega)]; exact cz3)]
        exact same (hK _ hR)
    · refine w0 cb ?_
      rw [if_pos rfl]
      refine hF _ _ ?_
      unfold wpX8_judge
      refine ms1 ca ?_
      rw [if_neg nfi]
      refine v0 cb ?_
      rw [if_pos rfl]
      exact same (hK _ hR)
  · refine s0 ca ?_
    rw [if_pos rfl]
    refine hF _ _ ?_
    unfold wpX8_judge
    refine ms0 ca ?_
    rw [if_pos rfl]
    exact same (hK _ hR)
end
