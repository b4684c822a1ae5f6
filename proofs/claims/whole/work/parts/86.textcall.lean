section
/-! text: the call -/
theorem mp_tx {z k : Nat} {K : Int32 → St → Prop} (hz : z ≤ 160) (hk : k < 6) : ∀ (d i : Nat) (S : St), i + d = z → S.1 40 0 6 = nI z → S.1 40 0 3 = nI k → (∀ S1, (∀ kd i, ¬ (kd = 41 ∧ i = 0) → S1.1 kd i = S.1 kd i) → (∀ j, S1.1 41 0 j = if 160 * k + i ≤ j ∧ j < 160 * k + z then S.1 43 0 (j - 160 * k) else S.1 41 0 j) → wbX8_text_14 K (0 + 1) (nI z) S1) → wbX8_text_14 K (d + 1) (nI i) S
  | 0, i, S, e, h6, h3, kk => by
    obtain rfl : i = z := by omega
    exact kk S (fun _ _ _ => rfl) (fun j => by rw [if_neg (by omega)])
  | d + 1, i, S, e, h6, h3, kk => by
    unfold wbX8_text_14
    rw [h6, if_neg (nI_ge (by omega) (by omega)), h3, lit32 160, pk_mul, nI_add, nI_clamp (by omega), nI_clamp (by omega), nI_1]
    refine ⟨vp_in_nI (by omega) (by omega), vp_in_nI (by omega) (by omega), fun S2 e2 => ?_⟩
    refine mp_tx hz hk d (i + 1) S2 (by omega) (by rw [e2, sa_ne (by omega)]; exact h6) (by rw [e2, sa_ne (by omega)]; exact h3) (fun S3 f3 c3 => kk S3 (fun kd i w => by rw [f3 kd i w, e2, sa_ne w]) (fun j => ?_))
    rw [c3 j]
    by_cases q : 160 * k + (i + 1) ≤ j ∧ j < 160 * k + z
    · rw [if_pos q, if_pos (by omega), e2, sa_ne (by omega)]
    · rw [if_neg q, e2, sa_eq, upd_rd]
      by_cases q2 : j = 160 * k + i
      · rw [if_pos q2, if_pos (by omega), q2, show 160 * k + i - 160 * k = i by omega]
      · rw [if_neg q2, if_neg (by omega)]
section
variable {S : St} {F : Int32 → St → Prop} {K : St → Prop}
theorem call_text (R : Rel S) (hK : ∀ S1, Rel S1 → K S1) (hF : Hm F wpX8_text K) : wpX7_text S F := by
  obtain ⟨m, n, r, T, k, V, R⟩ := R
  have hR : Rel S := ⟨m, n, r, T, k, V, R⟩
  obtain ⟨hT, hJ, hM, hV, h2, hr, h3, h4, h5⟩ := id R
  obtain ⟨⟨k1, k6⟩, ⟨t2, t3⟩, hRu⟩ := id h2
  obtain ⟨z, hz, z1, z2, z3⟩ := h3
  unfold wpX7_text
  rw [t2]
  by_cases q6 : k < 6
  · rw [if_pos (show nI k < (6 : Int32) from nI_lt (b := 6) q6 (by omega))]
    -- what the reference does from a state that differs in the class's kinds alone
    have ref : ∀ (S1 : St) (v : Int32), (∀ kd i, 40 ≤ kd → S1.1 kd i = S.1 kd i) →
        out3 (rdP z (S.1 43 0)) (fun g => v = -100 - nI g ∧ ∀ S2, (∀ kd i, kd < 40 → S2.1 kd i = S1.1 kd i) → (∀ kd i, kd ≠ 40 → kd ≠ 41 → kd ≠ 42 → S2.1 kd i = S1.1 kd i) → (∀ j, j ≠ 6 → (j < 23 ∨ 31 < j) → S2.1 40 0 j = S1.1 40 0 j) → S2.1 40 0 6 = nI 0 → (∀ j, j < 160 * k → S2.1 41 0 j = S1.1 41 0 j) → (∀ j, j ≠ k → S2.1 42 0 j = S1.1 42 0 j) → Rel S2)
          (fun cs => v = nI k ∧ ∀ S2, (∀ kd i, kd < 40 → S2.1 kd i = S1.1 kd i) → (∀ kd i, kd ≠ 40 → kd ≠ 41 → kd ≠ 42 → S2.1 kd i = S1.1 kd i) → (∀ j, j ≠ 3 → j ≠ 6 → (j < 23 ∨ 31 < j) → S2.1 40 0 j = S1.1 40 0 j) → S2.1 40 0 6 = nI 0 → S2.1 40 0 3 = nI (k + 1) → (∀ j, j < 160 * k → S2.1 41 0 j = S1.1 41 0 j) → (∀ j, j ≠ k → S2.1 42 0 j = S1.1 42 0 j) → RuM S2 k (ruF cs) → Rel S2) → F v S1 := by
      intro S1 v f1 kk
      refine hF _ _ ?_
      unfold wpX8_text
      have a3 : S1.1 40 0 3 = nI k := by rw [f1 40 0 (by omega)]; exact t3
      have a6 : S1.1 40 0 6 = nI z := by rw [f1 40 0 (by omega)]; exact z2
      rw [a3, if_neg (show ¬ nI k = (6 : Int32) from fun w => by have := (nI_eq (b := 6) (by omega) (by omega)).mp w; omega)]
      refine ⟨z + 1, mp_tx hz q6 z 0 S1 (by omega) a6 a3 (fun S2 f2 c2 => ?_)⟩
      have b3 : S2.1 40 0 3 = nI k := by rw [f2 40 0 (by omega)]; exact a3
      have b6 : S2.1 40 0 6 = nI z := by rw [f2 40 0 (by omega)]; exact a6
      unfold wbX8_text_14
      rw [b6, if_pos (nI_le (Nat.le_refl z) (by omega)), b3, nI_clamp (by omega)]
      refine ⟨vp_in_nI q6 (by omega), fun S3 e3 => fun S4 e4 => ?_⟩
      have W4 : ∀ kd i, kd ≠ 40 → kd ≠ 41 → kd ≠ 42 → S4.1 kd i = S1.1 kd i := fun kd i x1 x2 x3 => by rw [e4, sa_ne (by omega), e3, sa_ne (by omega), f2 kd i (by omega)]
      have W40 : ∀ j, j ≠ 6 → S4.1 40 0 j = S1.1 40 0 j := fun j w => by rw [e4, su_nj w, e3, sa_ne (by omega), f2 40 0 (by omega)]
      have c6 : S4.1 40 0 6 = nI 0 := by rw [e4, su_eq]; rfl
      have c3 : S4.1 40 0 3 = nI k := by rw [W40 3 (by omega)]; exact a3
      have w41 : ∀ j, j < 160 * k → S4.1 41 0 j = S1.1 41 0 j := fun j hj => by rw [e4, sa_ne (by omega), e3, sa_ne (by omega), c2 j, if_neg (by omega)]
      have w42 : ∀ j, j ≠ k → S4.1 42 0 j = S1.1 42 0 j := fun j hj => by rw [e4, sa_ne (by omega), e3, su_nj hj, f2 42 0 (by omega)]
      have n41 : ∀ j, j < z → S4.1 41 0 (160 * k + j) = S.1 43 0 j ∧ ∃ v, v ≤ 255 ∧ S.1 43 0 j = nI v := fun j hj => ⟨by rw [e4, sa_ne (by omega), e3, sa_ne (by omega), c2, if_pos (by omega), f1 43 0 (by omega), show 160 * k + j - 160 * k = j by omega], (z3 j hj).2⟩
      have n42 : S4.1 42 0 k = nI z := by rw [e4, sa_ne (by omega), e3, su_eq]
      rw [c3]
      refine mp_read (p := 0) (z := z) (b := S.1 43 0) (env := fun i => S4.1 40 0 (16 + i)) hz q6 (by omega) n41 n42 (fun i _ _ => rfl) ?_
      cases hc : rdP z (S.1 43 0) with
      | inl g =>
        rw [hc] at kk
        obtain ⟨ev, kk⟩ := kk
        show ∀ v1 S5, Bd S5 g → fx S4 S5 → _
        intro v1 S5 w5 f5
        rw [if_neg (nI_B w5)]
        have e5 : v = (-100) - (S5.1 40 0 31) := by rw [w5.2]; exact ev
        refine if_of (fun _ => ?_) (fun w => absurd e5 w)
        exact (hK _ (kk S5 (fun kd i w => by rw [f5.1 kd i (by omega), W4 kd i (by omega) (by omega) (by omega)]) (fun kd i x1 x2 x3 => by rw [f5.1 kd i x1, W4 kd i x1 x2 x3]) (fun j x1 x2 => by rw [f5.2 j x2, W40 j x1]) (by rw [f5.2 6 (by omega)]; exact c6) (fun j hj => by rw [f5.1 41 0 (by omega)]; exact w41 j hj) (fun j hj => by rw [f5.1 42 0 (by omega)]; exact w42 j hj)))
      | inr cs =>
        rw [hc] at kk
        obtain ⟨ev, kk⟩ := kk
        show ∀ S5, S5.1 40 0 30 = 0 → fx S4 S5 → _
        intro S5 x30 f5
        rw [if_pos x30]
        intro S6 e6
        have d3 : S5.1 40 0 3 = nI k := by rw [f5.2 3 (by omega)]; exact c3
        rw [d3, nI_1] at e6
        have d63 : S6.1 40 0 3 = nI (k + 1) := by rw [e6, su_eq]
        rw [d63, nI_pred, ev]
        have g41 : S6.1 41 0 = S4.1 41 0 := by rw [e6, sa_ne (by omega), f5.1 41 0 (by omega)]
        have g42 : S6.1 42 0 = S4.1 42 0 := by rw [e6, sa_ne (by omega), f5.1 42 0 (by omega)]
        exact same (hK _ (kk S6 (fun kd i w => by rw [e6, sa_ne (by omega), f5.1 kd i (by omega), W4 kd i (by omega) (by omega) (by omega)]) (fun kd i x1 x2 x3 => by rw [e6, sa_ne (by omega), f5.1 kd i x1, W4 kd i x1 x2 x3]) (fun j x0 x1 x2 => by rw [e6, su_nj x0, f5.2 j x2, W40 j x1]) (by rw [e6, su_nj (by omega), f5.2 6 (by omega)]; exact c6) d63 (fun j hj => by rw [g41]; exact w41 j hj) (fun j hj => by rw [g42]; exact w42 j hj) (RuM_of hz q6 (fun j hj => by rw [g41]; exact n41 j hj) (by rw [g42]; exact n42) hc)))
    refine sp_read (z := z) (b := S.1 43 0) ⟨⟨hz, z1⟩, fun j hj => (z3 j hj).1⟩ ?_
    cases hc : rdP z (S.1 43 0) with
    | inl g =>
      show ∀ S1, fr3 S S1 → _
      intro S1 f1 S2 e2
      have gl : g ≤ z := by
        have rd := rd_out (z := z) (b := S.1 43 0) (A := fun f => f ≤ z) (B := fun _ => True)
        rw [hc] at rd
        refine rd.mpr (out_m (paP_ok (by omega) (tkS_le (Nat.zero_le z)).2) (paP_ok (by omega) (tkS_le (Nat.zero_le z)).2) (fun f a _ => a) (fun q1 c1 ok1 _ => out_m (paP_ok (by omega) ok1.2.2.1) (paP_ok (by omega) ok1.2.2.1) (fun f a _ => a) (fun q2 c2 ok2 _ => out_m (paP_ok (by omega) ok2.2.2.1) (paP_ok (by omega) ok2.2.2.1) (fun f a _ => a) (fun q3 c3 ok3 _ => if_of (fun _ => trivial) (fun _ => ok3.2.2.1)))))
      rw [if_neg (nI_nm1 (by omega))]
      refine ref S2 _ (fun kd i w => by rw [e2, sa_ne (by omega), f1.1 kd i (by omega) (by omega) (by omega)]) ?_
      rw [hc]
      refine ⟨rfl, fun S3 a b c d e f => ⟨m, n, r, T, k, V, ?_⟩⟩
      have W : ∀ kd i, kd ≠ 1 → kd ≠ 2 → kd ≠ 3 → kd ≠ 40 → kd ≠ 41 → kd ≠ 42 → S3.1 kd i = S.1 kd i := fun kd i x1 x2 x3 x4 x5 x6 => by rw [b kd i x4 x5 x6, e2, sa_ne (by omega), f1.1 kd i x1 x2 x3]
      have X : ∀ kd i, 40 ≤ kd → S2.1 kd i = S.1 kd i := fun kd i w => by rw [e2, sa_ne (by omega), f1.1 kd i (by omega) (by omega) (by omega)]
      refine ⟨(RT_eq (fun kd a b => W kd 0 (by omega) (by omega) (by omega) (by omega) (by omega) (by omega))).mpr hT, (RJ_eq (fun kd a b => W kd 0 (by omega) (by omega) (by omega) (by omega) (by omega) (by omega))).mpr hJ, (RM_eq (fun kd a b => W kd 0 (by omega) (by omega) (by omega) (by omega) (by omega) (by omega)) (fun j hj => by rw [c j (by omega) (by omega), X 40 0 (by omega)])).mpr hM, hV, ⟨⟨k1, k6⟩, ⟨by rw [W 0 0 (by omega) (by omega) (by omega) (by omega) (by omega) (by omega)]; exact t2, by rw [c 3 (by omega) (by omega), X 40 0 (by omega)]; exact t3⟩, fun q hq => ⟨RuC_fr (hRu q hq).1 (W 7 q (by omega) (by omega) (by omega) (by omega) (by omega) (by omega)) (W 8 q (by omega) (by omega) (by omega) (by omega) (by omega) (by omega)), RuM_fr (hRu q hq).2 (fun j hj => by rw [e _ (by omega), X 41 0 (by omega)]) (by rw [f q (by omega), X 42 0 (by omega)])⟩⟩, hr, ⟨0, by omega, ?_, d, fun j hj => absurd hj (Nat.not_lt_zero j)⟩, R4_f h4 (by rw [W 0 0 (by omega) (by omega) (by omega) (by omega) (by omega) (by omega)]) (fun j hj => by rw [c j (by omega) (by omega), X 40 0 (by omega)]) (fun kd a b => W kd 2 (by omega) (by omega) (by omega) (by omega) (by omega) (by omega)) (fun kd a b => W kd 0 (by omega) (by omega) (by omega) (by omega) (by omega) (by omega)) (Nat.le_refl n) (Nat.le_refl k) (fun _ _ => rfl), R5_f h5 (fun q => W 30 q (by omega) (by omega) (by omega) (by omega) (by omega) (by omega)) (fun q => W 31 q (by omega) (by omega) (by omega) (by omega) (by omega) (by omega)) (fun kd hk => W kd 0 (by omega) (by omega) (by omega) (by omega) (by omega) (by omega))⟩
      rw [a 1 0 (by omega), e2, su_eq]; rfl
    | inr cs =>
      show ∀ S1, CE (S1.1 2 0) (S1.1 3 0) cs → fr3 S S1 → _
      intro S1 ce f1 S2 e2
      rw [if_pos rfl]
      have b2 : S2.1 0 0 2 = nI k := by rw [e2, sa_ne (by omega), f1.1 0 0 (by omega) (by omega) (by omega)]; exact t2
      rw [b2, nI_clamp (by omega)]
      refine ⟨vp_in_nI q6 (by omega), sp_adopt (cs := cs) (by rw [e2, sa_ne (by omega), sa_ne (by omega)]; exact ce) (fun S3 ce3 f3 => fun S4 e4 => ?_)⟩
      have b3 : S3.1 0 0 2 = nI k := by rw [f3 0 0 (by omega)]; exact b2
      rw [b3, nI_1] at e4
      have b4 : S4.1 0 0 2 = nI (k + 1) := by rw [e4, su_eq]
      rw [b4, nI_pred]
      have X : ∀ kd i, 40 ≤ kd → S4.1 kd i = S.1 kd i := fun kd i w => by rw [e4, sa_ne (by omega), f3 kd i (by omega), e2, sa_ne (by omega), f1.1 kd i (by omega) (by omega) (by omega)]
      refine ref S4 _ X ?_
      rw [hc]
      refine ⟨rfl, fun S5 a b c d d3 e f hN => ⟨m, n, r, T, k + 1, fun q => if q = k then ruF cs else V q, ?_⟩⟩
      have W : ∀ kd i, 9 ≤ kd → kd ≠ 40 → kd ≠ 41 → kd ≠ 42 → S5.1 kd i = S.1 kd i := fun kd i x3 x4 x5 x6 => by rw [b kd i x4 x5 x6, e4, sa_ne (by omega), f3 kd i (by omega), e2, sa_ne (by omega), f1.1 kd i (by omega) (by omega) (by omega)]
      have W0 : ∀ j, j ≠ 2 → S5.1 0 0 j = S.1 0 0 j := fun j w => by rw [a 0 0 (by omega), e4, su_nj w, f3 0 0 (by omega), e2, sa_ne (by omega), f1.1 0 0 (by omega) (by omega) (by omega)]
      refine ⟨(RT_eq (fun kd a b => W kd 0 (by omega) (by omega) (by omega) (by omega))).mpr hT, (RJ_eq (fun kd a b => W kd 0 (by omega) (by omega) (by omega) (by omega))).mpr hJ, (RM_eq (fun kd a b => W kd 0 (by omega) (by omega) (by omega) (by omega)) (fun j hj => by rw [c j (by omega) (by omega) (by omega), X 40 0 (by omega)])).mpr hM, hV, ⟨⟨by omega, by omega⟩, ⟨by rw [a 0 0 (by omega)]; exact b4, d3⟩, fun q hq => ?_⟩, by omega, ⟨0, by omega, ?_, d, fun j hj => absurd hj (Nat.not_lt_zero j)⟩, R4_f h4 (W0 6 (by omega)) (fun j hj => by rw [c j (by omega) (by omega) (by omega), X 40 0 (by omega)]) (fun kd a b => W kd 2 (by omega) (by omega) (by omega) (by omega)) (fun kd a b => W kd 0 (by omega) (by omega) (by omega) (by omega)) (Nat.le_refl n) (by omega) (fun _ _ => rfl), R5_f h5 (fun q => W 30 q (by omega) (by omega) (by omega) (by omega)) (fun q => W 31 q (by omega) (by omega) (by omega) (by omega)) (fun kd hk => W kd 0 (by omega) (by omega) (by omega) (by omega))⟩
      · have W78 : ∀ kd, kd = 7 ∨ kd = 8 → S5.1 kd q = S3.1 kd q := fun kd w => by rw [a kd q (by omega), e4, sa_ne (by omega)]
        show RuC S5 q (if q = k then ruF cs else V q) ∧ RuM S5 q (if q = k then ruF cs else V q)
        by_cases qk : q = k
        · subst qk
          rw [if_pos rfl]
          exact ⟨RuC_of (by rw [W78 7 (Or.inl rfl), W78 8 (Or.inr rfl)]; exact ce3), hN⟩
        · rw [if_neg qk]
          have Y : ∀ kd, kd = 7 ∨ kd = 8 → S5.1 kd q = S.1 kd q := fun kd w => by rw [W78 kd w, f3 kd q (by omega), e2, sa_ne (by omega), f1.1 kd q (by omega) (by omega) (by omega)]
          exact ⟨RuC_fr (hRu q (by omega)).1 (Y 7 (Or.inl rfl)) (Y 8 (Or.inr rfl)), RuM_fr (hRu q (by omega)).2 (fun j hj => by rw [e _ (by omega), X 41 0 (by omega)]) (by rw [f q qk, X 42 0 (by omega)])⟩
      · rw [a 1 0 (by omega), e4, sa_ne (by omega), f3 1 0 (by omega), e2, su_eq]; rfl
  · rw [if_neg (show ¬ nI k < (6 : Int32) from nI_nlt (b := 6) (by omega) (by omega))]
    refine hF _ _ ?_
    unfold wpX8_text
    rw [t3, if_pos (show nI k = (6 : Int32) by rw [show k = 6 by omega]; rfl)]
    exact same (hK _ hR)
end
end
