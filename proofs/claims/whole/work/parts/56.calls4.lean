/-! calls: maid, feed, force, taken, count -/
theorem mp_maid_l {n : Nat} : ∀ (d x : Nat) (S1 : St) (K : Int32 → St → Prop), x + d = 4 → n < 4 → S1.1 40 0 8 = nI n →
    (∀ S2, fm S1 S2 → ft S1 S2 → (∀ kd, 46 ≤ kd → kd ≤ 50 → S2.1 kd 0 = S1.1 kd 0) → (∀ j, j ≠ 8 → S2.1 40 0 j = S1.1 40 0 j) → S2.1 40 0 8 = nI (n + 1) →
      (∀ kd j, kd = 44 ∨ kd = 45 → S2.1 kd 0 j = if j % 4 = n ∧ 4 * x ≤ j ∧ j < 16 then 50 else S1.1 kd 0 j) → K (nI n) S2) → wbX8_maid_70 K (d + 1) (nI x) S1
  | 0, x, S1, K, e, hn, h8, k => by
    show if (4 : Int32) ≤ nI x then _ else _
    rw [if_pos (by rw [lit32 4]; exact nI_le (by omega) (by omega))]
    intro S7 e7
    subst e7
    have : (su S1 40 0 8 (S1.1 40 0 8 + 1)).1 40 0 8 = nI (n + 1) := by rw [su_eq, h8, nI_1]
    rw [this, nI_pred]
    refine k _ (fm_sa (fm_rfl _)) (ft_40 (ft_rfl _)) (fun kd a b => sa_ne (by omega)) (fun j hj => su_nj hj) this (fun kd j hk => ?_)
    rw [if_neg (by omega), sa_ne (by omega)]
  | d + 1, x, S1, K, e, hn, h8, k => by
    show if (4 : Int32) ≤ nI x then _ else _
    rw [if_neg (by rw [lit32 4]; exact nI_ge (by omega) (by omega)), h8, at4]
    refine ⟨vp_in_nI (by omega) (by omega), fun S8 e8 => ?_⟩
    have h9 : S8.1 40 0 8 = nI n := by rw [e8, su_nk (by omega), h8]
    rw [h9, at4]
    refine ⟨vp_in_nI (by omega) (by omega), fun S9 e9 => ?_⟩
    rw [nI_1]
    have h10 : S9.1 40 0 8 = nI n := by rw [e9, su_nk (by omega), h9]
    rw [nI_clamp (by omega)] at e8 e9
    refine mp_maid_l d (x + 1) S9 K (by omega) hn h10 (fun S2 a b c q w z => ?_)
    have fm9 : fm S1 S9 := by rw [e9, e8]; exact fm_sa (fm_sa (fm_rfl _))
    have ft9 : ft S1 S9 := by rw [e9, e8]; exact ft_sa (ft_sa (ft_rfl _))
    refine k S2 (fm_tr fm9 a) (ft_tr ft9 b) (fun kd i1 i2 => ?_) (fun j hj => ?_) w (fun kd j hk => ?_)
    · rw [c kd i1 i2, e9, e8, su_nk (by omega), su_nk (by omega)]
    · rw [q j hj, e9, e8, su_nk (by omega), su_nk (by omega)]
    · rw [z kd j hk]
      rcases hk with rfl | rfl
      · rw [e9, su_nk (by omega), e8, sa_eq, upd_rd]
        by_cases c1 : j % 4 = n ∧ 4 * (x + 1) ≤ j ∧ j < 16
        · rw [if_pos c1, if_pos (by omega)]
        · rw [if_neg c1]
          by_cases c2 : j = 4 * x + n
          · rw [if_pos c2, if_pos (by omega)]
          · rw [if_neg c2, if_neg (by omega)]
      · rw [e9, sa_eq, upd_rd, e8, su_nk (by omega)]
        by_cases c1 : j % 4 = n ∧ 4 * (x + 1) ≤ j ∧ j < 16
        · rw [if_pos c1, if_pos (by omega)]
        · rw [if_neg c1]
          by_cases c2 : j = 4 * x + n
          · rw [if_pos c2, if_pos (by omega)]
          · rw [if_neg c2, if_neg (by omega)]
section
variable {S : St} {F : Int32 → St → Prop} {K : St → Prop} {a b c d : Int32}
theorem call_maid (R : Rel S) (hK : ∀ S1, Rel S1 → K S1) (hF : Hm F (wpX8_maid a b) K) : wpX7_maid a b S F := by
  obtain ⟨m, n, r, T, k, V, R⟩ := R
  have hR : Rel S := ⟨m, n, r, T, k, V, R⟩
  obtain ⟨hT, hJ, hM, hV, h2, hr, h3, h4, h5⟩ := id R
  obtain ⟨⟨hm, hn, hr6⟩, ⟨e0, e1, e2, e3⟩, fA, fC, fB⟩ := id hT
  obtain ⟨⟨g0, g1, g2, g3⟩, gA, gC, gB⟩ := id hM
  unfold wpX7_maid
  by_cases ca : 0 ≤ a ∧ a ≤ 5
  · refine w1 ca ?_
    rw [if_neg nfi]
    by_cases cb : 0 ≤ b ∧ b ≤ 9
    · refine w1 cb ?_
      rw [if_neg nfi, e1]
      by_cases hn4 : n < 4
      · rw [if_pos (by rw [lit32 4]; exact nI_lt hn4 (by omega)), nI_clamp (by omega)]
        refine ⟨vp_in_nI hn4 (by omega), fun S3 e3' => ?_⟩
        have q1 : S3.1 10 0 1 = nI n := by rw [e3', su_nk (by omega), e1]
        rw [q1, nI_clamp (by omega)]
        refine ⟨vp_in_nI hn4 (by omega), fun S4 e4 S5 e5 => ?_⟩
        have q2 : S4.1 10 0 1 = nI n := by rw [e4, su_nk (by omega), q1]
        rw [q2, nI_1] at e5
        have e50 : S5.1 10 0 1 = nI (n + 1) := by rw [e5, su_eq]
        rw [e50, nI_pred]
        have c5 : fc S S5 := by rw [e5, e4, e3']; exact fc_sa (fc_sa (fc_sa (fc_rfl _)))
        have t5 : ft S S5 := by rw [e5, e4, e3']; exact ft_sa (ft_sa (ft_sa (ft_rfl _)))
        refine hF _ _ ?_
        unfold wpX8_maid
        refine v1 ca ?_
        rw [if_neg nfi]
        refine v1 cb ?_
        have g5 : S5.1 40 0 8 = nI n := by rw [c5 40 0 (by omega), g1]
        rw [if_neg nfi, g5, if_neg (by rw [lit32 4, nI_eq (by omega) (by omega)]; omega), nI_clamp (by omega)]
        refine ⟨vp_in_nI hn4 (by omega), fun S6 e6 => ?_⟩
        have g6 : S6.1 40 0 8 = nI n := by rw [e6, su_nk (by omega), g5]
        rw [g6, nI_clamp (by omega)]
        refine ⟨vp_in_nI hn4 (by omega), fun S7 e7 => ?_⟩
        have g7 : S7.1 40 0 8 = nI n := by rw [e7, su_nk (by omega), g6]
        rw [g7, nI_clamp (by omega)]
        refine ⟨vp_in_nI hn4 (by omega), fun S8 e8 => ⟨5, ?_⟩⟩
        have g8 : S8.1 40 0 8 = nI n := by rw [e8, su_nk (by omega), g7]
        refine mp_maid_l 4 0 S8 _ (by omega) hn4 g8 (fun S9 b1 b2 b3 b4 b5 b6 => same (hK _ ?_))
        have m8 : fm S5 S8 := by rw [e8, e7, e6]; exact fm_sa (fm_sa (fm_sa (fm_rfl _)))
        have t8 : ft S5 S8 := by rw [e8, e7, e6]; exact ft_sa (ft_sa (ft_sa (ft_rfl _)))
        obtain ⟨i, _, hi, rfl⟩ := in_nI (a := 0) (b := 5) (by omega) ca (by omega)
        obtain ⟨i2, _, hi2, rfl⟩ := in_nI (a := 0) (b := 9) (by omega) cb (by omega)
        refine ⟨m, n + 1, r, fun b j => if b = 3 ∧ j = n then nI i else if b = 4 ∧ j = n then nI i2 else if (b = 5 ∨ b = 6) ∧ j % 4 = n then 50 else T b j, k, V, Rel_t R (ft_tr t5 (ft_tr t8 b2)) (RT_fm ?_ (fm_tr m8 b1)) (RJ_fm ?_ (fm_tr m8 b1)) ?_ ?_ hr (by omega) (fun y hy => by simp [show y ≠ n by omega])⟩
        · refine ⟨⟨hm, by omega, hr6⟩, ⟨by rw [e5, e4, e3']; simp [sa_rd, upd_rd, e0], e50, by rw [e5, e4, e3']; simp [sa_rd, upd_rd, e2], by rw [e5, e4, e3']; simp [sa_rd, upd_rd, e3]⟩, fun x hx => ?_, fun y hy => ?_, fun x y hx hy => ?_⟩
          · constructor
            · rw [e5, e4, e3']; simp [sa_rd, (fA x hx).1]
            · rw [e5, e4, e3']; simp [sa_rd, (fA x hx).2]
          · by_cases q : y = n
            · subst q
              constructor
              · rw [e5, e4, e3']; simp [sa_rd, upd_rd]
              · rw [e5, e4, e3']; simp [sa_rd, upd_rd]
            · constructor
              · rw [e5, e4, e3']; simp [sa_rd, upd_rd, q, (fC y (by omega)).1]
              · rw [e5, e4, e3']; simp [sa_rd, upd_rd, q, (fC y (by omega)).2]
          · by_cases q : y = n
            · subst q
              have q1 : y % 4 = y := by omega
              have := hJ.2 x y (by omega) (by omega) (Or.inr (Nat.le_refl y))
              constructor
              · rw [e5, e4, e3']; simp [sa_rd, q1, this.1]
              · rw [e5, e4, e3']; simp [sa_rd, q1, this.2]
            · have q1 : ¬ y % 4 = n := by omega
              have := fB x y hx (by omega)
              constructor
              · rw [e5, e4, e3']; simp [sa_rd, q1, this.1]
              · rw [e5, e4, e3']; simp [sa_rd, q1, this.2]
        · refine ⟨fun x x1 x4 => ?_, fun x y x1 y1 xy => ?_⟩
          · rw [e5, e4, e3', sa_ne (by omega), sa_ne (by omega), sa_ne (by omega)]; exact hJ.1 x (by omega) x4
          · rw [e5, e4, e3', sa_ne (by omega), sa_ne (by omega), sa_ne (by omega), sa_ne (by omega), sa_ne (by omega), sa_ne (by omega)]; exact hJ.2 x y x1 y1 (by omega)
        · refine ⟨⟨?_, b5, ?_, ?_⟩, fun x hx => ?_, fun y hy => ?_, fun x y hx hy => ?_⟩
          · rw [b4 7 (by omega), e8, e7, e6, su_nk (by omega), su_nk (by omega), su_nk (by omega), c5 40 0 (by omega)]; exact g0
          · rw [b4 16 (by omega), e8, e7, e6, su_nk (by omega), su_nk (by omega), su_nk (by omega), c5 40 0 (by omega)]; simpa using g2
          · rw [b4 4 (by omega), e8, e7, e6, su_nk (by omega), su_nk (by omega), su_nk (by omega), c5 40 0 (by omega)]; exact g3
          · rw [b3 46 (by omega) (by omega), b3 47 (by omega) (by omega)]
            constructor
            · rw [e8, e7, e6]; simp [sa_rd, c5 46 0 (by omega), (gA x hx).1]
            · rw [e8, e7, e6]; simp [sa_rd, c5 47 0 (by omega), (gA x hx).2]
          · rw [b3 48 (by omega) (by omega), b3 49 (by omega) (by omega), b3 50 (by omega) (by omega)]
            by_cases q : y = n
            · subst q
              refine ⟨by rw [e8, e7, e6]; simp [sa_rd, upd_rd], by rw [e8, e7, e6]; simp [sa_rd, upd_rd], ?_⟩
              rw [hus_congr (w2 := T 2) m 0 (fun j _ hj => by simp), hus_no m 0 (fun j _ hj => ?_), e8, su_eq]
              rcases hV.2.2.2.2.2.2.1 j (by omega) with w | ⟨y2, hy2, w⟩
              · rw [w]; exact fun q => nI_nm1 (j := y) (by omega) q.symm
              · rw [w, Ne, nI_eq (by omega) (by omega)]; omega
            · refine ⟨by rw [e8, e7, e6]; simp [sa_rd, upd_rd, q, c5 49 0 (by omega), (gC y (by omega)).1], by rw [e8, e7, e6]; simp [sa_rd, upd_rd, q, c5 50 0 (by omega), (gC y (by omega)).2.1], ?_⟩
              rw [hus_congr (w2 := T 2) m 0 (fun j _ hj => by simp), e8, e7, e6]
              simp [sa_rd, upd_rd, q, c5 48 0 (by omega), (gC y (by omega)).2.2]
          · rw [b6 44 _ (Or.inl rfl), b6 45 _ (Or.inr rfl)]
            by_cases q : y = n
            · subst q
              have q1 : y % 4 = y := by omega
              rw [if_pos (by omega), if_pos (by omega)]
              simp [q1]
            · have q1 : ¬ y % 4 = n := by omega
              have := gB x y hx (by omega)
              rw [if_neg (by omega), if_neg (by omega), e8, e7, e6]
              simp [sa_rd, q1, c5 44 0 (by omega), c5 45 0 (by omega), this.1, this.2]
        · obtain ⟨v1, v2, v3, v4, v5, v6, v7, v8⟩ := hV
          refine ⟨by simpa using v1, fun x hx => by simpa using v2 x hx, fun y hy => ?_, fun y hy => ?_, fun x y hx hy => ?_, fun x y hx hy => ?_, fun x hx => ?_, fun x x2 hx hx2 q w => ?_⟩
          · by_cases q : y = n
            · subst q; exact ⟨i, hi, by simp⟩
            · simpa [q] using v3 y (by omega)
          · by_cases q : y = n
            · subst q; exact ⟨i2, hi2, by simp⟩
            · simpa [q] using v4 y (by omega)
          · by_cases q : y = n
            · subst q; exact ⟨50, by omega, by simp [show y % 4 = y by omega]; rfl⟩
            · simpa [show ¬ y % 4 = n by omega] using v5 x y hx (by omega)
          · by_cases q : y = n
            · subst q; exact ⟨50, by omega, by simp [show y % 4 = y by omega]; rfl⟩
            · simpa [show ¬ y % 4 = n by omega] using v6 x y hx (by omega)
          · rcases v7 x hx with w | ⟨y, hy, w⟩
            · exact Or.inl (by simpa using w)
            · exact Or.inr ⟨y, by omega, by simpa using w⟩
          · simp at q w
            exact v8 x x2 hx hx2 q w
      · rw [if_neg (by rw [lit32 4]; exact nI_nlt (by omega) (by omega))]
        refine hF _ _ ?_
        unfold wpX8_maid
        refine v1 ca ?_
        rw [if_neg nfi]
        refine v1 cb ?_
        rw [if_neg nfi, g1, if_pos (by rw [lit32 4, nI_eq (by omega) (by omega)]; omega)]
        exact same (hK _ hR)
    · refine w0 cb ?_
      rw [if_pos rfl]
      refine hF _ _ ?_
      unfold wpX8_maid
      refine v1 ca ?_
      rw [if_neg nfi]
      refine v0 cb ?_
      rw [if_pos rfl]
      exact same (hK _ hR)
  · refine w0 ca ?_
    rw [if_pos rfl]
    refine hF _ _ ?_
    unfold wpX8_maid
    refine v0 ca ?_
    rw [if_pos rfl]
    exact same (hK _ hR)
theorem call_feed (R : Rel S) (hK : ∀ S1, Rel S1 → K S1) (hF : Hm F (wpX8_feed a) K) : wpX7_feed a S F := by
  obtain ⟨m, n, r, T, k, V, R⟩ := R
  have hR : Rel S := ⟨m, n, r, T, k, V, R⟩
  obtain ⟨hT, hJ, hM, hV, h2, hr, h3, h4, h5⟩ := id R
  obtain ⟨z, hz, z1, z2, z3⟩ := h3
  unfold wpX7_feed
  by_cases ca : 0 ≤ a ∧ a ≤ 255
  · refine w1 ca ?_
    rw [if_neg nfi]
    unfold wpX2_append
    rw [z1]
    by_cases q : z < 160
    · rw [if_pos (by rw [lit32 160]; exact nI_lt q (by omega)), nI_clamp (by omega)]
      refine ⟨vp_in_nI q (by omega), fun S3 e3 S4 e4 => ?_⟩
      rw [show S3.1 1 0 2 = nI z by rw [e3, su_nk (by omega), z1], nI_1] at e4
      rw [if_neg nfi, show S4.1 1 0 2 = nI (z + 1) by rw [e4, su_eq]]
      refine hF _ _ ?_
      unfold wpX8_feed
      refine v1 ca ?_
      have g6 : S4.1 40 0 6 = nI z := by rw [e4, e3]; simp [sa_rd, z2]
      rw [if_neg nfi, g6, if_neg (by rw [lit32 160, nI_eq (by omega) (by omega)]; omega), nI_clamp (by omega)]
      refine ⟨vp_in_nI q (by omega), fun S5 e5 S6 e6 => ?_⟩
      rw [show S5.1 40 0 6 = nI z by rw [e5, su_nk (by omega), g6], nI_1] at e6
      rw [show S6.1 40 0 6 = nI (z + 1) by rw [e6, su_eq]]
      refine same (hK _ ⟨m, n, r, T, k, V, ?_⟩)
      have W : ∀ kd i, ¬ (kd = 43 ∨ kd = 40 ∨ kd = 4 ∨ kd = 1) → S6.1 kd i = S.1 kd i := fun kd i w => by rw [e6, e5, e4, e3, sa_ne (by omega), sa_ne (by omega), sa_ne (by omega), sa_ne (by omega)]
      have W40 : ∀ j, j ≠ 6 → S6.1 40 0 j = S.1 40 0 j := fun j w => by rw [e6, su_nj w, e5, e4, e3, sa_ne (by omega), sa_ne (by omega), sa_ne (by omega)]
      refine ⟨(RT_eq (fun kd a b => W kd 0 (by omega))).mpr hT, (RJ_eq (fun kd a b => W kd 0 (by omega))).mpr hJ, (RM_eq (fun kd a b => W kd 0 (by omega)) (fun j hj => W40 j (by omega))).mpr hM, hV, R2_f h2 (by rw [W 0 0 (by omega)]) (W40 3 (by omega)) (fun q => W 7 q (by omega)) (fun q => W 8 q (by omega)) (W 41 0 (by omega)) (W 42 0 (by omega)), hr, ⟨z + 1, by omega, ?_, ?_, fun j hj => ?_⟩, R4_f h4 (by rw [W 0 0 (by omega)]) (fun j hj => W40 j (by omega)) (fun kd a b => W kd 2 (by omega)) (fun kd a b => W kd 0 (by omega)) (Nat.le_refl n) (Nat.le_refl k) (fun _ _ => rfl), R5_f h5 (fun q => W 30 q (by omega)) (fun q => W 31 q (by omega)) (fun kd hk => W kd 0 (by omega))⟩
      · rw [e6, e5, e4]; simp [sa_rd, upd_rd]
      · rw [e6, su_eq]
      · have q4 : S6.1 4 0 j = if j = z then a else S.1 4 0 j := by rw [e6, e5, e4, e3]; simp [sa_rd, upd_rd]
        have q43 : S6.1 43 0 j = if j = z then a else S.1 43 0 j := by rw [e6, e5, e4, e3]; simp [sa_rd, upd_rd]
        rw [q4, q43]
        by_cases w : j = z
        · rw [if_pos w, if_pos w]
          obtain ⟨i, _, hi, rfl⟩ := in_nI (a := 0) (b := 255) (by omega) ca (by omega)
          exact ⟨rfl, i, hi, rfl⟩
        · rw [if_neg w, if_neg w]
          exact z3 j (by omega)
    · rw [if_neg (by rw [lit32 160]; exact nI_nlt (by omega) (by omega))]
      show if (0 : Int32) = 0 then _ else _
      rw [if_pos rfl]
      refine hF _ _ ?_
      unfold wpX8_feed
      refine v1 ca ?_
      rw [if_neg nfi, z2, if_pos (by rw [lit32 160, nI_eq (by omega) (by omega)]; omega)]
      exact same (hK _ hR)
  · refine w0 ca ?_
    rw [if_pos rfl]
    refine hF _ _ ?_
    unfold wpX8_feed
    refine v0 ca ?_
    rw [if_pos rfl]
    exact same (hK _ hR)
theorem call_force (R : Rel S) (hK : ∀ S1, Rel S1 → K S1) (hF : Hm F (wpX8_force a) K) : wpX7_force a S F := by
  obtain ⟨m, n, r, T, k, V, R⟩ := R
  have hR : Rel S := ⟨m, n, r, T, k, V, R⟩
  obtain ⟨hT, hJ, hM, hV, h2, hr, h3, h4, h5⟩ := id R
  obtain ⟨⟨hm, hn, hr6⟩, ⟨e0, e1, e2, e3⟩, fA, fC, fB⟩ := id hT
  obtain ⟨⟨g0, g1, g2, g3⟩, gA, gC, gB⟩ := id hM
  obtain ⟨⟨k1, k6⟩, ⟨u1, u2⟩, _⟩ := id h2
  unfold wpX7_force
  rw [u1]
  by_cases ca : 0 ≤ a ∧ a ≤ nI k - 1
  · refine w1 ca ?_
    rw [if_neg nfi, e3, nI_clamp (by omega)]
    obtain ⟨i, hi, rfl⟩ := (isIx (by omega)).mp ca
    refine ⟨hr6, vp_in_nI (by omega) (by omega), fun S5 e5 => hF _ _ ?_⟩
    unfold wpX8_force
    have m5 : RM S5 m n r T := by rw [e5]; exact RM_fc hM (fc_sa (fc_rfl _))
    obtain ⟨⟨g0, g1, g2, g3⟩, gA, gC, gB⟩ := id m5
    rw [show S5.1 40 0 3 = nI k by rw [e5, su_nk (by omega), u2]]
    refine v1 ca ?_ (by decide) rfl
    rw [if_neg nfi, g3]
    intro S6 e6
    refine same (hK _ ⟨m, n, i, T, k, V, ?_⟩)
    have t6 : ft S S6 := by rw [e6, e5]; exact ft_40 (ft_sa (ft_rfl _))
    refine Rel_t R t6 ?_ ?_ ?_ hV hi (Nat.le_refl n) (fun _ _ => rfl)
    · refine RT_fm (S := S5) ?_ (by rw [e6]; exact fm_sa (fm_rfl _))
      rw [e5]
      exact ⟨⟨hm, hn, by omega⟩, ⟨by simp [sa_rd, upd_rd, e0], by simp [sa_rd, upd_rd, e1], by simp [sa_rd, upd_rd, e2], by simp [sa_rd, upd_rd]⟩, fun x hx => ⟨by simp [sa_rd, (fA x hx).1], by simp [sa_rd, (fA x hx).2]⟩, fun y hy => ⟨by simp [sa_rd, (fC y hy).1], by simp [sa_rd, (fC y hy).2]⟩, fun x y hx hy => ⟨by simp [sa_rd, (fB x y hx hy).1], by simp [sa_rd, (fB x y hx hy).2]⟩⟩
    · refine RJ_fm (S := S5) ?_ (by rw [e6]; exact fm_sa (fm_rfl _))
      rw [e5]; exact RJ_d hJ (by omega) (by omega) (by omega)
    · rw [e6]
      exact ⟨⟨by simp [sa_rd, upd_rd, g0], by simp [sa_rd, upd_rd, g1], by simp [sa_rd, upd_rd, g2], by simp [sa_rd, upd_rd]⟩, fun x hx => ⟨by simp [sa_rd, (gA x hx).1], by simp [sa_rd, (gA x hx).2]⟩, fun y hy => ⟨by simp [sa_rd, (gC y hy).1], by simp [sa_rd, (gC y hy).2.1], by simp [sa_rd, (gC y hy).2.2]⟩, fun x y hx hy => ⟨by simp [sa_rd, (gB x y hx hy).1], by simp [sa_rd, (gB x y hx hy).2]⟩⟩
  · refine w0 ca ?_
    rw [if_pos rfl]
    refine hF _ _ ?_
    unfold wpX8_force
    rw [u2]
    refine v0 ca ?_ (by decide) rfl
    rw [if_pos rfl]
    exact same (hK _ hR)
end
/-- KINDS under KINDS: steps in the abstract -/
def undL (a : Int32) : Nat → Int32 → Int32 → Option Bool
  | 0, _, _ => none
  | n + 1, x, c => if 5 < c then some false else if x = -1 then some false else if x = a then some true else if x < 0 ∨ 6 ≤ x.toNatClampNeg then none else undL a n (undT x.toNatClampNeg) (c + 1)
theorem sp_undL {K : Int32 → St → Prop} {S : St} {a : Int32} {v : Bool} (k : K (bI v) S) : ∀ n x c, undL a n x c = some v → wbX0_isUnder_4 K a n x c S
  | 0, _, _, h => by simp [undL] at h
  | n + 1, x, c, h => by
    show if 5 < c then _ else _
    unfold undL at h
    by_cases c1 : 5 < c
    · rw [if_pos c1] at h ⊢; cases h; exact k
    · rw [if_neg c1] at h ⊢
      by_cases c2 : x = -1
      · rw [if_pos c2] at h ⊢; cases h; exact k
      · rw [if_neg c2] at h ⊢
        by_cases c3 : x = a
        · rw [if_pos c3] at h ⊢; cases h; exact k
        · rw [if_neg c3] at h ⊢
          by_cases c4 : x < 0 ∨ 6 ≤ x.toNatClampNeg
          · rw [if_pos c4] at h; cases h
          · rw [if_neg c4] at h
            exact ⟨c4, sp_undL k n _ _ h⟩
def ovrF (x : Int32) : Int32 := if x = 0 then -1 else if x = 3 then 2 else if x = 4 then 1 else 0
def takL (a : Int32) : Nat → Int32 → Option Int32
  | 0, _ => none
  | n + 1, x => if x = -1 then some x else if x = a then some x else takL a n (ovrF x)
theorem mp_takL {K : Int32 → St → Prop} {S : St} {y a v : Int32} (k : wbX8_taken_51 K y a v S) : ∀ n x, takL a n x = some v → wbX8_taken_33 K y a n x S
  | 0, _, h => by simp [takL] at h
  | n + 1, x, h => by
    show if x = -1 then _ else _
    unfold takL at h
    by_cases c2 : x = -1
    · rw [if_pos c2] at h ⊢; cases h; exact k
    · rw [if_neg c2] at h ⊢
      by_cases c3 : x = a
      · rw [if_pos c3] at h ⊢; cases h; exact k
      · rw [if_neg c3] at h ⊢
        have q := mp_takL k n _ h
        unfold ovrF at q
        unfold wpX8_over
        by_cases d1 : x = 0
        · rw [if_pos d1] at q ⊢; exact q
        · rw [if_neg d1] at q ⊢
          by_cases d2 : x = 3
          · rw [if_pos d2] at q ⊢; exact q
          · rw [if_neg d2] at q ⊢
            by_cases d3 : x = 4
            · rw [if_pos d3] at q ⊢; exact q
            · rw [if_neg d3] at q ⊢; exact q
def undB (k j : Nat) : Bool := decide (k = j) || decide (j = 0) || (decide (k = 3) && decide (j = 2)) || (decide (k = 4) && decide (j = 1))
theorem und_all : ∀ k, k < 6 → ∀ j, j < 6 → undL (nI j) 8 (nI k) 0 = some (undB k j) ∧ takL (nI j) 8 (nI k) = some (bif undB k j then nI j else -1) := by decide +kernel
def marU (w : Nat → Int32) : Nat → Nat → Int32 → Int32
  | 0, _, v => v
  | d + 1, i, v => marU w d (i + 1) (if w i = -1 then v else v + 1)
theorem sp_mar_l {S : St} {t m n r : Nat} {T : Tn} {K : Int32 → St → Prop} (h : RT S t m n r T) : ∀ d i v, i + d = m → K (marU (T 2) d i v) S → wbX5_marriedMen_4 t K (d + 1) v (nI i) S
  | 0, i, v, e, k => by
    obtain ⟨⟨hm, hn, hr⟩, ⟨h0, _⟩, hA, _⟩ := h
    show if S.1 10 t 0 ≤ nI i then _ else _
    rw [h0, if_pos (nI_le (by omega) (by omega))]
    exact k
  | d + 1, i, v, e, k => by
    obtain ⟨⟨hm, hn, hr⟩, ⟨h0, _⟩, hA, _⟩ := id h
    show if S.1 10 t 0 ≤ nI i then _ else _
    rw [h0, if_neg (nI_ge (by omega) (by omega)), nI_clamp (by omega), (hA i (by omega)).2]
    refine ⟨vp_in_nI (by omega) (by omega), ?_⟩
    unfold wbX5_marriedMen_25
    unfold marU at k
    rw [nI_1]
    by_cases c : T 2 i = -1
    · rw [if_pos c] at k ⊢; exact sp_mar_l h d (i + 1) _ (by omega) k
    · rw [if_neg c] at k ⊢; exact sp_mar_l h d (i + 1) _ (by omega) k
theorem mp_cnt_l {S : St} {m n r : Nat} {T : Tn} {K : Int32 → St → Prop} (h : RM S m n r T) (hm : m ≤ 4) : ∀ d i v, i + d = m → K (marU (T 2) d i v) S → wbX8_count_24 K (d + 1) v (nI i) S
  | 0, i, v, e, k => by
    obtain ⟨⟨h0, _⟩, hA, _⟩ := h
    show if S.1 40 0 7 ≤ nI i then _ else _
    rw [h0, if_pos (nI_le (by omega) (by omega))]
    exact k
  | d + 1, i, v, e, k => by
    obtain ⟨⟨h0, _⟩, hA, _⟩ := id h
    show if S.1 40 0 7 ≤ nI i then _ else _
    rw [h0, if_neg (nI_ge (by omega) (by omega)), nI_clamp (by omega), (hA i (by omega)).2]
    refine ⟨vp_in_nI (by omega) (by omega), ?_⟩
    unfold wbX8_count_48
    unfold marU at k
    rw [nI_1, Int32.add_zero]
    by_cases c : T 2 i = -1
    · rw [if_pos c] at k ⊢; exact mp_cnt_l h hm d (i + 1) _ (by omega) k
    · rw [if_neg c] at k ⊢; exact mp_cnt_l h hm d (i + 1) _ (by omega) k
section
variable {S : St} {F : Int32 → St → Prop} {K : St → Prop} {a b c d : Int32}
theorem call_taken (R : Rel S) (hK : ∀ S1, Rel S1 → K S1) (hF : Hm F (wpX8_taken a b) K) : wpX7_taken a b S F := by
  obtain ⟨m, n, r, T, k, V, R⟩ := R
  have hR : Rel S := ⟨m, n, r, T, k, V, R⟩
  obtain ⟨hT, hJ, hM, hV, h2, hr, h3, h4, h5⟩ := id R
  obtain ⟨⟨hm, hn, hr6⟩, ⟨e0, e1, e2, e3⟩, fA, fC, fB⟩ := id hT
  obtain ⟨⟨g0, g1, g2, g3⟩, gA, gC, gB⟩ := id hM
  unfold wpX7_taken
  by_cases cb : 0 ≤ b ∧ b ≤ 5
  · refine w1 cb ?_
    rw [if_neg nfi]
    by_cases cx : ∃ i, i < n ∧ a = nI i
    · obtain ⟨y, hy, rfl⟩ := cx
      have vy : vp_in (nI y) 4 := vp_in_nI (by omega) (by omega)
      refine maid1 e1 hn hy ?_
      rw [if_neg nfi, nI_clamp (by omega), (fC y hy).1]
      obtain ⟨i, hi, ei⟩ := hV.2.2.1 y hy
      obtain ⟨j, _, hj, rfl⟩ := in_nI (a := 0) (b := 5) (by omega) cb (by omega)
      obtain ⟨u1, u2⟩ := und_all i (by omega) j (by omega)
      rw [ei]
      have md : ∀ v, wbX8_taken_51 (fun r2 S2 => if v = r2 then K S2 else False) (nI y) (nI j) (bif undB i j then nI j else -1) S → wpX8_taken (nI y) (nI j) S (fun r2 S2 => if v = r2 then K S2 else False) := by
        intro v hv
        unfold wpX8_taken
        refine v1 cb ?_
        rw [if_neg nfi]
        refine mmaid1 g1 hn hy ?_
        rw [if_neg nfi, nI_clamp (by omega), (gC y hy).1, ei]
        exact ⟨vy, 8, mp_takL hv 8 _ u2⟩
      refine ⟨vy, 8, sp_undL ?_ 8 _ _ u1⟩
      unfold wbX8_taken_51 at md
      rw [nI_clamp (by omega)] at md
      refine bI_if (fun w => hF _ _ (md _ ?_)) (fun w => ⟨vy, hF _ _ (md _ ?_)⟩)
      · rw [w]
        show if (-1 : Int32) = nI j then _ else _
        rw [if_neg (fun q => nI_nm1 (j := j) (by omega) q.symm)]
        exact same (hK _ hR)
      · rw [w]
        show if nI j = nI j then _ else _
        rw [if_pos rfl, (gC y hy).2.1, (fC y hy).2]
        exact ⟨vy, same (hK _ hR)⟩
    · refine maid0 e1 hn cx ?_
      rw [if_pos rfl]
      refine hF _ _ ?_
      unfold wpX8_taken
      refine v1 cb ?_
      rw [if_neg nfi]
      refine mmaid0 g1 hn cx ?_
      rw [if_pos rfl]
      exact same (hK _ hR)
  · refine w0 cb ?_
    rw [if_pos rfl]
    refine hF _ _ ?_
    unfold wpX8_taken
    refine v0 cb ?_
    rw [if_pos rfl]
    exact same (hK _ hR)
theorem call_count (R : Rel S) (hK : ∀ S1, Rel S1 → K S1) (hF : Hm F (wpX8_count a) K) : wpX7_count a S F := by
  obtain ⟨m, n, r, T, k, V, R⟩ := R
  have hR : Rel S := ⟨m, n, r, T, k, V, R⟩
  obtain ⟨hT, hJ, hM, hV, h2, hr, h3, h4, h5⟩ := id R
  obtain ⟨⟨hm, hn, hr6⟩, ⟨e0, e1, e2, e3⟩, fA, fC, fB⟩ := id hT
  obtain ⟨⟨g0, g1, g2, g3⟩, gA, gC, gB⟩ := id hM
  obtain ⟨⟨k1, k6⟩, ⟨u1, u2⟩, _⟩ := id h2
  obtain ⟨z, hz, z1, z2, z3⟩ := h3
  unfold wpX7_count
  by_cases ca : 0 ≤ a ∧ a ≤ 6
  · obtain ⟨i, _, hi, rfl⟩ := in_nI (a := 0) (b := 6) (by omega) ca (by omega)
    have md : ∀ v, (if nI i = 2 then (∃ k, wbX8_count_24 (fun r2 S2 => if v = r2 then K S2 else False) k 0 0 S) else (if nI i = 0 then ((fun r2 S2 => if v = r2 then K S2 else False) (S.1 40 0 7) S) else (if nI i = 1 then ((fun r2 S2 => if v = r2 then K S2 else False) (S.1 40 0 8) S) else (if nI i = 3 then ((fun r2 S2 => if v = r2 then K S2 else False) (S.1 40 0 16) S) else (if nI i = 4 then ((fun r2 S2 => if v = r2 then K S2 else False) (S.1 40 0 3) S) else (if nI i = 5 then ((fun r2 S2 => if v = r2 then K S2 else False) (S.1 40 0 6) S) else ((fun r2 S2 => if v = r2 then K S2 else False) (S.1 40 0 4) S))))))) → wpX8_count (nI i) S (fun r2 S2 => if v = r2 then K S2 else False) := by
      intro v hv
      unfold wpX8_count
      refine v1 ca ?_
      rw [if_neg nfi]
      exact hv
    rcases (show i = 0 ∨ i = 1 ∨ i = 2 ∨ i = 3 ∨ i = 4 ∨ i = 5 ∨ i = 6 by omega) with rfl | rfl | rfl | rfl | rfl | rfl | rfl
    · rw [if_pos (by decide), e0]
      refine hF _ _ (md _ ?_)
      rw [if_neg (by decide), if_pos (by decide), g0]
      exact same (hK _ hR)
    · rw [if_neg (by decide), if_pos (by decide), e1]
      refine hF _ _ (md _ ?_)
      rw [if_neg (by decide), if_neg (by decide), if_pos (by decide), g1]
      exact same (hK _ hR)
    · rw [if_neg (by decide), if_neg (by decide), if_pos (by decide)]
      refine ⟨m + 1, sp_mar_l hT m 0 0 (by omega) (hF _ _ (md _ ?_))⟩
      rw [if_pos (by decide)]
      exact ⟨m + 1, mp_cnt_l hM hm m 0 0 (by omega) (same (hK _ hR))⟩
    · rw [if_neg (by decide), if_neg (by decide), if_neg (by decide), if_pos (by decide), e2]
      refine hF _ _ (md _ ?_)
      rw [if_neg (by decide), if_neg (by decide), if_neg (by decide), if_pos (by decide), g2]
      exact same (hK _ hR)
    · rw [if_neg (by decide), if_neg (by decide), if_neg (by decide), if_neg (by decide), if_pos (by decide), u1]
      refine hF _ _ (md _ ?_)
      rw [if_neg (by decide), if_neg (by decide), if_neg (by decide), if_neg (by decide), if_pos (by decide), u2]
      exact same (hK _ hR)
    · rw [if_neg (by decide), if_neg (by decide), if_neg (by decide), if_neg (by decide), if_neg (by decide), if_pos (by decide), z1]
      refine hF _ _ (md _ ?_)
      rw [if_neg (by decide), if_neg (by decide), if_neg (by decide), if_neg (by decide), if_neg (by decide), if_pos (by decide), z2]
      exact same (hK _ hR)
    · rw [if_neg (by decide), if_neg (by decide), if_neg (by decide), if_neg (by decide), if_neg (by decide), if_neg (by decide), if_pos (by decide), e3, nI_clamp (by omega)]
      refine ⟨hr6, hF _ _ (md _ ?_)⟩
      rw [if_neg (by decide), if_neg (by decide), if_neg (by decide), if_neg (by decide), if_neg (by decide), if_neg (by decide), g3]
      exact same (hK _ hR)
  · have q : ∀ j : Nat, j ≤ 6 → ¬ a = nI j := fun j hj w => ca (by rw [w]; exact ⟨nI_pos' (by omega), nI_le (b := 6) hj (by omega)⟩)
    rw [if_neg (show ¬ a = 0 from q 0 (by omega)), if_neg (show ¬ a = 1 from q 1 (by omega)), if_neg (show ¬ a = 2 from q 2 (by omega)), if_neg (show ¬ a = 3 from q 3 (by omega)), if_neg (show ¬ a = 4 from q 4 (by omega)), if_neg (show ¬ a = 5 from q 5 (by omega)), if_neg (show ¬ a = 6 from q 6 (by omega))]
    refine hF _ _ ?_
    unfold wpX8_count
    refine v0 ca ?_
    rw [if_pos rfl]
    exact same (hK _ hR)
end
