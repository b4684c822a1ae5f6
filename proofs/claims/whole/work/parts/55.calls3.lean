/-! calls: part, of, man, maid, feed, force, taken, count -/
theorem R2_f {S S1 : St} {k : Nat} {V : Nat → Rl} (h : R2 S k V) (h0 : S1.1 0 0 2 = S.1 0 0 2) (h3 : S1.1 40 0 3 = S.1 40 0 3) (h7 : ∀ q, S1.1 7 q = S.1 7 q) (h8 : ∀ q, S1.1 8 q = S.1 8 q) (h41 : S1.1 41 0 = S.1 41 0) (h42 : S1.1 42 0 = S.1 42 0) : R2 S1 k V := by
  obtain ⟨a, b, c⟩ := h
  refine ⟨a, ?_, fun q hq => ⟨RuC_fr (c q hq).1 (h7 q) (h8 q), RuM_fr (c q hq).2 (fun j _ => by rw [h41]) (by rw [h42])⟩⟩
  rw [h0, h3]; exact b
theorem R4_f {S S1 : St} {n k n1 k1 : Nat} {T T1 : Tn} (h : R4 S n k T) (h0 : S1.1 0 0 6 = S.1 0 0 6) (h40 : ∀ j, 50 ≤ j → S1.1 40 0 j = S.1 40 0 j) (g : ∀ kd, 10 ≤ kd → kd ≤ 16 → S1.1 kd 2 = S.1 kd 2) (h6 : ∀ kd, 61 ≤ kd → kd ≤ 63 → S1.1 kd 0 = S.1 kd 0) (hn : n ≤ n1) (hk : k ≤ k1) (hT : ∀ y, y < n → T1 3 y = T 3 y) : R4 S1 n1 k1 T1 := by
  unfold R4 RK at h ⊢
  rw [h0, h40 50 (by omega), h40 51 (by omega), h40 52 (by omega), h40 53 (by omega), h6 61 (by omega) (by omega), h6 62 (by omega) (by omega), h6 63 (by omega) (by omega)]
  rcases h with h | ⟨h, m2, n2, r2, T2, a, b, c, d, e, q, w⟩
  · exact Or.inl h
  · exact Or.inr ⟨h, m2, n2, r2, T2, (RT_eq g).mpr a, (RJ_eq g).mpr b, c, d, by omega, Nat.le_trans q hn, fun y hy => (w y hy).trans (hT y (by omega)).symm⟩
theorem R5_f {S S1 : St} (h : R5 S) (h30 : ∀ q, S1.1 30 q = S.1 30 q) (h31 : ∀ q, S1.1 31 q = S.1 31 q) (h6 : ∀ kd, 64 ≤ kd → S1.1 kd 0 = S.1 kd 0) : R5 S1 := by
  intro q hq
  have := h q hq
  rw [h30 q, h31 q, h6 64 (by omega), h6 65 (by omega), h6 66 (by omega), h6 67 (by omega)]
  exact this
theorem hus_iff {w w2 : Nat → Int32} {v : Int32} : ∀ d i, (∀ j, i ≤ j → j < i + d → (w j = v ↔ w2 j = v)) → husU w v d i = husU w2 v d i
  | 0, _, _ => rfl
  | d + 1, i, h => by
    unfold husU
    rw [hus_iff d (i + 1) (fun j a b => h j (by omega) (by omega))]
    by_cases q : w i = v
    · rw [if_pos q, if_pos ((h i (by omega) (by omega)).mp q)]
    · rw [if_neg q, if_neg (fun e => q ((h i (by omega) (by omega)).mpr e))]
section
variable {S : St} {m n r x y : Nat} {T : Tn}
theorem RM_part (h : RM S m n r T) (hV : VT m n T) (hn : n ≤ 4) (hx : x < m) (hy : y < n) (hw : T 2 x = nI y) : RM (su (su S 47 0 x (-1)) 48 0 y (-1)) m n r (setT T 2 x (-1)) := by
  obtain ⟨⟨b, c, d, e⟩, f, g, k⟩ := h
  refine ⟨⟨by simp [sa_rd, upd_rd, setT, b], by simp [sa_rd, upd_rd, setT, c], by simp [sa_rd, upd_rd, setT, d], by simp [sa_rd, upd_rd, setT, e]⟩, fun x2 hx2 => ⟨by simp [sa_rd, upd_rd, setT, (f x2 hx2).1], by simp [sa_rd, upd_rd, setT, (f x2 hx2).2]⟩, fun y2 hy2 => ⟨by simp [sa_rd, upd_rd, setT, (g y2 hy2).1], by simp [sa_rd, upd_rd, setT, (g y2 hy2).2.1], ?_⟩, fun x2 y2 hx2 hy2 => ⟨by simp [sa_rd, upd_rd, setT, (k x2 y2 hx2 hy2).1], by simp [sa_rd, upd_rd, setT, (k x2 y2 hx2 hy2).2]⟩⟩
  by_cases q : y2 = y
  · subst q
    rw [su_eq]
    refine (hus_no m 0 (fun j _ hj => ?_)).symm
    by_cases q2 : j = x
    · subst q2; rw [setT_eq]; exact fun w => nI_nm1 (j := y2) (by omega) w.symm
    · rw [setT_nj q2]
      intro w
      exact q2 (hV.2.2.2.2.2.2.2 j x (by omega) hx (w.trans hw.symm) (by rw [w]; exact nI_nm1 (by omega)))
  · rw [su_nj q, sa_ne (by omega), (g y2 hy2).2.2]
    refine hus_iff m 0 (fun j _ hj => ?_)
    by_cases q2 : j = x
    · subst q2
      rw [setT_eq, hw]
      constructor
      · intro w; exact absurd ((nI_eq (by omega) (by omega)).mp w).symm q
      · intro w; exact absurd w.symm (nI_nm1 (by omega))
    · rw [setT_nj q2]
theorem RM_take (h : RM S m n r T) (hm : m ≤ 4) (hn : n ≤ 4) (hx : x < m) (hy : y < n) (hw : T 2 x = -1) (hno : ∀ j, j < m → T 2 j ≠ nI y) : RM (su (su S 47 0 x (nI y)) 48 0 y (nI x)) m n r (setT T 2 x (nI y)) := by
  obtain ⟨⟨b, c, d, e⟩, f, g, k⟩ := h
  refine ⟨⟨by simp [sa_rd, upd_rd, setT, b], by simp [sa_rd, upd_rd, setT, c], by simp [sa_rd, upd_rd, setT, d], by simp [sa_rd, upd_rd, setT, e]⟩, fun x2 hx2 => ⟨by simp [sa_rd, upd_rd, setT, (f x2 hx2).1], by simp [sa_rd, upd_rd, setT, (f x2 hx2).2]⟩, fun y2 hy2 => ⟨by simp [sa_rd, upd_rd, setT, (g y2 hy2).1], by simp [sa_rd, upd_rd, setT, (g y2 hy2).2.1], ?_⟩, fun x2 y2 hx2 hy2 => ⟨by simp [sa_rd, upd_rd, setT, (k x2 y2 hx2 hy2).1], by simp [sa_rd, upd_rd, setT, (k x2 y2 hx2 hy2).2]⟩⟩
  by_cases q : y2 = y
  · subst q
    rw [su_eq]
    refine (hus_at m 0 x (by omega) (by omega) setT_eq (fun j _ hj => ?_)).symm
    rw [setT_nj (by omega)]; exact hno j (by omega)
  · rw [su_nj q, sa_ne (by omega), (g y2 hy2).2.2]
    refine hus_iff m 0 (fun j _ hj => ?_)
    by_cases q2 : j = x
    · subst q2
      rw [setT_eq, hw]
      constructor
      · intro w; exact absurd w.symm (nI_nm1 (by omega))
      · intro w; exact absurd ((nI_eq (by omega) (by omega)).mp w).symm q
    · rw [setT_nj q2]
end
section
variable {S : St} {F : Int32 → St → Prop} {K : St → Prop} {a b c d : Int32}
theorem call_part (R : Rel S) (hK : ∀ S1, Rel S1 → K S1) (hF : Hm F (wpX8_part_ a) K) : wpX7_part a S F := by
  obtain ⟨m, n, r, T, k, V, R⟩ := R
  have hR : Rel S := ⟨m, n, r, T, k, V, R⟩
  obtain ⟨hT, hJ, hM, hV, h2, hr, h3, h4, h5⟩ := id R
  obtain ⟨⟨hm, hn, _⟩, ⟨e0, e1, e2, e3⟩, fA, fC, fB⟩ := id hT
  obtain ⟨⟨g0, g1, g2, g3⟩, gA, gC, gB⟩ := id hM
  unfold wpX7_part
  by_cases cx : ∃ i, i < m ∧ a = nI i
  · obtain ⟨x, hx, rfl⟩ := cx
    have vx : vp_in (nI x) 4 := vp_in_nI (by omega) (by omega)
    refine man1 e0 hm hx ?_
    rw [if_neg nfi, nI_clamp (by omega), (fA x hx).2]
    refine ⟨vx, ?_⟩
    rcases hV.2.2.2.2.2.2.1 x hx with w | ⟨y, hy, w⟩
    · rw [if_pos w]
      refine hF _ _ ?_
      unfold wpX8_part_
      refine mman1 g0 hm hx ?_
      rw [if_neg nfi, nI_clamp (by omega), (gA x hx).2, if_pos w]
      exact ⟨vx, same (hK _ hR)⟩
    · have w1 : ¬ T 2 x = -1 := by rw [w]; exact nI_nm1 (by omega)
      rw [if_neg w1]
      refine sp_repl (by omega) (by omega) (hF _ _ ?_)
      have m1 : RM (su S 12 0 x (-1)) m n r T := RM_fc hM (fc_sa (fc_rfl _))
      obtain ⟨⟨g0, g1, g2, g3⟩, gA, gC, gB⟩ := id m1
      unfold wpX8_part_
      refine mman1 g0 hm hx ?_
      rw [if_neg nfi, nI_clamp (n := x) (by omega), (gA x hx).2, if_neg w1]
      refine ⟨vx, vx, vx, fun S6 e6 => ?_⟩
      subst e6
      rw [w, nI_clamp (by omega), (fA x hx).2, w]
      refine ⟨vp_in_nI (by omega) (by omega), fun S6 e6 => ?_⟩
      subst e6
      refine same (hK _ ⟨m, n, r, setT T 2 x (-1), k, V, ?_⟩)
      exact Rel_t R (ft_sa (ft_sa (ft_sa (ft_rfl _)))) (RT_fm (RT_12 hT) (fm_sa (fm_sa (fm_rfl _)))) (RJ_fm (RJ_12 hJ hx) (fm_sa (fm_sa (fm_rfl _)))) (RM_part m1 hV hn hx hy w) (VT_2n hV) hr (Nat.le_refl n) (fun y _ => setT_na (by omega))
  · refine man0 e0 hm cx ?_
    rw [if_pos rfl]
    refine hF _ _ ?_
    unfold wpX8_part_
    refine mman0 g0 hm cx ?_
    rw [if_pos rfl]
    exact same (hK _ hR)
theorem call_of (R : Rel S) (hK : ∀ S1, Rel S1 → K S1) (hF : Hm F (wpX8_of a b) K) : wpX7_of a b S F := by
  obtain ⟨m, n, r, T, k, V, R⟩ := R
  have hR : Rel S := ⟨m, n, r, T, k, V, R⟩
  obtain ⟨hT, hJ, hM, hV, h2, hr, h3, h4, h5⟩ := id R
  obtain ⟨⟨hm, hn, _⟩, ⟨e0, e1, e2, e3⟩, fA, fC, fB⟩ := id hT
  obtain ⟨⟨g0, g1, g2, g3⟩, gA, gC, gB⟩ := id hM
  unfold wpX7_of
  by_cases cb : 0 ≤ b ∧ b ≤ 4
  · refine w1 cb ?_
    rw [if_neg nfi]
    have cb2 : 0 ≤ b ∧ b ≤ 6 := ⟨cb.1, Int32.le_trans cb.2 (by decide)⟩
    have cb5 : ¬ 5 ≤ b := fun q => absurd (Int32.le_trans q cb.2) (by decide)
    by_cases cx : ∃ i, i < n ∧ a = nI i
    · obtain ⟨y, hy, rfl⟩ := cx
      have vy : vp_in (nI y) 4 := vp_in_nI (by omega) (by omega)
      refine maid1 e1 hn hy ?_
      rw [if_neg nfi]
      have md : ∀ v, wbX8_of_41 (fun r2 S2 => if v = r2 then K S2 else False) (nI y) b S → wpX8_of (nI y) b S (fun r2 S2 => if v = r2 then K S2 else False) := by
        intro v hv
        unfold wpX8_of
        refine v1 cb2 ?_
        rw [if_neg nfi, if_neg cb5]
        refine mmaid1 g1 hn hy ?_
        rw [if_neg nfi]
        unfold wbX8_of_25
        rw [if_pos (Int32.not_le.mp cb5)]
        exact hv
      unfold wpX7_ofMaid
      unfold wbX8_of_41 at md
      rw [nI_clamp (by omega)] at md ⊢
      obtain ⟨i, _, hi, rfl⟩ := in_nI (a := 0) (b := 4) (by omega) cb (by omega)
      rw [(fC y hy).1, (fC y hy).2]
      rcases (show i = 0 ∨ i = 1 ∨ i = 2 ∨ i = 3 ∨ i = 4 by omega) with rfl | rfl | rfl | rfl | rfl
      · rw [if_pos (by decide)]
        refine ⟨vy, hF _ _ (md _ ?_)⟩
        rw [if_neg (by decide), if_pos (by decide), (gC y hy).1]
        exact ⟨vy, same (hK _ hR)⟩
      · rw [if_neg (by decide), if_pos (by decide)]
        refine ⟨vy, hF _ _ (md _ ?_)⟩
        rw [if_neg (by decide), if_neg (by decide), if_pos (by decide), (gC y hy).2.1]
        exact ⟨vy, same (hK _ hR)⟩
      · rw [if_neg (by decide), if_neg (by decide), if_pos (by decide)]
        refine ⟨vy, vy, sp_needs (hF _ _ (md _ ?_))⟩
        rw [if_neg (by decide), if_neg (by decide), if_neg (by decide), if_pos (by decide)]
        exact mp_needs hM hn hy (same (hK _ hR))
      · rw [if_neg (by decide), if_neg (by decide), if_neg (by decide), if_pos (by decide)]
        refine ⟨vy, vy, sp_price (hF _ _ (md _ ?_))⟩
        rw [if_neg (by decide), if_neg (by decide), if_neg (by decide), if_neg (by decide)]
        exact mp_price hM hV hn hy (same (hK _ hR))
      · rw [if_neg (by decide), if_neg (by decide), if_neg (by decide), if_neg (by decide)]
        refine sp_husband hT (hF _ _ (md _ ?_))
        rw [if_pos (by decide), if_pos (by decide), (gC y hy).2.2]
        exact ⟨vy, same (hK _ hR)⟩
    · refine maid0 e1 hn cx ?_
      rw [if_pos rfl]
      refine hF _ _ ?_
      unfold wpX8_of
      refine v1 cb2 ?_
      rw [if_neg nfi, if_neg cb5]
      refine mmaid0 g1 hn cx ?_
      rw [if_pos rfl]
      exact same (hK _ hR)
  · refine w0 cb ?_
    rw [if_pos rfl]
    by_cases cc : 5 ≤ b ∧ b ≤ 6
    · refine w1 cc ?_
      rw [if_neg nfi]
      have cb2 : 0 ≤ b ∧ b ≤ 6 := ⟨Int32.le_trans (by decide) cc.1, cc.2⟩
      by_cases cx : ∃ i, i < m ∧ a = nI i
      · obtain ⟨x, hx, rfl⟩ := cx
        have vx : vp_in (nI x) 4 := vp_in_nI (by omega) (by omega)
        refine man1 e0 hm hx ?_
        rw [if_neg nfi]
        have md : ∀ v, wbX8_of_41 (fun r2 S2 => if v = r2 then K S2 else False) (nI x) b S → wpX8_of (nI x) b S (fun r2 S2 => if v = r2 then K S2 else False) := by
          intro v hv
          unfold wpX8_of
          refine v1 cb2 ?_
          rw [if_neg nfi, if_pos cc.1]
          unfold wbX8_of_25
          rw [if_neg (Int32.not_lt.mpr cc.1)]
          refine mman1 g0 hm hx ?_
          rw [if_neg nfi]
          exact hv
        unfold wpX7_ofMan
        unfold wbX8_of_41 at md
        rw [nI_clamp (by omega)] at md ⊢
        obtain ⟨i, hi1, hi, rfl⟩ := in_nI (a := 5) (b := 6) (by omega) cc (by omega)
        rcases (show i = 5 ∨ i = 6 by omega) with rfl | rfl
        · rw [if_pos (by decide)]
          refine ⟨vx, hF _ _ (md _ ?_)⟩
          rw [if_pos (by decide), if_neg (by decide), if_pos (by decide), (gA x hx).1, (fA x hx).1]
          exact ⟨vx, same (hK _ hR)⟩
        · rw [if_neg (by decide)]
          refine ⟨vx, hF _ _ (md _ ?_)⟩
          rw [if_pos (by decide), if_neg (by decide), if_neg (by decide), (gA x hx).2, (fA x hx).2]
          exact ⟨vx, same (hK _ hR)⟩
      · refine man0 e0 hm cx ?_
        rw [if_pos rfl]
        refine hF _ _ ?_
        unfold wpX8_of wbX8_of_25
        refine v1 cb2 ?_
        rw [if_neg nfi, if_pos cc.1, if_neg (Int32.not_lt.mpr cc.1)]
        refine mman0 g0 hm cx ?_
        rw [if_pos rfl]
        exact same (hK _ hR)
    · refine w0 cc ?_
      rw [if_pos rfl]
      refine hF _ _ ?_
      unfold wpX8_of
      refine v0 (a := 0) (b := 6) (fun q => ?_) ?_
      · obtain ⟨i, _, hi, rfl⟩ := in_nI (a := 0) (b := 6) (by omega) q (by omega)
        by_cases q4 : i ≤ 4
        · exact cb ⟨q.1, nI_le (a := i) (b := 4) q4 (by omega)⟩
        · exact cc ⟨nI_le (a := 5) (by omega) (by omega), q.2⟩
      · rw [if_pos rfl]
        exact same (hK _ hR)
theorem call_man (R : Rel S) (hK : ∀ S1, Rel S1 → K S1) (hF : Hm F (wpX8_man a) K) : wpX7_man a S F := by
  obtain ⟨m, n, r, T, k, V, R⟩ := R
  have hR : Rel S := ⟨m, n, r, T, k, V, R⟩
  obtain ⟨hT, hJ, hM, hV, h2, hr, h3, h4, h5⟩ := id R
  obtain ⟨⟨hm, hn, hr6⟩, ⟨e0, e1, e2, e3⟩, fA, fC, fB⟩ := id hT
  obtain ⟨⟨g0, g1, g2, g3⟩, gA, gC, gB⟩ := id hM
  unfold wpX7_man
  by_cases cb : 0 ≤ a ∧ a ≤ 9
  · refine w1 cb ?_
    rw [if_neg nfi, e0]
    by_cases hm4 : m < 4
    · rw [if_pos (by rw [lit32 4]; exact nI_lt hm4 (by omega)), nI_clamp (by omega)]
      refine ⟨vp_in_nI hm4 (by omega), fun S4 e4 S5 e5 => ?_⟩
      rw [show S4.1 10 0 0 = nI m by rw [e4, su_nk (by omega), e0], nI_1] at e5
      have e50 : S5.1 10 0 0 = nI (m + 1) := by rw [e5, su_eq]
      rw [e50, nI_pred]
      have c5 : fc S S5 := by rw [e5, e4]; exact fc_sa (fc_sa (fc_rfl _))
      have t5 : ft S S5 := by rw [e5, e4]; exact ft_sa (ft_sa (ft_rfl _))
      refine hF _ _ ?_
      unfold wpX8_man
      refine v1 cb ?_
      have g5 : S5.1 40 0 7 = nI m := by rw [c5 40 0 (by omega), g0]
      rw [if_neg nfi, g5, if_neg (by rw [lit32 4, nI_eq (by omega) (by omega)]; omega), nI_clamp (by omega)]
      refine ⟨vp_in_nI hm4 (by omega), fun S6 e6 => ?_⟩
      have g6 : S6.1 40 0 7 = nI m := by rw [e6, su_nk (by omega), g5]
      rw [g6, nI_clamp (by omega)]
      refine ⟨vp_in_nI hm4 (by omega), fun S7 e7 => ⟨5, ?_⟩⟩
      have g7 : S7.1 40 0 7 = nI m := by rw [e7, su_nk (by omega), g6]
      refine mp_man_l 4 0 S7 _ (by omega) hm4 g7 (fun S8 b1 b2 b3 b4 b5 b6 => same (hK _ ?_))
      have m7 : fm S5 S7 := by rw [e7, e6]; exact fm_sa (fm_sa (fm_rfl _))
      have t7 : ft S5 S7 := by rw [e7, e6]; exact ft_sa (ft_sa (ft_rfl _))
      obtain ⟨i, _, hi, rfl⟩ := in_nI (a := 0) (b := 9) (by omega) cb (by omega)
      refine ⟨m + 1, n, r, fun b i2 => if b = 1 ∧ i2 = m then nI i else if b = 2 ∧ i2 = m then -1 else if (b = 5 ∨ b = 6) ∧ i2 / 4 = m then 50 else T b i2, k, V, Rel_t R (ft_tr t5 (ft_tr t7 b2)) (RT_fm ?_ (fm_tr m7 b1)) (RJ_fm ?_ (fm_tr m7 b1)) ?_ ?_ hr (Nat.le_refl n) (fun y _ => by simp)⟩
      · refine ⟨⟨by omega, hn, hr6⟩, ⟨e50, by rw [e5, e4]; simp [sa_rd, upd_rd, e1], by rw [e5, e4]; simp [sa_rd, upd_rd, e2], by rw [e5, e4]; simp [sa_rd, upd_rd, e3]⟩, fun x hx => ?_, fun y hy => ?_, fun x y hx hy => ?_⟩
        · by_cases q : x = m
          · subst q
            constructor
            · rw [e5, e4]; simp [sa_rd, upd_rd]
            · rw [e5, e4]; simp [sa_rd, upd_rd, hJ.1 x (Nat.le_refl x) hm4]
          · constructor
            · rw [e5, e4]; simp [sa_rd, upd_rd, q, (fA x (by omega)).1]
            · rw [e5, e4]; simp [sa_rd, upd_rd, q, (fA x (by omega)).2]
        · constructor
          · rw [e5, e4]; simp [sa_rd, (fC y hy).1]
          · rw [e5, e4]; simp [sa_rd, (fC y hy).2]
        · by_cases q : x = m
          · subst q
            have q1 : (4 * x + y) / 4 = x := by omega
            have := hJ.2 x y hm4 (by omega) (Or.inl (Nat.le_refl x))
            constructor
            · rw [e5, e4]; simp [sa_rd, q1, this.1]
            · rw [e5, e4]; simp [sa_rd, q1, this.2]
          · have q1 : ¬ (4 * x + y) / 4 = m := by omega
            have := fB x y (by omega) hy
            constructor
            · rw [e5, e4]; simp [sa_rd, q1, this.1]
            · rw [e5, e4]; simp [sa_rd, q1, this.2]
      · refine ⟨fun x x1 x4 => ?_, fun x y x1 y1 xy => ?_⟩
        · rw [e5, e4, sa_ne (by omega), sa_ne (by omega)]; exact hJ.1 x (by omega) x4
        · rw [e5, e4, sa_ne (by omega), sa_ne (by omega), sa_ne (by omega), sa_ne (by omega)]; exact hJ.2 x y x1 y1 (by omega)
      · refine ⟨⟨b5, ?_, ?_, ?_⟩, fun x hx => ?_, fun y hy => ?_, fun x y hx hy => ?_⟩
        · rw [b4 8 (by omega), e7, e6, su_nk (by omega), su_nk (by omega), c5 40 0 (by omega)]; exact g1
        · rw [b4 16 (by omega), e7, e6, su_nk (by omega), su_nk (by omega), c5 40 0 (by omega)]; simpa using g2
        · rw [b4 4 (by omega), e7, e6, su_nk (by omega), su_nk (by omega), c5 40 0 (by omega)]; exact g3
        · rw [b3 46 (by omega) (by omega), b3 47 (by omega) (by omega)]
          by_cases q : x = m
          · subst q
            constructor
            · rw [e7, e6]; simp [sa_rd, upd_rd]
            · rw [e7, e6]; simp [sa_rd, upd_rd]
          · constructor
            · rw [e7, e6]; simp [sa_rd, upd_rd, q, c5 46 0 (by omega), (gA x (by omega)).1]
            · rw [e7, e6]; simp [sa_rd, upd_rd, q, c5 47 0 (by omega), (gA x (by omega)).2]
        · rw [b3 48 (by omega) (by omega), b3 49 (by omega) (by omega), b3 50 (by omega) (by omega)]
          refine ⟨by rw [e7, e6]; simp [sa_rd, c5 49 0 (by omega), (gC y hy).1], by rw [e7, e6]; simp [sa_rd, c5 50 0 (by omega), (gC y hy).2.1], ?_⟩
          rw [hus_snoc m 0 (by simp; exact fun w => nI_nm1 (j := y) (by omega) w.symm), hus_congr (w2 := T 2) m 0 (fun j _ hj => by simp [show j ≠ m by omega]), e7, e6]
          simp [sa_rd, c5 48 0 (by omega), (gC y hy).2.2]
        · rw [b6 44 _ (Or.inl rfl), b6 45 _ (Or.inr rfl)]
          by_cases q : x = m
          · subst q
            have q1 : (4 * x + y) / 4 = x := by omega
            rw [if_pos (by omega), if_pos (by omega)]
            simp [q1]
          · have q1 : ¬ (4 * x + y) / 4 = m := by omega
            have := gB x y (by omega) hy
            rw [if_neg (by omega), if_neg (by omega), e7, e6]
            simp [sa_rd, q1, c5 44 0 (by omega), c5 45 0 (by omega), this.1, this.2]
      · obtain ⟨v1, v2, v3, v4, v5, v6, v7, v8⟩ := hV
        refine ⟨by simpa using v1, fun x hx => ?_, fun y hy => by simpa using v3 y hy, fun y hy => by simpa using v4 y hy, fun x y hx hy => ?_, fun x y hx hy => ?_, fun x hx => ?_, fun x x2 hx hx2 q w => ?_⟩
        · by_cases q : x = m
          · subst q; exact ⟨i, hi, by simp⟩
          · simpa [q] using v2 x (by omega)
        · by_cases q : x = m
          · subst q; exact ⟨50, by omega, by simp [show (4 * x + y) / 4 = x by omega]; rfl⟩
          · simpa [show ¬ (4 * x + y) / 4 = m by omega] using v5 x y (by omega) hy
        · by_cases q : x = m
          · subst q; exact ⟨50, by omega, by simp [show (4 * x + y) / 4 = x by omega]; rfl⟩
          · simpa [show ¬ (4 * x + y) / 4 = m by omega] using v6 x y (by omega) hy
        · by_cases q : x = m
          · subst q; exact Or.inl (by simp)
          · simpa [q] using v7 x (by omega)
        · by_cases q1 : x = m
          · subst q1; exact absurd (by simp) w
          · by_cases q2 : x2 = m
            · subst q2; simp [q1] at q w; exact absurd q w
            · simp [q1, q2] at q w
              exact v8 x x2 (by omega) (by omega) q w
    · rw [if_neg (by rw [lit32 4]; exact nI_nlt (by omega) (by omega))]
      refine hF _ _ ?_
      unfold wpX8_man
      refine v1 cb ?_
      rw [if_neg nfi, g0, if_pos (by rw [lit32 4, nI_eq (by omega) (by omega)]; omega)]
      exact same (hK _ hR)
  · refine w0 cb ?_
    rw [if_pos rfl]
    refine hF _ _ ?_
    unfold wpX8_man
    refine v0 cb ?_
    rw [if_pos rfl]
    exact same (hK _ hR)
end
