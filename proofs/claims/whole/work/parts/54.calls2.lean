/-! calls: likes, set, part, of, man, maid, feed, force, taken, count -/
theorem RJ_d {S : St} {t m n kd j : Nat} {v : Int32} (h : RJ S t m n) (hk : kd ≠ 12) (hk5 : kd ≠ 15) (hk6 : kd ≠ 16) : RJ (su S kd t j v) t m n := by
  unfold RJ at h ⊢
  rw [su_nk (by omega), su_nk (by omega), su_nk (by omega)]
  exact h
theorem RJ_12 {S : St} {t m n x : Nat} {v : Int32} (h : RJ S t m n) (hx : x < m) : RJ (su S 12 t x v) t m n := by
  unfold RJ at h ⊢
  rw [su_nk (kd2 := 15) (by omega), su_nk (kd2 := 16) (by omega)]
  exact ⟨fun x2 a b => by rw [su_nj (by omega)]; exact h.1 x2 a b, h.2⟩
theorem RJ_15 {S : St} {t m n x y : Nat} {v : Int32} (h : RJ S t m n) (hx : x < m) (hy : y < n) (hn : n ≤ 4) : RJ (su S 15 t (4 * x + y) v) t m n := by
  unfold RJ at h ⊢
  rw [su_nk (kd2 := 12) (by omega), su_nk (kd2 := 16) (by omega)]
  exact ⟨h.1, fun x2 y2 a b c => by rw [su_nj (by omega)]; exact h.2 x2 y2 a b c⟩
theorem RJ_16 {S : St} {t m n x y : Nat} {v : Int32} (h : RJ S t m n) (hx : x < m) (hy : y < n) (hn : n ≤ 4) : RJ (su S 16 t (4 * x + y) v) t m n := by
  unfold RJ at h ⊢
  rw [su_nk (kd2 := 12) (by omega), su_nk (kd2 := 15) (by omega)]
  exact ⟨h.1, fun x2 y2 a b c => by rw [su_nj (by omega)]; exact h.2 x2 y2 a b c⟩
def likI (c : Int32) : Nat := if c = 0 then 5 else 6
def likV (m n : Nat) (a b c d : Int32) : Prop := ((∃ i, i < m ∧ a = nI i) ∧ ∃ i, i < n ∧ b = nI i) ∧ (0 ≤ c ∧ c ≤ 1) ∧ 0 ≤ d ∧ d ≤ 99
section
variable {S : St} {m n r x y : Nat} {T : Tn} {K : Int32 → St → Prop} {a b c d : Int32}
theorem sp_likes (hT : RT S 0 m n r T) (hJ : RJ S 0 m n) (hx : x < m) (hy : y < n) (h1 : 0 ≤ c ∧ c ≤ 1) (h2 : 0 ≤ d ∧ d ≤ 99) (k : ∀ S1, RT S1 0 m n r (setT T (likI c) (4 * x + y) d) → RJ S1 0 m n → fc S S1 → ft S S1 → K (T (likI c) (4 * x + y)) S1) : wpX7_likes (nI x) (nI y) c d S K := by
  obtain ⟨⟨hm, hn, _⟩, ⟨e0, e1, e2, e3⟩, fA, fC, fB⟩ := id hT
  unfold wpX7_likes
  refine pair1 e0 e1 hm hn hx hy ?_
  rw [if_neg nfi]
  refine w1 h1 ?_
  rw [if_neg nfi]
  refine w1 h2 ?_
  rw [if_neg nfi]
  unfold likI at k
  by_cases c4 : c = 0
  · rw [if_pos c4] at k ⊢
    refine sp_at (sp_repl (ix4 hx hy hm hn) (by omega) ?_)
    rw [(fB x y hx hy).1]
    exact k _ (RT_15 hT) (RJ_15 hJ hx hy hn) (fc_sa (fc_rfl _)) (ft_sa (ft_rfl _))
  · rw [if_neg c4] at k ⊢
    refine sp_at (sp_repl (ix4 hx hy hm hn) (by omega) ?_)
    rw [(fB x y hx hy).2]
    exact k _ (RT_16 hT) (RJ_16 hJ hx hy hn) (fc_sa (fc_rfl _)) (ft_sa (ft_rfl _))
theorem sp_likes0 (hT : RT S 0 m n r T) (h : ¬ likV m n a b c d) (k : K (-2) S) : wpX7_likes a b c d S K := by
  obtain ⟨⟨hm, hn, _⟩, ⟨e0, e1, e2, e3⟩, fA, fC, fB⟩ := id hT
  unfold wpX7_likes
  by_cases c1 : (∃ i, i < m ∧ a = nI i) ∧ ∃ i, i < n ∧ b = nI i
  · obtain ⟨⟨x, hx, rfl⟩, y, hy, rfl⟩ := id c1
    refine pair1 e0 e1 hm hn hx hy ?_
    rw [if_neg nfi]
    by_cases c2 : 0 ≤ c ∧ c ≤ 1
    · refine w1 c2 ?_
      rw [if_neg nfi]
      refine w0 (fun q => h ⟨c1, c2, q⟩) ?_
      rw [if_pos rfl]; exact k
    · refine w0 c2 ?_
      rw [if_pos rfl]; exact k
  · refine pair0 e0 e1 hm hn c1 ?_
    rw [if_pos rfl]; exact k
theorem mp_likes (hM : RM S m n r T) (hm : m ≤ 4) (hn : n ≤ 4) (hx : x < m) (hy : y < n) (h1 : 0 ≤ c ∧ c ≤ 1) (h2 : 0 ≤ d ∧ d ≤ 99) (k : ∀ S1, RM S1 m n r (setT T (likI c) (4 * x + y) d) → fm S S1 → ft S S1 → K (T (likI c) (4 * x + y)) S1) : wpX8_likes (nI x) (nI y) c d S K := by
  obtain ⟨⟨g0, g1, g2, g3⟩, gA, gC, gB⟩ := id hM
  unfold wpX8_likes
  refine mman1 g0 hm hx ?_
  rw [if_neg nfi]
  refine mmaid1 g1 hn hy ?_
  rw [if_neg nfi]
  refine v1 h1 ?_
  rw [if_neg nfi]
  refine v1 h2 ?_
  rw [if_neg nfi, at4, cl16 hx hy hm hn]
  have vx : vp_in (nI (4 * x + y)) 16 := vp_in_nI (ix4 hx hy hm hn) (by omega)
  unfold wbX8_likes_70
  rw [cl16 hx hy hm hn]
  unfold likI at k
  by_cases c4 : c = 0
  · simp only [if_pos c4] at k ⊢
    refine ⟨vx, vx, fun S1 e => ?_⟩
    subst e
    rw [(gB x y hx hy).1]
    exact k _ (RM_44 hM) (fm_sa (fm_rfl _)) (ft_sa (ft_rfl _))
  · simp only [if_neg c4] at k ⊢
    refine ⟨vx, vx, fun S1 e => ?_⟩
    subst e
    rw [(gB x y hx hy).2]
    exact k _ (RM_45 hM) (fm_sa (fm_rfl _)) (ft_sa (ft_rfl _))
theorem mp_likes0 (hM : RM S m n r T) (hm : m ≤ 4) (hn : n ≤ 4) (h : ¬ likV m n a b c d) (k : K (-2) S) : wpX8_likes a b c d S K := by
  obtain ⟨⟨g0, g1, g2, g3⟩, gA, gC, gB⟩ := id hM
  unfold wpX8_likes
  by_cases c0 : ∃ i, i < m ∧ a = nI i
  · obtain ⟨x, hx, rfl⟩ := id c0
    refine mman1 g0 hm hx ?_
    rw [if_neg nfi]
    by_cases c1 : ∃ i, i < n ∧ b = nI i
    · obtain ⟨y, hy, rfl⟩ := id c1
      refine mmaid1 g1 hn hy ?_
      rw [if_neg nfi]
      by_cases c2 : 0 ≤ c ∧ c ≤ 1
      · refine v1 c2 ?_
        rw [if_neg nfi]
        refine v0 (a := 0) (b := 99) (fun q => h ⟨⟨c0, c1⟩, c2, q⟩) ?_
        rw [if_pos rfl]; exact k
      · refine v0 c2 ?_
        rw [if_pos rfl]; exact k
    · refine mmaid0 g1 hn c1 ?_
      rw [if_pos rfl]; exact k
  · refine mman0 g0 hm c0 ?_
    rw [if_pos rfl]; exact k
end
theorem VT_l {m n j : Nat} {T : Tn} {c d : Int32} (h : VT m n T) (h2 : 0 ≤ d ∧ d ≤ 99) : VT m n (setT T (likI c) j d) := by
  obtain ⟨i, _, hi, rfl⟩ := in_nI (a := 0) (b := 99) (by omega) h2 (by omega)
  unfold likI
  by_cases q : c = 0
  · rw [if_pos q]; exact VT_5 h hi
  · rw [if_neg q]; exact VT_6 h hi
theorem likI_3 {T : Tn} {c v : Int32} {j y : Nat} : setT T (likI c) j v 3 y = T 3 y := setT_na (by unfold likI; by_cases q : c = 0 <;> simp [q])
section
variable {S : St} {F : Int32 → St → Prop} {K : St → Prop} {a b c d : Int32}
theorem call_likes (R : Rel S) (hK : ∀ S1, Rel S1 → K S1) (hF : Hm F (wpX8_likes a b c d) K) : wpX7_likes a b c d S F := by
  obtain ⟨m, n, r, T, k, V, R⟩ := R
  obtain ⟨hT, hJ, hM, hV, h2, hr, h3, h4, h5⟩ := id R
  have hm := hT.1.1
  have hn := hT.1.2.1
  by_cases q : likV m n a b c d
  · obtain ⟨⟨⟨x, hx, rfl⟩, y, hy, rfl⟩, q1, q2⟩ := q
    refine sp_likes hT hJ hx hy q1 q2 (fun S1 t1 j1 c1 f1 => hF _ _ (mp_likes (RM_fc hM c1) hm hn hx hy q1 q2 (fun S2 m2 c2 f2 => same (hK _ ?_))))
    exact ⟨m, n, r, _, k, V, Rel_t R (ft_tr f1 f2) (RT_fm t1 c2) (RJ_fm j1 c2) m2 (VT_l hV q2) hr (Nat.le_refl n) (fun y _ => likI_3)⟩
  · exact sp_likes0 hT q (hF _ _ (mp_likes0 hM hm hn q (same (hK _ ⟨m, n, r, T, k, V, R⟩))))
theorem call_set (R : Rel S) (hK : ∀ S1, Rel S1 → K S1) (hF : Hm F (wpX8_set a b c) K) : wpX7_set a b c S F := by
  obtain ⟨m, n, r, T, k, V, R⟩ := R
  have hR : Rel S := ⟨m, n, r, T, k, V, R⟩
  obtain ⟨hT, hJ, hM, hV, h2, hr, h3, h4, h5⟩ := id R
  obtain ⟨⟨hm, hn, _⟩, ⟨e0, e1, e2, e3⟩, fA, fC, fB⟩ := id hT
  obtain ⟨⟨g0, g1, g2, g3⟩, gA, gC, gB⟩ := id hM
  unfold wpX7_set
  by_cases c0 : a = 0
  · subst c0
    rw [if_pos rfl]
    by_cases cx : ∃ i, i < m ∧ b = nI i
    · obtain ⟨x, hx, rfl⟩ := cx
      refine man1 e0 hm hx ?_
      rw [if_neg nfi]
      by_cases cv : 0 ≤ c ∧ c ≤ 9
      · refine w1 cv ?_
        rw [if_neg nfi]
        refine sp_repl (by omega) (by omega) (hF _ _ ?_)
        have m1 : RM (su S 11 0 x c) m n r T := RM_fc hM (fc_sa (fc_rfl _))
        obtain ⟨⟨g0, g1, g2, g3⟩, gA, gC, gB⟩ := id m1
        unfold wpX8_set wbX8_set_24 wbX8_set_37 wbX8_set_54 wbX8_set_94
        refine v1 (a := 0) (b := 2) (by decide) ?_
        rw [if_neg nfi, if_pos rfl]
        refine mman1 g0 hm hx ?_
        rw [if_neg nfi, if_neg (by decide), if_neg (by decide)]
        refine v1 cv ?_
        rw [if_neg nfi, if_pos rfl, if_pos rfl, nI_clamp (by omega)]
        refine ⟨vp_in_nI (by omega) (by omega), vp_in_nI (by omega) (by omega), fun S2 e => ?_⟩
        subst e
        rw [(gA x hx).1, (fA x hx).1]
        refine same (hK _ ⟨m, n, r, setT T 1 x c, k, V, ?_⟩)
        obtain ⟨i, _, hi, rfl⟩ := in_nI (a := 0) (b := 9) (by omega) cv (by omega)
        exact Rel_t R (ft_sa (ft_sa (ft_rfl _))) (RT_fm (RT_11 hT) (fm_sa (fm_rfl _))) (RJ_fm (RJ_d hJ (by omega) (by omega) (by omega)) (fm_sa (fm_rfl _))) (RM_46 m1) (VT_1 hV hi) hr (Nat.le_refl n) (fun y _ => setT_na (by omega))
      · refine w0 cv ?_
        rw [if_pos rfl]
        refine hF _ _ ?_
        unfold wpX8_set wbX8_set_24 wbX8_set_37 wbX8_set_54
        refine v1 (a := 0) (b := 2) (by decide) ?_
        rw [if_neg nfi, if_pos rfl]
        refine mman1 g0 hm hx ?_
        rw [if_neg nfi, if_neg (by decide), if_neg (by decide)]
        refine v0 cv ?_
        rw [if_pos rfl]
        exact same (hK _ hR)
    · refine man0 e0 hm cx ?_
      rw [if_pos rfl]
      refine hF _ _ ?_
      unfold wpX8_set
      refine v1 (a := 0) (b := 2) (by decide) ?_
      rw [if_neg nfi, if_pos rfl]
      refine mman0 g0 hm cx ?_
      rw [if_pos rfl]
      exact same (hK _ hR)
  rw [if_neg c0]
  by_cases c1 : a = 1
  · subst c1
    rw [if_pos rfl]
    by_cases cx : ∃ i, i < n ∧ b = nI i
    · obtain ⟨x, hx, rfl⟩ := cx
      refine maid1 e1 hn hx ?_
      rw [if_neg nfi]
      by_cases cv : 0 ≤ c ∧ c ≤ 9
      · refine w1 cv ?_
        rw [if_neg nfi]
        refine sp_repl (by omega) (by omega) (hF _ _ ?_)
        have m1 : RM (su S 14 0 x c) m n r T := RM_fc hM (fc_sa (fc_rfl _))
        obtain ⟨⟨g0, g1, g2, g3⟩, gA, gC, gB⟩ := id m1
        unfold wpX8_set wbX8_set_24 wbX8_set_37 wbX8_set_54 wbX8_set_94
        refine v1 (a := 0) (b := 2) (by decide) ?_
        rw [if_neg nfi, if_neg (by decide), if_pos rfl]
        refine mmaid1 g1 hn hx ?_
        rw [if_neg nfi, if_neg (by decide)]
        refine v1 cv ?_
        rw [if_neg nfi, if_neg (by decide), if_pos rfl, if_neg (by decide), if_pos rfl, nI_clamp (by omega)]
        refine ⟨vp_in_nI (by omega) (by omega), vp_in_nI (by omega) (by omega), fun S2 e => ?_⟩
        subst e
        rw [(gC x hx).2.1, (fC x hx).2]
        refine same (hK _ ⟨m, n, r, setT T 4 x c, k, V, ?_⟩)
        obtain ⟨i, _, hi, rfl⟩ := in_nI (a := 0) (b := 9) (by omega) cv (by omega)
        exact Rel_t R (ft_sa (ft_sa (ft_rfl _))) (RT_fm (RT_14 hT) (fm_sa (fm_rfl _))) (RJ_fm (RJ_d hJ (by omega) (by omega) (by omega)) (fm_sa (fm_rfl _))) (RM_50 m1) (VT_4 hV hi) hr (Nat.le_refl n) (fun y _ => setT_na (by omega))
      · refine w0 cv ?_
        rw [if_pos rfl]
        refine hF _ _ ?_
        unfold wpX8_set wbX8_set_24 wbX8_set_37 wbX8_set_54
        refine v1 (a := 0) (b := 2) (by decide) ?_
        rw [if_neg nfi, if_neg (by decide), if_pos rfl]
        refine mmaid1 g1 hn hx ?_
        rw [if_neg nfi, if_neg (by decide)]
        refine v0 cv ?_
        rw [if_pos rfl]
        exact same (hK _ hR)
    · refine maid0 e1 hn cx ?_
      rw [if_pos rfl]
      refine hF _ _ ?_
      unfold wpX8_set wbX8_set_24
      refine v1 (a := 0) (b := 2) (by decide) ?_
      rw [if_neg nfi, if_neg (by decide), if_pos rfl]
      refine mmaid0 g1 hn cx ?_
      rw [if_pos rfl]
      exact same (hK _ hR)
  rw [if_neg c1]
  by_cases c2 : a = 2
  · subst c2
    rw [if_pos rfl]
    by_cases cv : 0 ≤ c ∧ c ≤ 99
    · refine w1 cv ?_
      rw [if_neg nfi]
      intro S1 e
      subst e
      refine hF _ _ ?_
      have m1 : RM (su S 10 0 2 c) m n r T := RM_fc hM (fc_sa (fc_rfl _))
      obtain ⟨⟨g0, g1, g2, g3⟩, gA, gC, gB⟩ := id m1
      unfold wpX8_set wbX8_set_24 wbX8_set_37 wbX8_set_54 wbX8_set_94
      refine v1 (a := 0) (b := 2) (by decide) ?_
      rw [if_neg nfi, if_neg (by decide), if_neg (by decide), if_pos rfl]
      refine v1 cv ?_
      rw [if_neg nfi, if_neg (by decide), if_neg (by decide), if_neg (by decide), if_neg (by decide)]
      intro S2 e
      subst e
      rw [g2, e2]
      refine same (hK _ ⟨m, n, r, setT T 0 0 c, k, V, ?_⟩)
      obtain ⟨i, _, hi, rfl⟩ := in_nI (a := 0) (b := 99) (by omega) cv (by omega)
      exact Rel_t R (ft_40 (ft_sa (ft_rfl _))) (RT_fm (RT_10 hT) (fm_sa (fm_rfl _))) (RJ_fm (RJ_d hJ (by omega) (by omega) (by omega)) (fm_sa (fm_rfl _))) (RM_m m1) (VT_0 hV hi) hr (Nat.le_refl n) (fun y _ => setT_na (by omega))
    · refine w0 cv ?_
      rw [if_pos rfl]
      refine hF _ _ ?_
      unfold wpX8_set wbX8_set_24 wbX8_set_37 wbX8_set_54
      refine v1 (a := 0) (b := 2) (by decide) ?_
      rw [if_neg nfi, if_neg (by decide), if_neg (by decide), if_pos rfl]
      refine v0 cv ?_
      rw [if_pos rfl]
      exact same (hK _ hR)
  rw [if_neg c2]
  refine hF _ _ ?_
  unfold wpX8_set
  refine v0 (a := 0) (b := 2) (fun q => ?_) ?_
  · obtain ⟨i, _, hi, rfl⟩ := in_nI (a := 0) (b := 2) (by omega) q (by omega)
    rcases (show i = 0 ∨ i = 1 ∨ i = 2 by omega) with rfl | rfl | rfl
    · exact c0 rfl
    · exact c1 rfl
    · exact c2 rfl
  · rw [if_pos rfl]
    exact same (hK _ hR)
end
