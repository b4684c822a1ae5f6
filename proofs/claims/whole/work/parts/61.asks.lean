/-! an asking's end; told, ask -/
def monF (v : Int32) : Int32 := if 99 < v + 1 then 99 else v + 1
def nosF (v : Int32) : Int32 := if 9 < v + 1 then 9 else v + 1
def endT (T : Tn) (x y : Nat) (b : Bool) : Tn := setT (bif b then setT T 2 x (nI y) else setT T 1 x (nosF (T 1 x))) 0 0 (monF (T 0 0))
theorem setT_comm {T : Tn} {a i b j : Nat} {v w : Int32} (h : a ≠ b) : setT (setT T a i v) b j w = setT (setT T b j w) a i v := by
  funext c k
  unfold setT
  by_cases h1 : c = b ∧ k = j
  · rw [if_pos h1, if_neg (fun q => h (q.1.symm.trans h1.1)), if_pos h1]
  · rw [if_neg h1, if_neg h1]
theorem monF_n {k : Nat} (h : k ≤ 99) : ∃ j, j ≤ 99 ∧ monF (nI k) = nI j ∧ ((99 : Int32) ≤ nI k → monF (nI k) = 99) ∧ (¬ (99 : Int32) ≤ nI k → monF (nI k) = nI k + 1) := by
  unfold monF
  rw [nI_1]
  by_cases q : k = 99
  · subst q
    exact ⟨99, by omega, by decide, fun _ => by decide, fun w => absurd (by decide) w⟩
  · have : ¬ (99 : Int32) < nI (k + 1) := by rw [lit32 99]; exact nI_nlt (by omega) (by omega)
    rw [if_neg this]
    exact ⟨k + 1, by omega, rfl, fun w => absurd w (by rw [lit32 99]; exact nI_ge (by omega) (by omega)), fun _ => rfl⟩
theorem nosF_n {k : Nat} (h : k ≤ 9) : ∃ j, j ≤ 9 ∧ nosF (nI k) = nI j ∧ ((9 : Int32) ≤ nI k → nosF (nI k) = 9) ∧ (¬ (9 : Int32) ≤ nI k → nosF (nI k) = nI k + 1) := by
  unfold nosF
  rw [nI_1]
  by_cases q : k = 9
  · subst q
    exact ⟨9, by omega, by decide, fun _ => by decide, fun w => absurd (by decide) w⟩
  · have : ¬ (9 : Int32) < nI (k + 1) := by rw [lit32 9]; exact nI_nlt (by omega) (by omega)
    rw [if_neg this]
    exact ⟨k + 1, by omega, rfl, fun w => absurd w (by rw [lit32 9]; exact nI_ge (by omega) (by omega)), fun _ => rfl⟩
section
variable {S : St} {t m n r : Nat} {T : Tn} {U : Rl} {x y : Nat} {b : Bool}
theorem VT_end (h : VT m n T) (hx : x < m) (hn : n ≤ 4) (hb : b = true → y < n ∧ ∀ j, j < m → T 2 j ≠ nI y) : VT m n (endT T x y b) := by
  obtain ⟨k0, h0, e0⟩ := h.1
  obtain ⟨j0, hj0, f0, _⟩ := monF_n h0
  unfold endT
  rw [e0, f0]
  refine VT_0 ?_ hj0
  cases b
  · obtain ⟨k1, h1, e1⟩ := h.2.1 x hx
    obtain ⟨j1, hj1, f1, _⟩ := nosF_n h1
    show VT m n (setT T 1 x (nosF (T 1 x)))
    rw [e1, f1]
    exact VT_1 h hj1
  · exact VT_2y h (hb rfl).1 hn (hb rfl).2
theorem endT_na {a j : Nat} (ha : 3 ≤ a) : endT T x y b a j = T a j := by
  unfold endT
  rw [setT_na (by omega)]
  cases b
  · exact setT_na (by omega)
  · exact setT_na (by omega)
theorem sp_end {K : St → Prop} (h : RT S t m n r T) (hx : x < m) (hy : y < n)
    (k : ∀ S1, RT S1 t m n r (endT T x y b) → (∀ kd i, ¬ (10 ≤ kd ∧ kd ≤ 12 ∧ i = t) → S1.1 kd i = S.1 kd i) → (∀ j, m ≤ j → S1.1 12 t j = S.1 12 t j) → S1.1 10 t 4 = S.1 10 t 4 + 1 → S1.1 10 t 5 = (bif b then S.1 10 t 5 else S.1 10 t 5 + prcF (T 3 y) (T 4 y)) → K S1) : wpX5_endAsking t (nI x) (nI y) (bI b) S K := by
  obtain ⟨⟨hm, hn, hr⟩, ⟨e0, e1, e2, e3⟩, fA, fC, fB⟩ := id h
  have vx : vp_in (nI x) 4 := vp_in_nI (by omega) (by omega)
  have vy : vp_in (nI y) 4 := vp_in_nI (by omega) (by omega)
  unfold wpX5_endAsking wbX5_endAsking_57
  cases b
  · rw [if_pos (show bI false = 0 by decide), nI_clamp (by omega), nI_clamp (by omega), (fA x hx).1]
    refine ⟨vx, vx, fun S3 e3' => ⟨vy, vy, sp_price (fun S7 e7 S9 e9 S10 e10 => ?_)⟩⟩
    have q13 : S3.1 13 t y = T 3 y := by rw [e3', sa_ne (by omega), (fC y hy).1]
    have q14 : S3.1 14 t y = T 4 y := by rw [e3', sa_ne (by omega), (fC y hy).2]
    rw [q13, q14] at e7
    have q2 : S7.1 10 t 2 = T 0 0 := by rw [e7, e3']; simp [sa_rd, upd_rd, e2]
    rw [q2] at e9
    refine k S10 ?_ (fun kd i w => ?_) (fun j hj => ?_) ?_ ?_
    · rw [e10, e9, e7, e3']
      exact RT_s4 (RT_10 (RT_s5 (RT_11 h)))
    · rw [e10, e9, e7, e3', sa_ne (by omega), sa_ne (by omega), sa_ne (by omega), sa_ne (by omega)]
    · rw [e10, e9, e7, e3', sa_ne (by omega), sa_ne (by omega), sa_ne (by omega), sa_ne (by omega)]
    · rw [e10, e9, e7, e3']; simp [sa_rd, upd_rd]
    · rw [e10, e9, e7, e3']; simp [sa_rd, upd_rd]
  · rw [if_neg (show ¬ bI true = 0 by decide), nI_clamp (by omega)]
    refine ⟨vx, fun S8 e8 S9 e9 S10 e10 => ?_⟩
    have q2 : S8.1 10 t 2 = T 0 0 := by rw [e8]; simp [sa_rd, e2]
    rw [q2] at e9
    refine k S10 ?_ (fun kd i w => ?_) (fun j hj => ?_) ?_ ?_
    · rw [e10, e9, e8]
      exact RT_s4 (RT_10 (RT_12 h))
    · rw [e10, e9, e8, sa_ne (by omega), sa_ne (by omega), sa_ne (by omega)]
    · rw [e10, e9, sa_ne (by omega), sa_ne (by omega), e8, su_nj (by omega)]
    · rw [e10, e9, e8]; simp [sa_rd, upd_rd]
    · rw [e10, e9, e8]; simp [sa_rd, upd_rd]
theorem mp_end {K : St → Prop} (h : RM S m n r T) (hV : VT m n T) (hm : m ≤ 4) (hn : n ≤ 4) (hx : x < m) (hy : y < n) (hb : b = true → T 2 x = -1 ∧ ∀ j, j < m → T 2 j ≠ nI y)
    (k : ∀ S1, RM S1 m n r (endT T x y b) → (∀ kd i, kd ≠ 40 → ¬ (46 ≤ kd ∧ kd ≤ 48) → S1.1 kd i = S.1 kd i) → (∀ j, j ≠ 16 → S1.1 40 0 j = S.1 40 0 j) → K S1) : wpX8_answers (nI x) (nI y) (bI (!b)) S K := by
  obtain ⟨⟨g0, g1, g2, g3⟩, gA, gC, gB⟩ := id h
  have vx : vp_in (nI x) 4 := vp_in_nI (by omega) (by omega)
  have vy : vp_in (nI y) 4 := vp_in_nI (by omega) (by omega)
  obtain ⟨k0, h0, e0⟩ := hV.1
  obtain ⟨j0, hj0, f0, f1, f2⟩ := monF_n h0
  have go : wbX8_answers_21 K (nI x) (nI y) (bI (!b)) (monF (T 0 0)) S := by
    intro S2 e2
    have m2 : RM S2 m n r (setT T 0 0 (monF (T 0 0))) := by rw [e2]; exact RM_m h
    have W2 : ∀ kd i, kd ≠ 40 → S2.1 kd i = S.1 kd i := fun kd i w => by rw [e2, sa_ne (by omega)]
    have W240 : ∀ j, j ≠ 16 → S2.1 40 0 j = S.1 40 0 j := fun j w => by rw [e2, su_nj w]
    cases b
    · rw [if_neg (show ¬ bI (!false) = 0 by decide), nI_clamp (by omega), W2 46 0 (by omega), (gA x hx).1]
      refine ⟨vx, ?_⟩
      obtain ⟨k1, h1, e1⟩ := hV.2.1 x hx
      obtain ⟨j1, hj1, p0, p1, p2⟩ := nosF_n h1
      have fin : wbX8_answers_57 K (nosF (T 1 x)) (nI x) S2 := by
        unfold wbX8_answers_57
        rw [nI_clamp (by omega)]
        refine ⟨vx, fun S9 e9 => k S9 ?_ (fun kd i w1 w2 => ?_) (fun j hj => ?_)⟩
        · have := RM_46 (x := x) (v := nosF (T 1 x)) m2
          rw [← e9, setT_comm (by omega)] at this
          exact this
        · rw [e9, sa_ne (by omega), W2 kd i w1]
        · rw [e9, sa_ne (by omega), W240 j hj]
      rw [e1] at fin ⊢
      by_cases w : (9 : Int32) ≤ nI k1
      · rw [if_pos w, ← p1 w]; exact fin
      · rw [if_neg w, ← p2 w]; exact ⟨vx, fin⟩
    · rw [if_pos (show bI (!true) = 0 by decide), nI_clamp (by omega), nI_clamp (by omega)]
      refine ⟨vx, fun S4 e4 => ⟨vy, fun S5 e5 => k S5 ?_ (fun kd i w1 w2 => ?_) (fun j hj => ?_)⟩⟩
      · have := RM_take (x := x) (y := y) m2 hm hn hx hy (by rw [setT_na (by omega)]; exact (hb rfl).1) (fun j hj => by rw [setT_na (by omega)]; exact (hb rfl).2 j hj)
        rw [← e4, ← e5, setT_comm (by omega)] at this
        exact this
      · rw [e5, e4, sa_ne (by omega), sa_ne (by omega), W2 kd i w1]
      · rw [e5, e4, sa_ne (by omega), sa_ne (by omega), W240 j hj]
  unfold wpX8_answers
  rw [g2]
  rw [e0] at go ⊢
  by_cases w : (99 : Int32) ≤ nI k0
  · rw [if_pos w, ← f1 w]; exact go
  · rw [if_neg w, ← f2 w]; exact go
theorem may_no (h : mayB m T x y = true) (hm : m ≤ 4) : T 2 x = -1 ∧ ∀ j, j < m → T 2 j ≠ nI y := by
  unfold mayB at h
  simp at h
  exact ⟨h.1.1, fun j hj => hus_none m 0 (by omega) h.1.2 j (by omega) (by omega)⟩
end
theorem bI_ff {b : Bool} {K : Int32 → St → Prop} {S : St} (k : K (bI b) S) : if bI b = 0 then K 0 S else K 1 S := by
  cases b
  · exact k
  · exact k
section
variable {S : St} {F : Int32 → St → Prop} {K : St → Prop} {a b c d e : Int32}
theorem call_told (R : Rel S) (hK : ∀ S1, Rel S1 → K S1) (hF : Hm F (wpX8_told a b c) K) : wpX7_told a b c S F := by
  obtain ⟨m, n, r, T, k, V, R⟩ := R
  have hR : Rel S := ⟨m, n, r, T, k, V, R⟩
  obtain ⟨hT, hJ, hM, hV, h2, hr, h3, h4, h5⟩ := id R
  obtain ⟨⟨hm, hn, _⟩, ⟨e0, e1, e2, e3⟩, fA, fC, fB⟩ := id hT
  obtain ⟨⟨g0, g1, g2, g3⟩, gA, gC, gB⟩ := id hM
  have hC := (h2.2.2 r hr).1
  unfold wpX7_told
  by_cases c1 : (∃ i, i < m ∧ a = nI i) ∧ ∃ i, i < n ∧ b = nI i
  · obtain ⟨⟨x, hx, rfl⟩, y, hy, rfl⟩ := id c1
    refine pair1 e0 e1 hm hn hx hy ?_
    rw [if_neg nfi]
    have vx : vp_in (nI x) 4 := vp_in_nI (by omega) (by omega)
    have vxy : vp_in (nI (4 * x + y)) 16 := vp_in_nI (ix4 hx hy hm hn) (by omega)
    by_cases cc : 0 ≤ c ∧ c ≤ 5
    · obtain ⟨i, _, hi, rfl⟩ := in_nI (a := 0) (b := 5) (by omega) cc (by omega)
      have md : ∀ v S1, fq S S1 → (∀ R1 : Rel' S1 m n r T k V, if (2 : Int32) ≤ nI i then (if nI i = 4 then (wpX8_worth (nI x) (nI y) S1 (fun r2 S2 => if v = r2 then K S2 else False)) else (if nI i = 2 then (wpX8_mayAsk (nI x) (nI y) S1 (fun r14 S14 => wbX8_told_116 (fun r2 S2 => if v = r2 then K S2 else False) r14 S14)) else (if nI i = 3 then (wpX8_saysNo (nI x) (nI y) (T 1 x) S1 (fun r13 S13 => wbX8_told_116 (fun r2 S2 => if v = r2 then K S2 else False) r13 S13)) else (wpX8_wants (nI x) (nI y) S1 (fun r11 S11 => wbX8_told_116 (fun r2 S2 => if v = r2 then K S2 else False) r11 S11))))) else (if nI i = 0 then (if v = T 5 (4 * x + y) then K S1 else False) else (if v = T 6 (4 * x + y) then K S1 else False))) → wpX8_told (nI x) (nI y) (nI i) S1 (fun r2 S2 => if v = r2 then K S2 else False) := by
        intro v S1 f hv
        have R1 := Rel_fq R f
        have hv := hv R1
        obtain ⟨⟨g0, g1, g2, g3⟩, gA, gC, gB⟩ := id R1.2.2.1
        unfold wpX8_told
        refine mman1 g0 hm hx ?_
        rw [if_neg nfi]
        refine mmaid1 g1 hn hy ?_
        rw [if_neg nfi]
        refine v1 cc ?_
        rw [if_neg nfi, at4, cl16 hx hy hm hn, nI_clamp (by omega), (gA x hx).1, (gB x y hx hy).1, (gB x y hx hy).2]
        rcases (show i = 0 ∨ i = 1 ∨ i = 2 ∨ i = 3 ∨ i = 4 ∨ i = 5 by omega) with rfl | rfl | rfl | rfl | rfl | rfl
        · rw [if_neg (by decide), if_pos (by decide)] at hv ⊢; exact ⟨vxy, hv⟩
        · rw [if_neg (by decide), if_neg (by decide)] at hv ⊢; exact ⟨vxy, hv⟩
        · rw [if_pos (by decide), if_neg (by decide), if_pos (by decide)] at hv ⊢; exact hv
        · rw [if_pos (by decide), if_neg (by decide), if_neg (by decide), if_pos (by decide)] at hv ⊢; exact ⟨vx, hv⟩
        · rw [if_pos (by decide), if_pos (by decide)] at hv ⊢; exact hv
        · rw [if_pos (by decide), if_neg (by decide), if_neg (by decide), if_neg (by decide)] at hv ⊢; exact hv
      rcases (show i = 0 ∨ i = 1 ∨ i = 2 ∨ i = 3 ∨ i = 4 ∨ i = 5 by omega) with rfl | rfl | rfl | rfl | rfl | rfl
      · rw [if_pos (by decide)]
        refine sp_at ⟨vxy, hF _ _ (md _ _ (fq_rfl _) (fun R1 => ?_))⟩
        rw [if_neg (by decide), if_pos (by decide), cl16 hx hy hm hn, (fB x y hx hy).1]
        exact same (hK _ hR)
      · rw [if_neg (by decide), if_pos (by decide)]
        refine sp_at ⟨vxy, hF _ _ (md _ _ (fq_rfl _) (fun R1 => ?_))⟩
        rw [if_neg (by decide), if_neg (by decide), cl16 hx hy hm hn, (fB x y hx hy).2]
        exact same (hK _ hR)
      · rw [if_neg (by decide), if_neg (by decide), if_pos (by decide)]
        refine sp_mayAsk hT hx hy (bI_ff (hF _ _ (md _ _ (fq_rfl _) (fun R1 => ?_))))
        rw [if_pos (by decide), if_neg (by decide), if_pos (by decide)]
        exact mp_mayAsk hM hm hn hx hy (bI_ff (K := fun r2 S2 => if bI (mayB m T x y) = r2 then K S2 else False) (same (hK _ hR)))
      · rw [if_neg (by decide), if_neg (by decide), if_neg (by decide), if_pos (by decide)]
        refine sp_saysNo hT hC hx hy (fun S1 f1 => bI_ff (hF _ _ (md _ _ f1 (fun R1 => ?_))))
        rw [if_pos (by decide), if_neg (by decide), if_neg (by decide), if_pos (by decide)]
        exact mp_saysNo R1.2.2.1 hV hm hn (R1.2.2.2.2.1.2.2 r hr).2 (hV.2.1 x hx) hx hy (fun S2 f2 => bI_ff (K := fun r2 S2 => if bI _ = r2 then K S2 else False) (same (hK _ ⟨m, n, r, T, k, V, Rel_fq R1 f2⟩)))
      · rw [if_neg (by decide), if_neg (by decide), if_neg (by decide), if_neg (by decide), if_pos (by decide)]
        refine sp_worth hT hC hx hy (fun S1 f1 => hF _ _ (md _ _ f1 (fun R1 => ?_)))
        rw [if_pos (by decide), if_pos (by decide)]
        exact mp_worth R1.2.2.1 hm hn (R1.2.2.2.2.1.2.2 r hr).2 hx hy (fun S2 f2 => same (hK _ ⟨m, n, r, T, k, V, Rel_fq R1 f2⟩))
      · rw [if_neg (by decide), if_neg (by decide), if_neg (by decide), if_neg (by decide), if_neg (by decide), if_pos (by decide)]
        refine sp_wants hT hC hx hy (fun S1 f1 => bI_ff (hF _ _ (md _ _ f1 (fun R1 => ?_))))
        rw [if_pos (by decide), if_neg (by decide), if_neg (by decide), if_neg (by decide)]
        exact mp_wants R1.2.2.1 hm hn (R1.2.2.2.2.1.2.2 r hr).2 hx hy (fun S2 f2 => bI_ff (K := fun r2 S2 => if bI _ = r2 then K S2 else False) (same (hK _ ⟨m, n, r, T, k, V, Rel_fq R1 f2⟩)))
    · have q : ∀ j : Nat, j ≤ 5 → ¬ c = nI j := fun j hj w => cc (by rw [w]; exact ⟨nI_pos' (by omega), nI_le (b := 5) hj (by omega)⟩)
      rw [if_neg (show ¬ c = 0 from q 0 (by omega)), if_neg (show ¬ c = 1 from q 1 (by omega)), if_neg (show ¬ c = 2 from q 2 (by omega)), if_neg (show ¬ c = 3 from q 3 (by omega)), if_neg (show ¬ c = 4 from q 4 (by omega)), if_neg (show ¬ c = 5 from q 5 (by omega))]
      refine hF _ _ ?_
      unfold wpX8_told
      refine mman1 g0 hm hx ?_
      rw [if_neg nfi]
      refine mmaid1 g1 hn hy ?_
      rw [if_neg nfi]
      refine v0 cc ?_
      rw [if_pos rfl]
      exact same (hK _ hR)
  · refine pair0 e0 e1 hm hn c1 ?_
    rw [if_pos rfl]
    refine hF _ _ ?_
    unfold wpX8_told
    by_cases c0 : ∃ i, i < m ∧ a = nI i
    · obtain ⟨x, hx, rfl⟩ := id c0
      refine mman1 g0 hm hx ?_
      rw [if_neg nfi]
      refine mmaid0 g1 hn (fun q => c1 ⟨c0, q⟩) ?_
      rw [if_pos rfl]
      exact same (hK _ hR)
    · refine mman0 g0 hm c0 ?_
      rw [if_pos rfl]
      exact same (hK _ hR)
theorem call_ask (R : Rel S) (hK : ∀ S1, Rel S1 → K S1) (hF : Hm F (wpX8_ask a b) K) : wpX7_ask a b S F := by
  obtain ⟨m, n, r, T, k, V, R⟩ := R
  have hR : Rel S := ⟨m, n, r, T, k, V, R⟩
  obtain ⟨hT, hJ, hM, hV, h2, hr, h3, h4, h5⟩ := id R
  obtain ⟨⟨hm, hn, _⟩, ⟨e0, e1, e2, e3⟩, fA, fC, fB⟩ := id hT
  obtain ⟨⟨g0, g1, g2, g3⟩, gA, gC, gB⟩ := id hM
  have hC := (h2.2.2 r hr).1
  unfold wpX7_ask
  by_cases c1 : (∃ i, i < m ∧ a = nI i) ∧ ∃ i, i < n ∧ b = nI i
  · obtain ⟨⟨x, hx, rfl⟩, y, hy, rfl⟩ := id c1
    refine pair1 e0 e1 hm hn hx hy ?_
    rw [if_neg nfi]
    have vx : vp_in (nI x) 4 := vp_in_nI (by omega) (by omega)
    refine sp_mayAsk hT hx hy (bI_if (fun w => hF _ _ ?_) (fun w => ?_))
    · unfold wpX8_ask
      refine mman1 g0 hm hx ?_
      rw [if_neg nfi]
      refine mmaid1 g1 hn hy ?_
      rw [if_neg nfi]
      refine mp_mayAsk hM hm hn hx hy (bI_if (fun w => same (hK _ hR)) (fun w2 => ?_))
      rw [w] at w2; cases w2
    · unfold wpX5_asking
      refine sp_saysNo hT hC hx hy (fun S1 f1 => ?_)
      have R1 := Rel_fq R f1
      have fin : ∀ v : Bool, v = (!noB (V r) T x y (T 1 x)) → wbX5_asking_14 0 (fun r5 S5 => if r5 = 0 then F 0 S5 else F 1 S5) (nI x) (nI y) (bI v) S1 := by
        intro v ev
        unfold wbX5_asking_14
        refine sp_end R1.1 hx hy (fun S2 t2 W2 J2 _ _ => ⟨by cases v <;> decide, bI_ff (hF _ _ ?_)⟩)
        have c2 : fc S1 S2 := fun kd i w => W2 kd i (by omega)
        have ft2 : ft S1 S2 := ⟨fun kd i w => W2 kd i (by unfold ct at w; omega), fun j _ => by rw [W2 40 0 (by omega)]⟩
        have m2 : RM S2 m n r T := RM_fc R1.2.2.1 c2
        have u2 : RuM S2 r (V r) := (R2_fr R1.2.2.2.2.1 ft2).2.2 r hr |>.2
        obtain ⟨⟨g0, g1, g2, g3⟩, gA, gC, gB⟩ := id m2
        unfold wpX8_ask
        refine mman1 g0 hm hx ?_
        rw [if_neg nfi]
        refine mmaid1 g1 hn hy ?_
        rw [if_neg nfi]
        refine mp_mayAsk m2 hm hn hx hy (bI_if (fun w2 => by rw [w] at w2; cases w2) (fun w2 => ⟨vx, ?_⟩))
        rw [nI_clamp (by omega), (gA x hx).1]
        refine mp_saysNo m2 hV hm hn u2 (hV.2.1 x hx) hx hy (fun S3 f3 => ?_)
        rw [show noB (V r) T x y (T 1 x) = !v by rw [ev, Bool.not_not]]
        refine mp_end (RM_fq m2 f3) hV hm hn hx hy (fun _ => may_no w hm) (fun S4 m4 W4 W40 => ?_)
        have key : Rel S4 := by
          have f34 : ft S3 S4 := ⟨fun kd i w => W4 kd i (by unfold ct at w; omega) (by unfold ct at w; omega), fun j hj => W40 j (by omega)⟩
          have fm34 : fm S3 S4 := fun kd i w => W4 kd i (by omega) (by omega)
          refine ⟨m, n, r, endT T x y v, k, V, Rel_t R1 (ft_tr ft2 (ft_tr (ft_fz (fz_fq f3)) f34)) (RT_fm (RT_fq t2 f3) fm34) ?_ m4 (VT_end hV hx hn (fun _ => ⟨hy, (may_no w hm).2⟩)) hr (Nat.le_refl n) (fun y _ => endT_na (by omega))⟩
          refine RJ_fm ((RJ_eq (fun kd a b => f3.1 kd 0 (by omega) (by omega) (by omega))).mpr ?_) fm34
          have hJ1 := R1.2.1
          refine ⟨fun x2 a2 b2 => by rw [J2 x2 a2]; exact hJ1.1 x2 a2 b2, fun x2 y2 a2 b2 c3 => ?_⟩
          rw [W2 15 0 (by omega), W2 16 0 (by omega)]
          exact hJ1.2 x2 y2 a2 b2 c3
        cases v
        · rw [if_neg (show ¬ bI (!false) = 0 by decide)]
          show if (0 : Int32) = 0 then _ else _
          exact same (hK _ key)
        · rw [if_pos (show bI (!true) = 0 by decide)]
          show if (1 : Int32) = 1 then _ else _
          exact same (hK _ key)
      cases w3 : noB (V r) T x y (T 1 x)
      · exact fin true (by rw [w3]; rfl)
      · exact fin false (by rw [w3]; rfl)
  · refine pair0 e0 e1 hm hn c1 ?_
    rw [if_pos rfl]
    refine hF _ _ ?_
    unfold wpX8_ask
    by_cases c0 : ∃ i, i < m ∧ a = nI i
    · obtain ⟨x, hx, rfl⟩ := id c0
      refine mman1 g0 hm hx ?_
      rw [if_neg nfi]
      refine mmaid0 g1 hn (fun q => c1 ⟨c0, q⟩) ?_
      rw [if_pos rfl]
      exact same (hK _ hR)
    · refine mman0 g0 hm c0 ?_
      rw [if_pos rfl]
      exact same (hK _ hR)
end
