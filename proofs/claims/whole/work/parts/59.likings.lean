/-! likings: rows of a sheet in the abstract -/
noncomputable def likL (m n : Nat) (I : Nat → Int32) (z f : Nat) : Nat → Nat → Tn → Int32 → Int32 × Tn
  | 0, _, T, v => (v, T)
  | d + 1, k, T, v => if z < f + 4 * k + 4 then (-12, T) else
    @ite _ (likV m n (I (f + 4 * k)) (I (f + 4 * k + 1)) (I (f + 4 * k + 2)) (I (f + 4 * k + 3))) (Classical.propDecidable _) (likL m n I z f d (k + 1) (setT T (likI (I (f + 4 * k + 2))) (4 * (I (f + 4 * k)).toNatClampNeg + (I (f + 4 * k + 1)).toNatClampNeg) (I (f + 4 * k + 3))) (v + 1)) (likL m n I z f d (k + 1) T v)
theorem likL_VT {m n z f : Nat} {I : Nat → Int32} : ∀ d k T v, VT m n T → VT m n (likL m n I z f d k T v).2
  | 0, _, _, _, h => h
  | d + 1, k, T, v, h => by
    unfold likL
    by_cases c : z < f + 4 * k + 4
    · rw [if_pos c]; exact h
    · rw [if_neg c]
      by_cases q : likV m n (I (f + 4 * k)) (I (f + 4 * k + 1)) (I (f + 4 * k + 2)) (I (f + 4 * k + 3))
      · rw [if_pos q]; exact likL_VT d _ _ _ (VT_l h q.2.2)
      · rw [if_neg q]; exact likL_VT d _ _ _ h
theorem likL_3 {m n z f : Nat} {I : Nat → Int32} {y : Nat} : ∀ d k T v, (likL m n I z f d k T v).2 3 y = T 3 y
  | 0, _, _, _ => rfl
  | d + 1, k, T, v => by
    unfold likL
    by_cases c : z < f + 4 * k + 4
    · rw [if_pos c]
    · rw [if_neg c]
      by_cases q : likV m n (I (f + 4 * k)) (I (f + 4 * k + 1)) (I (f + 4 * k + 2)) (I (f + 4 * k + 3))
      · rw [if_pos q, likL_3 d, likI_3]
      · rw [if_neg q, likL_3 d]
theorem VT_lk {m n x y : Nat} {T : Tn} {c : Int32} (h : VT m n T) (hx : x < m) (hy : y < n) : ∃ i, i ≤ 99 ∧ T (likI c) (4 * x + y) = nI i := by
  unfold likI
  by_cases q : c = 0
  · rw [if_pos q]; exact h.2.2.2.2.1 x y hx hy
  · rw [if_neg q]; exact h.2.2.2.2.2.1 x y hx hy
theorem nI_n2 {j : Nat} (h : j < 2 ^ 31) : nI j ≠ -2 := by
  intro q
  have := congrArg Int32.toInt q
  rw [nI_toInt h, show (-2 : Int32).toInt = -2 from by decide] at this
  omega
theorem nI_p2 (a : Nat) : nI a + 2 = nI (a + 2) := nI_add a 2
theorem nI_p3 (a : Nat) : nI a + 3 = nI (a + 3) := nI_add a 3
theorem sp_lik_l {m n r q z f c : Nat} {I : Nat → Int32} (hz : z ≤ 40) (hc : c ≤ 10) : ∀ (d k : Nat) (T : Tn) (v : Int32) (S : St) (K : Int32 → St → Prop), k + d = c → f + 4 * k < 2 ^ 31 → VT m n T → RT S 0 m n r T → RJ S 0 m n → S.1 30 q 1 = nI z → (∀ j, j < z → S.1 31 q j = I j) →
    (∀ S1, RT S1 0 m n r (likL m n I z f d k T v).2 → RJ S1 0 m n → fc S S1 → ft S S1 → K (likL m n I z f d k T v).1 S1) → wbX7_likings_67 K (nI f) (nI c) q (d + 1) v (nI k) S
  | 0, k, T, v, S, K, e, hf, hV, hT, hJ, h1, hI, kk => by
    show if nI c ≤ nI k then _ else _
    rw [if_pos (nI_le (by omega) (by omega))]
    exact kk S hT hJ (fc_rfl _) (ft_rfl _)
  | d + 1, k, T, v, S, K, e, hf, hV, hT, hJ, h1, hI, kk => by
    show if nI c ≤ nI k then _ else _
    rw [if_neg (nI_ge (by omega) (by omega))]
    have e4 : nI f + 4 * nI k = nI (f + 4 * k) := by rw [lit32 4, pk_mul, nI_add]
    unfold wpX4_holds
    rw [e4, h1, if_neg (nI_pos hf), if_neg (by decide)]
    unfold likL at kk
    by_cases c1 : z < f + 4 * k + 4
    · rw [if_pos c1] at kk
      rw [if_pos (by rw [lit32 4, sub_lt_iff (by omega) (by omega) hf]; omega)]
      show if (0 : Int32) = 0 then _ else _
      rw [if_pos rfl]
      exact kk S hT hJ (fc_rfl _) (ft_rfl _)
    · rw [if_neg c1] at kk
      rw [if_neg (by rw [lit32 4, sub_lt_iff (by omega) (by omega) hf]; omega)]
      show if (1 : Int32) = 0 then _ else _
      rw [if_neg nfi, nI_1, nI_p2, nI_p3, nI_clamp (by omega), nI_clamp (by omega), nI_clamp (by omega), nI_clamp (by omega), hI _ (by omega), hI _ (by omega), hI _ (by omega), hI _ (by omega)]
      refine ⟨vp_in_nI (by omega) (by omega), vp_in_nI (by omega) (by omega), vp_in_nI (by omega) (by omega), vp_in_nI (by omega) (by omega), ?_⟩
      unfold wbX7_likings_141
      by_cases c2 : likV m n (I (f + 4 * k)) (I (f + 4 * k + 1)) (I (f + 4 * k + 2)) (I (f + 4 * k + 3))
      · rw [if_pos c2] at kk
        obtain ⟨⟨⟨x, hx, ex⟩, y, hy, ey⟩, q1, q2⟩ := c2
        rw [ex, ey, nI_clamp (by have := hT.1; omega), nI_clamp (by have := hT.1; omega)] at kk
        rw [ex, ey]
        refine sp_likes hT hJ hx hy q1 q2 (fun S1 t1 j1 f1 f2 => ?_)
        obtain ⟨i, hi, ei⟩ := VT_lk (c := I (f + 4 * k + 2)) hV hx hy
        rw [ei, if_neg (nI_n2 (by omega)), nI_1]
        refine sp_lik_l hz hc d (k + 1) _ _ S1 K (by omega) (by omega) (VT_l hV q2) t1 j1 (by rw [f2.1 30 q (by unfold ct; omega), h1]) (fun j hj => by rw [f2.1 31 q (by unfold ct; omega), hI j hj]) (fun S2 a b c d => kk S2 a b (fc_tr f1 c) (ft_tr f2 d))
      · rw [if_neg c2] at kk
        refine sp_likes0 hT c2 ?_
        rw [if_pos rfl, nI_1]
        exact sp_lik_l hz hc d (k + 1) _ _ S K (by omega) (by omega) hV hT hJ h1 hI kk
theorem mp_lik_l {m n r q z f c : Nat} {I : Nat → Int32} (hm : m ≤ 4) (hn : n ≤ 4) (hq : q < 4) (hz : z ≤ 40) (hc : c ≤ 10) : ∀ (d k : Nat) (T : Tn) (v : Int32) (S : St) (K : Int32 → St → Prop), k + d = c → f + 4 * k < 2 ^ 31 → VT m n T → RM S m n r T → S.1 66 0 q = nI z → (∀ j, j < z → S.1 67 0 (40 * q + j) = I j) →
    (∀ S1, RM S1 m n r (likL m n I z f d k T v).2 → fm S S1 → ft S S1 → K (likL m n I z f d k T v).1 S1) → wbX8_likings_75 K (nI q) (nI f) (nI c) (d + 1) v (nI k) S
  | 0, k, T, v, S, K, e, hf, hV, hT, h1, hI, kk => by
    show if nI c ≤ nI k then _ else _
    rw [if_pos (nI_le (by omega) (by omega))]
    exact kk S hT (fm_rfl _) (ft_rfl _)
  | d + 1, k, T, v, S, K, e, hf, hV, hT, h1, hI, kk => by
    show if nI c ≤ nI k then _ else _
    rw [if_neg (nI_ge (by omega) (by omega)), if_neg (nI_pos (by omega)), nI_clamp (by omega), h1]
    refine ⟨vp_in_nI (by omega) (by omega), ?_⟩
    unfold likL at kk
    by_cases c1 : z < f + 4 * k + 4
    · rw [if_pos c1] at kk
      rw [if_neg]
      · exact kk S hT (fm_rfl _) (ft_rfl _)
      · rw [lit32 4, pk_mul, Int32.sub_sub, nI_add, le_sub_iff (by omega) (by omega) (by omega)]; omega
    · rw [if_neg c1] at kk
      rw [if_pos (by rw [lit32 4, pk_mul, Int32.sub_sub, nI_add, le_sub_iff (by omega) (by omega) (by omega)]; omega)]
      rw [at40, lit32 4, pk_mul, nI_add, nI_1, nI_p2, nI_p3, nI_clamp (by omega), nI_clamp (by omega), nI_clamp (by omega), nI_clamp (by omega)]
      rw [show 40 * q + f + 4 * k + 1 = 40 * q + (f + 4 * k + 1) by omega, show 40 * q + f + 4 * k + 2 = 40 * q + (f + 4 * k + 2) by omega, show 40 * q + f + 4 * k + 3 = 40 * q + (f + 4 * k + 3) by omega, show 40 * q + f + 4 * k = 40 * q + (f + 4 * k) by omega]
      rw [hI _ (by omega), hI _ (by omega), hI _ (by omega), hI _ (by omega)]
      refine ⟨vp_in_nI (by omega) (by omega), vp_in_nI (by omega) (by omega), vp_in_nI (by omega) (by omega), vp_in_nI (by omega) (by omega), ?_⟩
      unfold wbX8_likings_167
      by_cases c2 : likV m n (I (f + 4 * k)) (I (f + 4 * k + 1)) (I (f + 4 * k + 2)) (I (f + 4 * k + 3))
      · rw [if_pos c2] at kk
        obtain ⟨⟨⟨x, hx, ex⟩, y, hy, ey⟩, q1, q2⟩ := c2
        rw [ex, ey, nI_clamp (by omega), nI_clamp (by omega)] at kk
        rw [ex, ey]
        refine mp_likes hT hm hn hx hy q1 q2 (fun S1 t1 f1 f2 => ?_)
        obtain ⟨i, hi, ei⟩ := VT_lk (c := I (f + 4 * k + 2)) hV hx hy
        rw [ei, if_neg (nI_pos (by omega)), nI_1]
        refine mp_lik_l hm hn hq hz hc d (k + 1) _ _ S1 K (by omega) (by omega) (VT_l hV q2) t1 (by rw [f2.1 66 0 (by unfold ct; omega), h1]) (fun j hj => by rw [f2.1 67 0 (by unfold ct; omega), hI j hj]) (fun S2 a c d => kk S2 a (fm_tr f1 c) (ft_tr f2 d))
      · rw [if_neg c2] at kk
        refine mp_likes0 hT hm hn c2 ?_
        rw [if_pos (by decide), nI_1, Int32.add_zero]
        exact mp_lik_l hm hn hq hz hc d (k + 1) _ _ S K (by omega) (by omega) hV hT h1 hI kk
section
variable {S : St} {F : Int32 → St → Prop} {K : St → Prop} {a b c d e : Int32}
theorem call_likings (R : Rel S) (hK : ∀ S1, Rel S1 → K S1) (hF : Hm F (wpX8_likings a b c d) K) : wpX7_likings a b c d S F := by
  obtain ⟨m, n, r, T, k, V, R⟩ := R
  have hR : Rel S := ⟨m, n, r, T, k, V, R⟩
  obtain ⟨hT, hJ, hM, hV, h2, hr, h3, h4, h5⟩ := id R
  have hm := hT.1.1
  have hn := hT.1.2.1
  unfold wpX7_likings
  by_cases ca : 0 ≤ a ∧ a ≤ 3
  · refine s1 ca ?_
    rw [if_neg nfi]
    obtain ⟨q, hq, rfl⟩ := sht ca
    have vq : vp_in (nI q) 4 := vp_in_nI hq (by omega)
    by_cases cb : 0 ≤ b ∧ b ≤ 2
    · refine w1 cb ?_
      rw [if_neg nfi]
      by_cases cd : 0 ≤ d ∧ d ≤ 10
      · refine w1 cd ?_
        rw [if_neg nfi]
        refine ⟨vq, ?_⟩
        unfold wpX4_isMissing
        rw [nI_clamp (by omega)]
        have md : ∀ (v : Int32) (S1 : St), (if (S1.1 64 0 q) = 0 then (if v = (-11) then K S1 else False) else (if (S1.1 65 0 q) = b then (∃ k, wbX8_likings_75 (fun r2 S2 => if v = r2 then K S2 else False) (nI q) c d k 0 0 S1) else (if v = (-13) then K S1 else False))) → wpX8_likings (nI q) b c d S1 (fun r2 S2 => if v = r2 then K S2 else False) := by
          intro v S1 hv
          unfold wpX8_likings
          refine ms1 ca ?_
          rw [if_neg nfi]
          refine v1 cb ?_
          rw [if_neg nfi]
          refine v1 cd ?_
          unfold wbX8_likings_57
          rw [if_neg nfi, nI_clamp (by omega)]
          refine ⟨vq, ?_⟩
          by_cases w1 : S1.1 64 0 q = 0
          · rw [if_pos w1] at hv ⊢; rw [if_pos w1]; exact ⟨vq, hv⟩
          · rw [if_neg w1] at hv ⊢
            refine ⟨vq, ?_⟩
            by_cases w2 : S1.1 65 0 q = b
            · rw [if_pos w2] at hv ⊢; rw [if_neg w1]; exact ⟨vq, hv⟩
            · rw [if_neg w2] at hv ⊢; exact hv
        rcases h5 q hq with ⟨u1, u2⟩ | ⟨so, z, u0, u1, u2, u3, u4, u5, u6, u7⟩
        · rw [u1, if_pos rfl]
          show if (1 : Int32) = 0 then _ else _
          rw [if_neg nfi]
          refine hF _ _ (md _ _ ?_)
          rw [u2, if_pos rfl]
          exact same (hK _ hR)
        rw [u2, if_neg (nI_nm1 (by omega))]
        show if (0 : Int32) = 0 then _ else _
        rw [if_pos rfl, u2]
        by_cases cs : nI so = b
        · rw [if_pos cs]
          obtain ⟨nd, _, hnd, rfl⟩ := in_nI (a := 0) (b := 10) (by omega) cd (by omega)
          by_cases c0 : c < 0
          · rcases Nat.eq_zero_or_pos nd with w | w
            · subst w
              refine ⟨1, ?_⟩
              show if nI 0 ≤ (0 : Int32) then _ else _
              rw [if_pos (by decide)]
              refine hF _ _ (md _ _ ?_)
              rw [u3, if_neg nfi, u4, if_pos cs]
              refine ⟨1, ?_⟩
              show if nI 0 ≤ (0 : Int32) then _ else _
              rw [if_pos (by decide)]
              exact same (hK _ hR)
            · refine ⟨1, ?_⟩
              show if nI nd ≤ (0 : Int32) then _ else _
              rw [if_neg (nI_nle w (by omega))]
              unfold wpX4_holds
              rw [show c + 4 * 0 = c from Int32.add_zero c, if_pos c0]
              show if (0 : Int32) = 0 then _ else _
              rw [if_pos rfl]
              refine hF _ _ (md _ _ ?_)
              rw [u3, if_neg nfi, u4, if_pos cs]
              refine ⟨1, ?_⟩
              show if nI nd ≤ (0 : Int32) then _ else _
              rw [if_neg (nI_nle w (by omega)), if_pos c0]
              exact same (hK _ hR)
          · obtain ⟨f, hf, rfl⟩ := nI_of c0
            refine ⟨nd + 1, sp_lik_l (I := S.1 31 q) u1 hnd nd 0 T 0 S F (by omega) (by omega) hV hT hJ u5 (fun _ _ => rfl) (fun S1 t1 j1 f1 f2 => hF _ _ (md _ _ ?_))⟩
            rw [f1 64 0 (by omega), f1 65 0 (by omega), u3, if_neg nfi, u4, if_pos cs]
            refine ⟨nd + 1, mp_lik_l (I := S.1 31 q) hm hn hq u1 hnd nd 0 T 0 S1 _ (by omega) (by omega) hV (RM_fc hM f1) (by rw [f1 66 0 (by omega), u6]) (fun j hj => by rw [f1 67 0 (by omega), u7 j hj]) (fun S2 t2 g1 g2 => same (hK _ ?_))⟩
            exact ⟨m, n, r, _, k, V, Rel_t R (ft_tr f2 g2) (RT_fm t1 g1) (RJ_fm j1 g1) t2 (likL_VT _ _ _ _ hV) hr (Nat.le_refl n) (fun y _ => likL_3 _ _ _ _)⟩
        · rw [if_neg cs]
          refine hF _ _ (md _ _ ?_)
          rw [u3, if_neg nfi, u4, if_neg cs]
          exact same (hK _ hR)
      · refine w0 cd ?_
        rw [if_pos rfl]
        refine hF _ _ ?_
        unfold wpX8_likings
        refine ms1 ca ?_
        rw [if_neg nfi]
        refine v1 cb ?_
        rw [if_neg nfi]
        refine v0 cd ?_
        rw [if_pos rfl]
        exact same (hK _ hR)
    · refine w0 cb ?_
      rw [if_pos rfl]
      refine hF _ _ ?_
      unfold wpX8_likings
      refine ms1 ca ?_
      rw [if_neg nfi]
      refine v0 cb ?_
      rw [if_pos rfl]
      exact same (hK _ hR)
  · refine s0 ca ?_
    rw [if_pos rfl]
    refine hF _ _ ?_
    unfold wpX8_likings
    refine ms0 ca ?_
    rw [if_pos rfl]
    exact same (hK _ hR)
end
