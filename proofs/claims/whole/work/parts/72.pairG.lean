section
/-! pairings: the reference's rows; both sides -/
def PM (S : St) (m : Nat) (a : Pa) : Prop := S.1 40 0 42 = a.1 ∧ S.1 40 0 43 = a.2.1 ∧ (a.1 = 0 ∨ ∀ i, i < m → S.1 57 0 i = a.2.2 i)
def fh (S S1 : St) : Prop := (∀ kd i, kd ≠ 40 → kd ≠ 56 → kd ≠ 57 → S1.1 kd i = S.1 kd i) ∧ ∀ j, j ≠ 42 → j ≠ 43 → S1.1 40 0 j = S.1 40 0 j
theorem fh_rfl (S : St) : fh S S := ⟨fun _ _ _ _ _ => rfl, fun _ _ _ => rfl⟩
theorem fh_tr {S S1 S2 : St} (h : fh S S1) (g : fh S1 S2) : fh S S2 := ⟨fun kd i a b c => (g.1 kd i a b c).trans (h.1 kd i a b c), fun j a b => (g.2 j a b).trans (h.2 j a b)⟩
theorem fg_fh {S S1 : St} (h : fh S S1) : fg S S1 := ⟨fun kd i _ _ a b => h.1 kd i a (by omega) (by omega), fun j _ a b => h.2 j a b⟩
theorem PM_fr {S S1 : St} {m : Nat} {a : Pa} (h : PM S m a) (W : S1.1 40 0 = S.1 40 0) (W2 : S1.1 57 0 = S.1 57 0) : PM S1 m a := by
  unfold PM at h ⊢
  rw [W, W2]; exact h
theorem rng_m {x n : Nat} {w : Nat → Int32} (h : rng x n w) : rng (x + 1) n (upd w x (-1)) := fun i hi => by
  by_cases q : i = x
  · rw [q, pk_us]; exact Or.inl rfl
  · rw [upd_lt (by omega)]; exact h i (by omega)
theorem rng_y {x n y : Nat} {w : Nat → Int32} (hy : y < n) (h : rng x n w) : rng (x + 1) n (upd w x (nI y)) := fun i hi => by
  by_cases q : i = x
  · rw [q, pk_us]; exact Or.inr ⟨y, hy, rfl⟩
  · rw [upd_lt (by omega)]; exact h i (by omega)
theorem not_le_m1 {n : Nat} (h : n < 2 ^ 31) : ¬ nI n ≤ (-1 : Int32) := fun q => by
  have := Int32.le_iff_toInt_le.mp q
  rw [nI_toInt h, show (-1 : Int32).toInt = -1 from by decide] at this
  omega
section
variable {m n r : Nat} {T : Tn} {U : Rl}
theorem GA_fh {S S1 : St} {x y : Nat} (h : GA S m n U T x y) (f : fh S S1) : GA S1 m n U T x y := GA_fr h (f.1 58 0 (by omega) (by omega) (by omega)) (f.1 59 0 (by omega) (by omega) (by omega))
theorem mp_bp_l {F : Nat → Int32 → Int32 → Int32 → St → (St → Prop) → Prop} {K : St → Prop} {w : Nat → Int32} (hm : m ≤ 4) : ∀ (d i : Nat) (S : St), i + d = m → S.1 40 0 7 = nI m → (∀ j, j < m → S.1 56 0 j = w j) → (∀ j, j < i → S.1 57 0 j = w j) → (∀ S1, (∀ j, j < m → S1.1 57 0 j = w j) → (∀ kd i, kd ≠ 57 → S1.1 kd i = S.1 kd i) → K S1) → wbX8_pairs_124 F K (d + 1) (nI i) S
  | 0, i, S, e, h7, h56, h57, k => by
    show if S.1 40 0 7 ≤ nI i then _ else _
    rw [h7, if_pos (nI_le (by omega) (by omega))]
    exact k S (fun j hj => h57 j (by omega)) (fun _ _ _ => rfl)
  | d + 1, i, S, e, h7, h56, h57, k => by
    have vx : vp_in (nI i) 4 := vp_in_nI (by omega) (by omega)
    show if S.1 40 0 7 ≤ nI i then _ else _
    rw [h7, if_neg (nI_ge (by omega) (by omega)), nI_clamp (by omega), nI_1]
    refine ⟨vx, vx, fun S2 e2 => ?_⟩
    have W : ∀ kd i, kd ≠ 57 → S2.1 kd i = S.1 kd i := fun kd i q => by rw [e2, sa_ne (by omega)]
    refine mp_bp_l hm d (i + 1) S2 (by omega) (by rw [W 40 0 (by omega)]; exact h7) (fun j hj => by rw [W 56 0 (by omega)]; exact h56 j hj) (fun j hj => ?_) (fun S3 a3 W3 => k S3 a3 (fun kd i q => (W3 kd i q).trans (W kd i q)))
    by_cases q : j = i
    · rw [q, e2, su_eq]; exact h56 i (by omega)
    · rw [e2, su_nj q]; exact h57 j (by omega)
theorem mp_ent {F : Nat → Int32 → Int32 → Int32 → St → (St → Prop) → Prop} {K : St → Prop} {w : Nat → Int32} {S : St} {a : Pa} {v : Int32} (hm : m ≤ 4) (h7 : S.1 40 0 7 = nI m) (h56 : ∀ j, j < m → S.1 56 0 j = w j) (hA : PM S m a) (k : ∀ S1, PM S1 m (entP a v w) → fh S S1 → S1.1 56 0 = S.1 56 0 → K S1) :
    ∀ S13, S13 = su S 40 0 42 ((S.1 40 0 42) + 1) → if (S13.1 40 0 42) = 1 then (wbX8_pairs_115 F K v S13) else (if v ≤ (S13.1 40 0 43) then (K S13) else (wbX8_pairs_115 F K v S13)) := by
  intro S2 e2
  obtain ⟨h1, h2, h3⟩ := hA
  have a42 : S2.1 40 0 42 = a.1 + 1 := by rw [e2, su_eq, h1]
  have a43 : S2.1 40 0 43 = a.2.1 := by rw [e2, su_nj (by omega), h2]
  have W2 : ∀ kd i, kd ≠ 40 → S2.1 kd i = S.1 kd i := fun kd i q => by rw [e2, sa_ne (by omega)]
  have f2 : fh S S2 := ⟨fun kd i q _ _ => W2 kd i q, fun j q _ => by rw [e2, su_nj q]⟩
  have new : (a.1 = 0 ∨ ¬ v ≤ a.2.1) → wbX8_pairs_115 F K v S2 := by
    intro hq
    have ev : entP a v w = (a.1 + 1, v, w) := by
      unfold entP
      rcases hq with q | q
      · rw [decide_eq_true q]; rfl
      · rw [decide_eq_false q, Bool.not_false, Bool.or_true]; rfl
    rw [ev] at k
    intro S3 e3
    have W3 : ∀ kd i, kd ≠ 40 → S3.1 kd i = S.1 kd i := fun kd i q => by rw [e3, sa_ne (by omega)]; exact W2 kd i q
    have f3 : fh S S3 := fh_tr f2 ⟨fun kd i q _ _ => by rw [e3, sa_ne (by omega)], fun j _ q => by rw [e3, su_nj q]⟩
    refine ⟨m + 1, mp_bp_l hm m 0 S3 (by omega) (by rw [f3.2 7 (by omega) (by omega)]; exact h7) (fun j hj => by rw [W3 56 0 (by omega)]; exact h56 j hj) (fun j hj => by omega) (fun S4 a4 W4 => k S4 ⟨?_, ?_, Or.inr a4⟩ (fh_tr f3 ⟨fun kd i _ _ q => W4 kd i q, fun j _ _ => by rw [W4 40 0 (by omega)]⟩) (by rw [W4 56 0 (by omega), W3 56 0 (by omega)]))⟩
    · rw [W4 40 0 (by omega), e3, su_nj (by omega)]; exact a42
    · rw [W4 40 0 (by omega), e3, su_eq]
  rw [a42, a43]
  by_cases q1 : a.1 = 0
  · rw [q1, if_pos (show (0 : Int32) + 1 = 1 by decide)]; exact new (Or.inl q1)
  · have q1' : ¬ a.1 + 1 = 1 := fun q => q1 (by
      have := congrArg (· - 1) q
      simp only [Int32.add_sub_cancel] at this
      exact this.trans (by decide))
    rw [if_neg q1']
    by_cases q2 : v ≤ a.2.1
    · rw [if_pos q2]
      have ev : entP a v w = (a.1 + 1, a.2) := by
        unfold entP
        rw [decide_eq_false q1, decide_eq_true q2]; rfl
      rw [ev] at k
      refine k S2 ⟨a42, a43, ?_⟩ f2 (W2 56 0 (by omega))
      rcases h3 with h | h
      · exact absurd h q1
      · exact Or.inr (fun i hi => by rw [W2 57 0 (by omega)]; exact h i hi)
    · rw [if_neg q2]; exact new (Or.inr q2)
theorem mp_con {F : Nat → Int32 → Int32 → Int32 → St → (St → Prop) → Prop} {K : St → Prop} {w : Nat → Int32} {S : St} {a : Pa} (hm : m ≤ 4) (hn : n ≤ 4) (hw : rng m n w) (hT : RM S m n r T) (hG : GA S m n U T m 0) (h56 : ∀ i, i < m → S.1 56 0 i = w i) (hA : PM S m a) (k : ∀ S1, PM S1 m (entP a (conP (WO U T) w m) w) → fh S S1 → S1.1 56 0 = S.1 56 0 → K S1) : ∀ (d x : Nat), x + d = m → wbX8_pairs_36 F K (d + 1) (conP (WO U T) w x) (nI x) S
  | 0, x, e => by
    show if S.1 40 0 7 ≤ nI x then _ else _
    rw [hT.1.1, if_pos (nI_le (by omega) (by omega))]
    obtain rfl : x = m := by omega
    exact mp_ent hm hT.1.1 h56 hA k
  | d + 1, x, e => by
    have vx : vp_in (nI x) 4 := vp_in_nI (by omega) (by omega)
    have ih := mp_con (F := F) hm hn hw hT hG h56 hA k d (x + 1) (by omega)
    show if S.1 40 0 7 ≤ nI x then _ else _
    rw [hT.1.1, if_neg (nI_ge (by omega) (by omega)), nI_clamp (n := x) (by omega), h56 x (by omega)]
    unfold wbX8_pairs_79
    rw [nI_1]
    refine ⟨vx, ?_⟩
    rw [show conP (WO U T) w (x + 1) = if w x = -1 then conP (WO U T) w x else conP (WO U T) w x + WO U T x (w x).toNatClampNeg from rfl] at ih
    rcases hw x (by omega) with q | ⟨y, hy, q⟩
    · rw [if_pos q, Int32.add_zero]
      rw [if_pos q] at ih
      exact ih
    · have q1 : ¬ w x = -1 := by rw [q]; exact nI_nm1 (by omega)
      rw [if_neg q1, q, at4, nI_clamp (by omega), (hG x y (by omega) hy (by omega)).2]
      rw [if_neg q1, q, nI_clamp (by omega)] at ih
      exact ⟨vx, vp_in_nI (by omega) (by omega), ih⟩
theorem mp_pf {s : Nat} (hm : m ≤ 4) (hn : n ≤ 4) (hs : s < 2) : ∀ (d f x : Nat) (w : Nat → Int32) (k : Nat) (a : Pa) (S : St) (K : St → Prop), x + d = m → d < f → k < 16 → RM S m n r T → GA S m n U T m 0 → rng x n w → (∀ i, i < x → S.1 56 0 i = w i) → PM S m a →
    (∀ S1, (∀ i, i < x → S1.1 56 0 i = S.1 56 0 i) → PM S1 m (enu n (fun _ _ => true) (lfM m n (NO U T) (WO U T) (LO T) (HO T) s) d x w k a) → fh S S1 → K S1) → wpG5 f 0 (nI x) (nI s) (nI k) S K
  | d, 0, x, w, k, a, S, K, e, hf, _, _, _, _, _, _, _ => by omega
  | 0, f + 1, x, w, k, a, S, K, e, hf, hk, hT, hG, hP, h56, hA, kk => by
    obtain rfl : x = m := by omega
    show wpX8_pairs (wpG5 f) (nI x) (nI s) (nI k) S K
    unfold wpX8_pairs
    rw [hT.1.1, if_pos rfl]
    have ee : enu n (fun _ _ => true) (lfM x n (NO U T) (WO U T) (LO T) (HO T) s) 0 x w k a = lfM x n (NO U T) (WO U T) (LO T) (HO T) s w a := rfl
    rw [ee] at kk
    unfold lfM okM at kk
    have yes : (∀ S1, (∀ i, i < x → S1.1 56 0 i = S.1 56 0 i) → PM S1 x (entP a (conP (WO U T) w x) w) → fh S S1 → K S1) → wbX8_pairs_30 (wpG5 f) K S := fun q =>
      ⟨x + 1, mp_con hm hn hP hT hG h56 hA (fun S1 p1 f1 e1 => q S1 (fun i hi => by rw [e1]) p1 f1) x 0 (by omega)⟩
    rcases (show s = 0 ∨ s = 1 by omega) with rfl | rfl
    · rw [if_pos (show nI 0 = 0 from rfl)]
      rw [decide_eq_true rfl, cond_true, Bool.and_true] at kk
      refine mp_lawful hm hn hP hT hG h56 (bI_if (fun q => ?_) (fun q => ?_))
      · rw [q] at kk
        exact kk S (fun _ _ => rfl) hA (fh_rfl S)
      · rw [q] at kk
        exact yes kk
    · rw [if_neg (by decide)]
      rw [decide_eq_false (by decide), cond_false] at kk
      refine mp_steady hm hn hP hT hG h56 (bI_if (fun q => ?_) (fun q => ?_))
      · rw [q] at kk
        exact kk S (fun _ _ => rfl) hA (fh_rfl S)
      · rw [q] at kk
        exact yes kk
  | d + 1, f + 1, x, w, k, a, S, K, e, hf, hk, hT, hG, hP, h56, hA, kk => by
    have vx : vp_in (nI x) 4 := vp_in_nI (by omega) (by omega)
    show wpX8_pairs (wpG5 f) (nI x) (nI s) (nI k) S K
    unfold wpX8_pairs
    rw [hT.1.1, if_neg (fun q => by have := (nI_eq (by omega) (by omega)).mp q; omega)]
    rw [enu_s] at kk
    refine ⟨n + 2, ?_⟩
    show if S.1 40 0 8 ≤ (-1 : Int32) then _ else _
    rw [hT.1.2.1, if_neg (not_le_m1 (by omega)), if_pos rfl]
    unfold wbX8_pairs_181 wbX8_pairs_210 wbX8_pairs_213
    rw [nI_clamp (by omega), nI_1, show (-1 : Int32) + 1 = nI 0 by decide]
    refine ⟨vx, fun S2 e2 => ?_⟩
    rw [if_pos rfl]
    have f2 : fh S S2 := by rw [e2]; exact ⟨fun kd i _ q _ => sa_ne (by omega), fun j _ _ => by rw [sa_ne (by omega)]⟩
    have h562 : ∀ i, i < x + 1 → S2.1 56 0 i = upd w x (-1) i := fun i hi => by
      rw [e2, sa_eq, upd_rd, upd_rd]
      by_cases q : i = x
      · rw [if_pos q, if_pos q]
      · rw [if_neg q, if_neg q]; exact h56 i (by omega)
    refine mp_pf hm hn hs d f (x + 1) (upd w x (-1)) k a S2 _ (by omega) (by omega) hk (RM_fg hT (fg_fh f2)) (GA_fh hG f2) (rng_m hP) h562 (PM_fr hA (by rw [e2, sa_ne (by omega)]) (by rw [e2, sa_ne (by omega)])) (fun S3 c3 A3 f3 => ?_)
    have key : ∀ (e2 y : Nat) (a2 : Pa) (S4 : St), y + e2 = n → (∀ i, i < x → S4.1 56 0 i = w i) → PM S4 m a2 → fh S S4 → (∀ S1, (∀ i, i < x → S1.1 56 0 i = S.1 56 0 i) → PM S1 m (foldZ (eSt n (fun _ _ => true) (lfM m n (NO U T) (WO U T) (LO T) (HO T) s) d x w k) e2 y a2) → fh S S1 → K S1) → wbX8_pairs_157 (wpG5 f) K (nI x) (nI s) (nI k) (e2 + 1) (nI y) S4 := by
      intro e2
      induction e2 with
      | zero =>
        intro y a2 S4 ey h4 A4 f4 k4
        have t4 := RM_fg hT (fg_fh f4)
        show if S4.1 40 0 8 ≤ nI y then _ else _
        rw [t4.1.2.1, if_pos (nI_le (by omega) (by omega))]
        exact k4 S4 (fun i hi => by rw [h4 i hi, h56 i hi]) A4 f4
      | succ e2 ih =>
        intro y a2 S4 ey h4 A4 f4 k4
        have t4 := RM_fg hT (fg_fh f4)
        show if S4.1 40 0 8 ≤ nI y then _ else _
        rw [t4.1.2.1, if_neg (nI_ge (by omega) (by omega)), if_neg (nI_nm1 (by omega)), bt_c k hk y (by omega)]
        unfold wbX8_pairs_181 wbX8_pairs_210 wbX8_pairs_213
        rw [nI_1, nI_1]
        unfold foldZ at k4
        refine bI_if (fun w0 => ⟨vx, fun S5 e5 => ?_⟩) (fun w0 => ?_)
        · rw [nI_clamp (by omega)] at e5
          rw [if_neg (nI_nm1 (by omega))]
          have f5 : fh S S5 := fh_tr f4 (by rw [e5]; exact ⟨fun kd i _ q _ => sa_ne (by omega), fun j _ _ => by rw [sa_ne (by omega)]⟩)
          obtain ⟨o1, o2, _⟩ := bt_or k hk y (by omega)
          rw [o1]
          have es : eSt n (fun _ _ => true) (lfM m n (NO U T) (WO U T) (LO T) (HO T) s) d x w k y a2 = enu n (fun _ _ => true) (lfM m n (NO U T) (WO U T) (LO T) (HO T) s) d (x + 1) (upd w x (nI y)) (k ||| 2 ^ y) a2 := by
            unfold eSt
            simp [w0]
          rw [es] at k4
          refine mp_pf hm hn hs d f (x + 1) (upd w x (nI y)) (k ||| 2 ^ y) a2 S5 _ (by omega) (by omega) o2 (RM_fg hT (fg_fh f5)) (GA_fh hG f5) (rng_y (by omega) hP) (fun i hi => ?_) (PM_fr A4 (by rw [e5, sa_ne (by omega)]) (by rw [e5, sa_ne (by omega)])) (fun S6 c6 A6 f6 => ?_)
          · rw [e5, sa_eq, upd_rd, upd_rd]
            by_cases q : i = x
            · rw [if_pos q, if_pos q]
            · rw [if_neg q, if_neg q]; exact h4 i (by omega)
          · exact ih (y + 1) _ S6 (by omega) (fun i hi => by rw [c6 i (by omega), e5, sa_eq, upd_lt hi]; exact h4 i hi) A6 (fh_tr f5 f6) k4
        · have es : eSt n (fun _ _ => true) (lfM m n (NO U T) (WO U T) (LO T) (HO T) s) d x w k y a2 = a2 := by
            unfold eSt
            simp [w0]
          rw [es] at k4
          exact ih (y + 1) _ S4 (by omega) h4 A4 f4 k4
    refine key n 0 _ S3 (by omega) (fun i hi => ?_) A3 (fh_tr f2 f3) kk
    rw [c3 i (by omega), h562 i (by omega)]
    exact upd_lt hi
theorem allP_eq {s : Nat} (hs : s < 2) (hn : n ≤ 4) : enu n (fun _ _ => true) (lfM m n (NO U T) (WO U T) (LO T) (HO T) s) m 0 (fun _ => 0) 0 (0, 0, fun _ => 0) = prj s (allP m n U T) := by
  have := enu_eq (m := m) (n := n) (N := NO U T) (W := WO U T) (L := LO T) (H := HO T) hs hn m 0 (fun _ => 0) 0 ((0, 0, fun _ => 0), (0, 0, fun _ => 0)) (by omega) (fun i hi => by omega)
  unfold allP
  rw [← this]
  rcases (show s = 0 ∨ s = 1 by omega) with rfl | rfl <;> rfl
theorem mp_goes {s : Nat} {S : St} {K : Int32 → St → Prop} (hm : m ≤ 4) (hn : n ≤ 4) (hs : s < 2) (hV : VT m n T) (hT : RM S m n r T) (hU : RuM S r U) (k : ∀ S1, PM S1 m (prj s (allP m n U T)) → RM S1 m n r T → fg S S1 → K (prj s (allP m n U T)).1 S1) : wpX8_goes (nI s) S K := by
  unfold wpX8_goes
  refine mp_gathers hm hn hV hT hU (fun S1 t1 u1 g1 f1 _ => fun S2 e2 => fun S3 e3 => ?_)
  have f3 : fh S1 S3 := by rw [e3, e2]; exact ⟨fun kd i q _ _ => by rw [sa_ne (by omega), sa_ne (by omega)], fun j q w => by rw [su_nj w, su_nj q]⟩
  have p3 : PM S3 m (0, 0, fun _ => 0) := ⟨by rw [e3, su_nj (by omega), e2, su_eq], by rw [e3, su_eq], Or.inl rfl⟩
  refine mp_pf hm hn hs m 8 0 (fun _ => 0) 0 (0, 0, fun _ => 0) S3 _ (by omega) (by omega) (by omega) (RM_fg t1 (fg_fh f3)) (GA_fh g1 f3) (fun i hi => by omega) (fun i hi => by omega) p3 (fun S4 _ A4 f4 => ?_)
  rw [allP_eq hs hn] at A4
  rw [A4.1]
  exact k S4 A4 (RM_fg t1 (fg_fh (fh_tr f3 f4))) (fg_tr f1 (fg_fh (fh_tr f3 f4)))
end
end
