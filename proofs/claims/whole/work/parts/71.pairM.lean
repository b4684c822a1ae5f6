/-! pairings: the reference's -/
def fg (S S1 : St) : Prop := (∀ kd i, kd ≠ 9 → kd ≠ 17 → kd ≠ 40 → ¬ (56 ≤ kd ∧ kd ≤ 59) → S1.1 kd i = S.1 kd i) ∧ ∀ j, (j < 17 ∨ 31 < j) → j ≠ 42 → j ≠ 43 → S1.1 40 0 j = S.1 40 0 j
theorem fg_rfl (S : St) : fg S S := ⟨fun _ _ _ _ _ _ => rfl, fun _ _ _ _ => rfl⟩
theorem fg_tr {S S1 S2 : St} (h : fg S S1) (g : fg S1 S2) : fg S S2 := ⟨fun kd i a b c d => (g.1 kd i a b c d).trans (h.1 kd i a b c d), fun j a b c => (g.2 j a b c).trans (h.2 j a b c)⟩
theorem fg_fq {S S1 : St} (h : fq S S1) : fg S S1 := ⟨fun kd i a b c _ => h.1 kd i a b c, fun j a _ _ => h.2 j a⟩
theorem fg_sa {S S1 : St} {kd i : Nat} {f : Nat → Int32} (h : fg S S1) (h1 : 56 ≤ kd := by omega) (h2 : kd ≤ 59 := by omega) : fg S (sa S1 kd i f) := fg_tr h ⟨fun kd2 i2 _ _ _ a => sa_ne (by omega), fun j _ _ _ => by rw [sa_ne (by omega)]⟩
theorem fg_40 {S S1 : St} {j : Nat} {v : Int32} (h : fg S S1) (hj : j = 42 ∨ j = 43 := by omega) : fg S (su S1 40 0 j v) := fg_tr h ⟨fun kd2 i2 _ _ a _ => sa_ne (by omega), fun k _ a b => su_nj (by omega)⟩
theorem fz_fg {S S1 : St} (h : fg S S1) : fz S S1 := ⟨fun kd i a => h.1 kd i (by unfold cz at a; omega) (by unfold cz at a; omega) (by unfold cz at a; omega) (by unfold cz at a; omega), fun j hj => h.2 j (by omega) (by omega) (by omega)⟩
theorem RM_fg {S S1 : St} {m n r : Nat} {T : Tn} (h : RM S m n r T) (f : fg S S1) : RM S1 m n r T := (RM_eq (fun kd a b => f.1 kd 0 (by omega) (by omega) (by omega) (by omega)) (fun j hj => f.2 j (by omega) (by omega) (by omega))).mpr h
def GA (S : St) (m n : Nat) (U : Rl) (T : Tn) (x y : Nat) : Prop := ∀ x2 y2, x2 < m → y2 < n → (x2 < x ∨ (x2 = x ∧ y2 < y)) → S.1 58 0 (4 * x2 + y2) = bI (NO U T x2 y2) ∧ S.1 59 0 (4 * x2 + y2) = WO U T x2 y2
section
variable {m n r : Nat} {T : Tn} {U : Rl}
theorem GA_fr {S S1 : St} {x y : Nat} (h : GA S m n U T x y) (a : S1.1 58 0 = S.1 58 0) (b : S1.1 59 0 = S.1 59 0) : GA S1 m n U T x y := by
  unfold GA at h ⊢
  rw [a, b]; exact h
theorem mp_ga_i {K : St → Prop} {R2 : Int32 → St → Prop} {x : Nat} (hm : m ≤ 4) (hn : n ≤ 4) (hV : VT m n T) (hx : x < m) : ∀ (d y : Nat) (S : St), y + d = n → RM S m n r T → RuM S r U → GA S m n U T x y → (∀ S1, RM S1 m n r T → RuM S1 r U → GA S1 m n U T (x + 1) 0 → fg S S1 → S1.1 56 0 = S.1 56 0 → R2 (nI (x + 1)) S1) → wbX8_gathers_12 R2 K (nI x) (d + 1) (nI y) S
  | 0, y, S, e, hT, hU, hW, k => by
    show if S.1 40 0 8 ≤ nI y then _ else _
    rw [hT.1.2.1, if_pos (nI_le (by omega) (by omega)), nI_1]
    exact k S hT hU (fun x2 y2 h1 h2 h3 => hW x2 y2 h1 h2 (by omega)) (fg_rfl S) rfl
  | d + 1, y, S, e, hT, hU, hW, k => by
    have vxy : vp_in (nI (4 * x + y)) 16 := vp_in_nI (by omega) (by omega)
    show if S.1 40 0 8 ≤ nI y then _ else _
    rw [hT.1.2.1, if_neg (nI_ge (by omega) (by omega)), nI_clamp (n := x) (by omega), (hT.2.1 x hx).1, at4, nI_1, nI_clamp (by omega)]
    refine ⟨vp_in_nI (by omega) (by omega), mp_saysNo hT hV hm hn hU (hV.2.1 x hx) hx (by omega) (fun S1 f1 => ⟨vxy, fun S2 e2 => ?_⟩)⟩
    rw [show vp_nar .boolean (bI (noB U T x y (T 1 x))) = bI (noB U T x y (T 1 x)) by cases noB U T x y (T 1 x) <;> decide] at e2
    have f2 : fg S S2 := by rw [e2]; exact fg_sa (fg_fq f1)
    refine mp_worth (RM_fg hT f2) hm hn (RuM_fz hU (fz_fg f2)) hx (by omega) (fun S3 f3 => ⟨vxy, fun S4 e4 => ?_⟩)
    have f4 : fg S S4 := by rw [e4]; exact fg_sa (fg_tr f2 (fg_fq f3))
    refine mp_ga_i hm hn hV hx d (y + 1) S4 (by omega) (RM_fg hT f4) (RuM_fz hU (fz_fg f4)) (fun x2 y2 h1 h2 h3 => ?_) (fun S5 a b c f g => k S5 a b c (fg_tr f4 f) (by rw [g, e4, sa_ne (by omega), f3.1 56 0 (by omega) (by omega) (by omega), e2, sa_ne (by omega), f1.1 56 0 (by omega) (by omega) (by omega)]))
    have c22 : S4.1 58 0 (4 * x2 + y2) = if 4 * x2 + y2 = 4 * x + y then bI (noB U T x y (T 1 x)) else S.1 58 0 (4 * x2 + y2) := by
      rw [e4, sa_ne (by omega), f3.1 58 0 (by omega) (by omega) (by omega), e2, sa_eq, upd_rd, f1.1 58 0 (by omega) (by omega) (by omega)]
    have c23 : S4.1 59 0 (4 * x2 + y2) = if 4 * x2 + y2 = 4 * x + y then worF U T x y else S.1 59 0 (4 * x2 + y2) := by
      rw [e4, sa_eq, upd_rd, f3.1 59 0 (by omega) (by omega) (by omega), e2, sa_ne (by omega), f1.1 59 0 (by omega) (by omega) (by omega)]
    rw [c22, c23]
    by_cases q : 4 * x2 + y2 = 4 * x + y
    · obtain rfl : x2 = x := by omega
      obtain rfl : y2 = y := by omega
      rw [if_pos rfl, if_pos rfl]
      exact ⟨rfl, rfl⟩
    · rw [if_neg q, if_neg q]
      exact hW x2 y2 h1 h2 (by omega)
theorem mp_ga_o {K : St → Prop} (hm : m ≤ 4) (hn : n ≤ 4) (hV : VT m n T) : ∀ (d x : Nat) (S : St), x + d = m → RM S m n r T → RuM S r U → GA S m n U T x 0 → (∀ S1, RM S1 m n r T → RuM S1 r U → GA S1 m n U T m 0 → fg S S1 → S1.1 56 0 = S.1 56 0 → K S1) → wbX8_gathers_2 K (d + 1) (nI x) S
  | 0, x, S, e, hT, hU, hW, k => by
    show if S.1 40 0 7 ≤ nI x then _ else _
    rw [hT.1.1, if_pos (nI_le (by omega) (by omega))]
    obtain rfl : x = m := by omega
    exact k S hT hU hW (fg_rfl S) rfl
  | d + 1, x, S, e, hT, hU, hW, k => by
    show if S.1 40 0 7 ≤ nI x then _ else _
    rw [hT.1.1, if_neg (nI_ge (by omega) (by omega))]
    exact ⟨n + 1, mp_ga_i hm hn hV (by omega) n 0 S (by omega) hT hU hW (fun S1 a b c f g => mp_ga_o hm hn hV d (x + 1) S1 (by omega) a b c (fun S2 a2 b2 c2 f2 g2 => k S2 a2 b2 c2 (fg_tr f f2) (g2.trans g)))⟩
theorem mp_gathers {S : St} {K : St → Prop} (hm : m ≤ 4) (hn : n ≤ 4) (hV : VT m n T) (hT : RM S m n r T) (hU : RuM S r U) (k : ∀ S1, RM S1 m n r T → RuM S1 r U → GA S1 m n U T m 0 → fg S S1 → S1.1 56 0 = S.1 56 0 → K S1) : wpX8_gathers S K :=
  ⟨m + 1, mp_ga_o hm hn hV m 0 S (by omega) hT hU (fun x2 y2 _ _ h => by omega) k⟩
def rng (m n : Nat) (w : Nat → Int32) : Prop := ∀ i, i < m → (w i = -1 ∨ ∃ y, y < n ∧ w i = nI y)
theorem mp_law {K : Int32 → St → Prop} {w : Nat → Int32} {S : St} (hm : m ≤ 4) (hn : n ≤ 4) (hw : rng m n w) (hT : RM S m n r T) (hG : GA S m n U T m 0) (h56 : ∀ i, i < m → S.1 56 0 i = w i) : ∀ (d x : Nat), x + d = m → K (bI (lawB (NO U T) w d x)) S → wbX8_isLawful_2 K (d + 1) (nI x) S
  | 0, x, e, k => by
    show if S.1 40 0 7 ≤ nI x then _ else _
    rw [hT.1.1, if_pos (nI_le (by omega) (by omega))]
    exact k
  | d + 1, x, e, k => by
    have vx : vp_in (nI x) 4 := vp_in_nI (by omega) (by omega)
    show if S.1 40 0 7 ≤ nI x then _ else _
    rw [hT.1.1, if_neg (nI_ge (by omega) (by omega)), nI_clamp (n := x) (by omega), h56 x (by omega)]
    unfold wbX8_isLawful_40
    rw [nI_1]
    unfold lawB at k
    refine ⟨vx, ?_⟩
    rcases hw x (by omega) with q | ⟨y, hy, q⟩
    · rw [if_pos q]
      rw [decide_eq_true q, cond_true, Bool.true_and] at k
      exact mp_law hm hn hw hT hG h56 d (x + 1) (by omega) k
    · have q1 : ¬ w x = -1 := by rw [q]; exact nI_nm1 (by omega)
      rw [if_neg q1, q, at4, nI_clamp (by omega), (hG x y (by omega) hy (by omega)).1]
      rw [decide_eq_false q1, cond_false, q, nI_clamp (by omega)] at k
      refine ⟨vx, vp_in_nI (by omega) (by omega), ?_⟩
      cases hN : NO U T x y
      · rw [if_pos (show bI false = 0 by decide)]
        rw [hN, Bool.not_false, Bool.true_and] at k
        exact mp_law hm hn hw hT hG h56 d (x + 1) (by omega) k
      · rw [if_neg (show ¬ bI true = 0 by decide)]
        rw [hN, Bool.not_true, Bool.false_and] at k
        exact k
theorem mp_mof {K : Int32 → St → Prop} {w : Nat → Int32} {S : St} {v : Int32} (hm : m ≤ 4) (hT : RM S m n r T) (h56 : ∀ i, i < m → S.1 56 0 i = w i) : ∀ (d i : Nat), i + d = m → K (husU w v d i) S → wbX8_manOf_2 K v (d + 1) (nI i) S
  | 0, i, e, k => by
    show if S.1 40 0 7 ≤ nI i then _ else _
    rw [hT.1.1, if_pos (nI_le (by omega) (by omega))]
    exact k
  | d + 1, i, e, k => by
    show if S.1 40 0 7 ≤ nI i then _ else _
    rw [hT.1.1, if_neg (nI_ge (by omega) (by omega)), nI_clamp (by omega), h56 i (by omega)]
    refine ⟨vp_in_nI (by omega) (by omega), ?_⟩
    unfold husU at k
    by_cases c : w i = v
    · rw [if_pos c] at k ⊢; exact k
    · rw [if_neg c] at k ⊢; rw [nI_1]; exact mp_mof hm hT h56 d (i + 1) (by omega) k
theorem hus_rg {w : Nat → Int32} {v : Int32} : ∀ d i, husU w v d i = -1 ∨ ∃ j, i ≤ j ∧ j < i + d ∧ husU w v d i = nI j
  | 0, _ => Or.inl rfl
  | d + 1, i => by
    unfold husU
    by_cases q : w i = v
    · rw [if_pos q]; exact Or.inr ⟨i, by omega, by omega, rfl⟩
    · rw [if_neg q]
      rcases hus_rg (w := w) (v := v) d (i + 1) with h | ⟨j, a, b, c⟩
      · exact Or.inl h
      · exact Or.inr ⟨j, by omega, by omega, c⟩
theorem mp_st_i {K : Int32 → St → Prop} {R11 : Int32 → St → Prop} {w : Nat → Int32} {S : St} {x : Nat} (hm : m ≤ 4) (hn : n ≤ 4) (hx : x < m) (hw : rng m n w) (hT : RM S m n r T) (hG : GA S m n U T m 0) (h56 : ∀ i, i < m → S.1 56 0 i = w i) : ∀ (d y : Nat), y + d = n → (if steI m (NO U T) (LO T) (HO T) w x d y = true then R11 (nI (x + 1)) S else K 0 S) → wbX8_isSteady_21 R11 K (nI x) (d + 1) (nI y) S
  | 0, y, e, k => by
    show if S.1 40 0 8 ≤ nI y then _ else _
    rw [hT.1.2.1, if_pos (nI_le (by omega) (by omega)), nI_1]
    rw [if_pos (show steI m (NO U T) (LO T) (HO T) w x 0 y = true from rfl)] at k
    exact k
  | d + 1, y, e, k => by
    have vx : vp_in (nI x) 4 := vp_in_nI (by omega) (by omega)
    have vxy : vp_in (nI (4 * x + y)) 16 := vp_in_nI (by omega) (by omega)
    show if S.1 40 0 8 ≤ nI y then _ else _
    rw [hT.1.2.1, if_neg (nI_ge (by omega) (by omega)), nI_clamp (n := x) (by omega), h56 x hx]
    unfold steI at k
    have body : ∀ her : Int32, her = herF m (HO T) w y → wbX8_isSteady_87 R11 (fun yx2 S9 => wbX8_isSteady_21 R11 K (nI x) (d + 1) yx2 S9) K (nI x) (nI y) (ownF (LO T) w x) her S := by
      intro her eh
      subst eh
      unfold wbX8_isSteady_87 wbX8_isSteady_143
      rw [nI_clamp (n := x) (by omega), h56 x hx, at4, nI_clamp (by omega), (hG x y hx (by omega) (by omega)).1, (hT.2.2.2 x y hx (by omega)).1, (hT.2.2.2 x y hx (by omega)).2, nI_1]
      refine ⟨vx, ?_⟩
      have go : (NO U T x y || decide (LO T x y ≤ ownF (LO T) w x) || decide (HO T x y ≤ herF m (HO T) w y)) = true → wbX8_isSteady_21 R11 K (nI x) (d + 1) (nI (y + 1)) S := by
        intro hq
        rw [hq, Bool.true_and] at k
        exact mp_st_i hm hn hx hw hT hG h56 d (y + 1) (by omega) k
      by_cases c0 : w x = nI y
      · rw [if_pos c0]
        refine go ?_
        have : LO T x y ≤ ownF (LO T) w x := by
          unfold ownF
          rw [if_neg (by rw [c0]; exact nI_nm1 (by omega)), c0, nI_clamp (by omega)]
          exact Int32.le_refl _
        rw [decide_eq_true this]; simp
      · rw [if_neg c0]
        refine ⟨vxy, ?_⟩
        cases hN : NO U T x y
        · rw [if_pos (show bI false = 0 by decide)]
          refine ⟨vxy, ?_⟩
          by_cases c1 : T 5 (4 * x + y) ≤ ownF (LO T) w x
          · rw [if_pos c1]; exact go (by rw [decide_eq_true (show LO T x y ≤ ownF (LO T) w x from c1)]; simp)
          · rw [if_neg c1]
            refine ⟨vxy, ?_⟩
            by_cases c2 : T 6 (4 * x + y) ≤ herF m (HO T) w y
            · rw [if_pos c2]; exact go (by rw [decide_eq_true (show HO T x y ≤ herF m (HO T) w y from c2)]; simp)
            · rw [if_neg c2]
              rw [hN, decide_eq_false (show ¬ LO T x y ≤ ownF (LO T) w x from c1), decide_eq_false (show ¬ HO T x y ≤ herF m (HO T) w y from c2)] at k
              simpa using k
        · rw [if_neg (show ¬ bI true = 0 by decide)]
          exact go (by rw [hN]; rfl)
    have mid : wbX8_isSteady_58 R11 (fun yx2 S9 => wbX8_isSteady_21 R11 K (nI x) (d + 1) yx2 S9) K (nI x) (nI y) (ownF (LO T) w x) S := by
      unfold wbX8_isSteady_58
      refine ⟨m + 1, mp_mof hm hT h56 m 0 (by omega) ?_⟩
      rcases hus_rg (w := w) (v := nI y) m 0 with q | ⟨j, _, hj, q⟩
      · rw [q, if_pos rfl]
        exact body _ (by unfold herF; rw [if_pos q])
      · rw [q, if_neg (nI_nm1 (by omega)), at4, nI_clamp (by omega), (hT.2.2.2 j y (by omega) (by omega)).2]
        exact ⟨vp_in_nI (by omega) (by omega), body _ (by unfold herF; rw [if_neg (by rw [q]; exact nI_nm1 (by omega)), q, nI_clamp (by omega)]; rfl)⟩
    refine ⟨vx, ?_⟩
    rcases hw x hx with q | ⟨y2, hy2, q⟩
    · rw [if_pos q]
      have : ownF (LO T) w x = -1 := by unfold ownF; rw [if_pos q]
      rw [this] at mid
      exact mid
    · have q1 : ¬ w x = -1 := by rw [q]; exact nI_nm1 (by omega)
      rw [if_neg q1, q, at4, nI_clamp (by omega), (hT.2.2.2 x y2 hx hy2).1]
      have : ownF (LO T) w x = T 5 (4 * x + y2) := by unfold ownF; rw [if_neg q1, q, nI_clamp (by omega)]; rfl
      rw [this] at mid
      exact ⟨vx, vp_in_nI (by omega) (by omega), mid⟩
theorem mp_st_o {K : Int32 → St → Prop} {w : Nat → Int32} {S : St} (hm : m ≤ 4) (hn : n ≤ 4) (hw : rng m n w) (hT : RM S m n r T) (hG : GA S m n U T m 0) (h56 : ∀ i, i < m → S.1 56 0 i = w i) : ∀ (d x : Nat), x + d = m → K (bI (steO m n (NO U T) (LO T) (HO T) w d x)) S → wbX8_isSteady_11 K (d + 1) (nI x) S
  | 0, x, e, k => by
    show if S.1 40 0 7 ≤ nI x then _ else _
    rw [hT.1.1, if_pos (nI_le (by omega) (by omega))]
    exact k
  | d + 1, x, e, k => by
    show if S.1 40 0 7 ≤ nI x then _ else _
    rw [hT.1.1, if_neg (nI_ge (by omega) (by omega))]
    unfold steO at k
    refine ⟨n + 1, mp_st_i hm hn (by omega) hw hT hG h56 n 0 (by omega) ?_⟩
    cases q : steI m (NO U T) (LO T) (HO T) w x n 0
    · rw [q] at k
      rw [if_neg (by decide)]; exact k
    · rw [q, Bool.true_and] at k
      rw [if_pos rfl]
      exact mp_st_o hm hn hw hT hG h56 d (x + 1) (by omega) k
theorem mp_steady {K : Int32 → St → Prop} {w : Nat → Int32} {S : St} (hm : m ≤ 4) (hn : n ≤ 4) (hw : rng m n w) (hT : RM S m n r T) (hG : GA S m n U T m 0) (h56 : ∀ i, i < m → S.1 56 0 i = w i) (k : K (bI (lawB (NO U T) w m 0 && steO m n (NO U T) (LO T) (HO T) w m 0)) S) : wpX8_isSteady S K := by
  refine ⟨m + 1, mp_law hm hn hw hT hG h56 m 0 (by omega) (bI_if (fun q => ?_) (fun q => ⟨m + 1, mp_st_o hm hn hw hT hG h56 m 0 (by omega) ?_⟩))⟩
  · rw [q] at k; exact k
  · rw [q, Bool.true_and] at k; exact k
theorem mp_lawful {K : Int32 → St → Prop} {w : Nat → Int32} {S : St} (hm : m ≤ 4) (hn : n ≤ 4) (hw : rng m n w) (hT : RM S m n r T) (hG : GA S m n U T m 0) (h56 : ∀ i, i < m → S.1 56 0 i = w i) (k : K (bI (lawB (NO U T) w m 0)) S) : wpX8_isLawful S K :=
  ⟨m + 1, mp_law hm hn hw hT hG h56 m 0 (by omega) k⟩
end
