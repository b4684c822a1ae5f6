/-! pairings: the class's -/
def fu (S S1 : St) : Prop := fk S S1 ∧ ∀ kd i, 10 ≤ kd → kd ≤ 16 → S1.1 kd i = S.1 kd i
theorem fu_rfl (S : St) : fu S S := ⟨fk_rfl S, fun _ _ _ _ => rfl⟩
theorem fu_tr {S S1 S2 : St} (h : fu S S1) (g : fu S1 S2) : fu S S2 := ⟨fk_tr h.1 g.1, fun kd i a b => (g.2 kd i a b).trans (h.2 kd i a b)⟩
theorem fu_fq {S S1 : St} (h : fq S S1) : fu S S1 := ⟨fk_fq h, fun kd i a b => h.1 kd i (by omega) (by omega) (by omega)⟩
theorem fu_sa {S S1 : St} {kd i : Nat} {f : Nat → Int32} (h : fu S S1) (h1 : 18 ≤ kd := by omega) (h2 : kd ≤ 28 := by omega) : fu S (sa S1 kd i f) := ⟨fk_sa h.1 (by unfold cz; omega) (by omega), fun kd2 i2 a b => by rw [sa_ne (by omega)]; exact h.2 kd2 i2 a b⟩
theorem RT_fu {S S1 : St} {t m n r : Nat} {T : Tn} (h : RT S t m n r T) (g : fu S S1) : RT S1 t m n r T := RT_fr h (fun kd a b => g.2 kd t a b)
def NO (U : Rl) (T : Tn) : Bm := fun x y => noB U T x y (T 1 x)
def WO (U : Rl) (T : Tn) : Im := fun x y => worF U T x y
def LO (T : Tn) : Im := fun x y => T 5 (4 * x + y)
def HO (T : Tn) : Im := fun x y => T 6 (4 * x + y)
/-- weighed up to x, y -/
def WG (S : St) (m n : Nat) (U : Rl) (T : Tn) (x y : Nat) : Prop := ∀ x2 y2, x2 < m → y2 < n → (x2 < x ∨ (x2 = x ∧ y2 < y)) → S.1 22 0 (4 * x2 + y2) = bI (!NO U T x2 y2) ∧ S.1 23 0 (4 * x2 + y2) = WO U T x2 y2
section
variable {t m n r : Nat} {T : Tn} {U : Rl}
theorem WG_q {S S1 : St} {x y : Nat} (h : WG S m n U T x y) (f : fq S S1) : WG S1 m n U T x y := by
  unfold WG at h ⊢
  rw [f.1 22 0 (by omega) (by omega) (by omega), f.1 23 0 (by omega) (by omega) (by omega)]
  exact h
theorem sp_we_i {K : St → Prop} {R2 : Int32 → St → Prop} {x : Nat} (hx : x < m) : ∀ (d y : Nat) (S : St), y + d = n → RT S t m n r T → RuC S r U → WG S m n U T x y → (∀ S1, RT S1 t m n r T → RuC S1 r U → WG S1 m n U T (x + 1) 0 → fu S S1 → R2 (nI (x + 1)) S1) → wbX1_weigh_12 t R2 K (nI x) (d + 1) (nI y) S
  | 0, y, S, e, hT, hU, hW, k => by
    have hn := hT.1.2.1
    show if S.1 10 t 1 ≤ nI y then _ else _
    rw [hT.2.1.2.1, if_pos (nI_le (by omega) (by omega)), nI_1]
    exact k S hT hU (fun x2 y2 h1 h2 h3 => hW x2 y2 h1 h2 (by omega)) (fu_rfl S)
  | d + 1, y, S, e, hT, hU, hW, k => by
    have hm := hT.1.1
    have hn := hT.1.2.1
    have vxy : vp_in (nI (4 * x + y)) 16 := vp_in_nI (by omega) (by omega)
    show if S.1 10 t 1 ≤ nI y then _ else _
    rw [hT.2.1.2.1, if_neg (nI_ge (by omega) (by omega))]
    refine sp_at (sp_saysNo hT hU hx (by omega) (fun S1 f1 => ?_))
    have go : ∀ v : Bool, v = (!NO U T x y) → wbX1_weigh_43 t R2 (fun yx3 S9 => wbX1_weigh_12 t R2 K (nI x) (d + 1) yx3 S9) K (nI x) (nI y) (bI v) (nI (4 * x + y)) S1 := by
      intro v ev
      unfold wbX1_weigh_43
      rw [nI_clamp (by omega), nI_1, show vp_nar .boolean (bI v) = bI v by cases v <;> decide]
      refine ⟨vxy, fun S2 e2 => sp_at ?_⟩
      have t2 : RT S2 t m n r T := by rw [e2]; exact RT_fr (RT_fq hT f1) (fun kd a b => sa_ne (by omega))
      have u2 : RuC S2 r U := by rw [e2]; exact RuC_fr (RuC_fq hU f1) (sa_ne (by omega)) (sa_ne (by omega))
      refine sp_worth t2 u2 hx (by omega) (fun S3 f3 => ⟨vxy, fun S4 e4 => ?_⟩)
      rw [nI_clamp (by omega)] at e4
      have fS4 : fu S S4 := by rw [e4]; exact fu_sa (fu_tr (by rw [e2]; exact fu_sa (fu_fq f1)) (fu_fq f3))
      refine sp_we_i hx d (y + 1) S4 (by omega) (RT_fu hT fS4) (RuC_fz hU fS4.1.1) (fun x2 y2 h1 h2 h3 => ?_) (fun S5 a b c f => k S5 a b c (fu_tr fS4 f))
      have c22 : S4.1 22 0 (4 * x2 + y2) = if 4 * x2 + y2 = 4 * x + y then bI v else S.1 22 0 (4 * x2 + y2) := by
        rw [e4, sa_ne (by omega), f3.1 22 0 (by omega) (by omega) (by omega), e2, sa_eq, upd_rd, f1.1 22 0 (by omega) (by omega) (by omega)]
      have c23 : S4.1 23 0 (4 * x2 + y2) = if 4 * x2 + y2 = 4 * x + y then worF U T x y else S.1 23 0 (4 * x2 + y2) := by
        rw [e4, sa_eq, upd_rd, f3.1 23 0 (by omega) (by omega) (by omega), e2, sa_ne (by omega), f1.1 23 0 (by omega) (by omega) (by omega)]
      rw [c22, c23]
      by_cases q : 4 * x2 + y2 = 4 * x + y
      · obtain rfl : x2 = x := by omega
        obtain rfl : y2 = y := by omega
        rw [if_pos rfl, if_pos rfl, ev]
        exact ⟨rfl, rfl⟩
      · rw [if_neg q, if_neg q]
        exact hW x2 y2 h1 h2 (by omega)
    cases w : noB U T x y (T 1 x)
    · exact go true (by unfold NO; rw [w]; rfl)
    · exact go false (by unfold NO; rw [w]; rfl)
theorem sp_we_o {K : St → Prop} : ∀ (d x : Nat) (S : St), x + d = m → RT S t m n r T → RuC S r U → WG S m n U T x 0 → (∀ S1, RT S1 t m n r T → RuC S1 r U → WG S1 m n U T m 0 → fu S S1 → K S1) → wbX1_weigh_2 t K (d + 1) (nI x) S
  | 0, x, S, e, hT, hU, hW, k => by
    have hm := hT.1.1
    show if S.1 10 t 0 ≤ nI x then _ else _
    rw [hT.2.1.1, if_pos (nI_le (by omega) (by omega))]
    obtain rfl : x = m := by omega
    exact k S hT hU hW (fu_rfl S)
  | d + 1, x, S, e, hT, hU, hW, k => by
    have hm := hT.1.1
    show if S.1 10 t 0 ≤ nI x then _ else _
    rw [hT.2.1.1, if_neg (nI_ge (by omega) (by omega))]
    exact ⟨n + 1, sp_we_i (by omega) n 0 S (by omega) hT hU hW (fun S1 a b c f => sp_we_o d (x + 1) S1 (by omega) a b c (fun S2 a2 b2 c2 f2 => k S2 a2 b2 c2 (fu_tr f f2)))⟩
theorem sp_weigh {S : St} {K : St → Prop} (hT : RT S t m n r T) (hU : RuC S r U) (k : ∀ S1, RT S1 t m n r T → RuC S1 r U → WG S1 m n U T m 0 → fu S S1 → K S1) : wpX1_weigh t S K :=
  ⟨m + 1, sp_we_o m 0 S (by omega) hT hU (fun x2 y2 _ _ h => by omega) k⟩
/-- a row: whom each has; rows that are rows -/
def isRw (m n : Nat) (w : Nat → Int32) : Prop := (∀ i, i < m → (w i = -1 ∨ ∃ y, y < n ∧ w i = nI y)) ∧ ∀ i j, i < m → j < m → w i = w j → w i ≠ -1 → i = j
theorem her_of {H : Im} {w : Nat → Int32} {f : Nat → Int32} {y : Nat} (hm : m ≤ 4) (hy : y < 4) (h1 : ∀ i, i < m → w i = nI y → f y = H i y) (h2 : (∀ i, i < m → w i ≠ nI y) → f y = -1) : f y = herF m H w y := by
  unfold herF
  by_cases q : ∀ i, i < m → w i ≠ nI y
  · rw [h2 q, if_pos (hus_no m 0 (fun j _ hj => q j (by omega)))]
  · have : ∃ j, j < m ∧ w j = nI y ∧ ∀ i, i < j → w i ≠ nI y := by
      have ex : ∃ j, j < m ∧ w j = nI y := Classical.byContradiction (fun hc => q (fun i hi he => hc ⟨i, hi, he⟩))
      obtain ⟨j, hj, ej⟩ := ex
      have key : ∀ b, b ≤ m → (∃ j, j < b ∧ w j = nI y) → ∃ j, j < b ∧ w j = nI y ∧ ∀ i, i < j → w i ≠ nI y := by
        intro b
        induction b with
        | zero => intro _ ⟨j, hj, _⟩; omega
        | succ b ih =>
          intro hb ⟨j, hj, ej⟩
          by_cases q2 : ∃ j, j < b ∧ w j = nI y
          · obtain ⟨j2, a, b2, c⟩ := ih (by omega) q2
            exact ⟨j2, by omega, b2, c⟩
          · exact ⟨j, hj, ej, fun i hi he => q2 ⟨i, by omega, he⟩⟩
      exact key m (Nat.le_refl m) ⟨j, hj, ej⟩
    obtain ⟨j, hj, ej, hfirst⟩ := this
    have e2 : husU w (nI y) m 0 = nI j := hus_at m 0 j (by omega) (by omega) ej (fun k _ hk => hfirst k hk)
    rw [e2, if_neg (nI_nm1 (by omega)), nI_clamp (by omega)]
    exact h1 j hj ej
theorem sp_st1 {K : Int32 → St → Prop} {w : Nat → Int32} (hw : isRw m n w) : ∀ (d x : Nat) (S : St), x + d = m → RT S t m n r T → (∀ i, i < m → S.1 24 0 i = w i) → (∀ y, y < n → (∀ i, i < x → w i = nI y → S.1 25 0 y = HO T i y) ∧ ((∀ i, i < x → w i ≠ nI y) → S.1 25 0 y = -1)) →
    (∀ S1, RT S1 t m n r T → (∀ kd i, kd ≠ 25 → S1.1 kd i = S.1 kd i) → (∀ y, y < n → S1.1 25 0 y = herF m (HO T) w y) → ∃ k, wbX1_isSteady_62 t K k 0 S1) → wbX1_isSteady_10 t K (d + 1) (nI x) S
  | 0, x, S, e, hT, h24, h25, k => by
    have hm := hT.1.1
    have hn := hT.1.2.1
    show if S.1 10 t 0 ≤ nI x then _ else _
    rw [hT.2.1.1, if_pos (nI_le (by omega) (by omega))]
    obtain rfl : x = m := by omega
    exact k S hT (fun _ _ _ => rfl) (fun y hy => her_of hm (by omega) (h25 y hy).1 (h25 y hy).2)
  | d + 1, x, S, e, hT, h24, h25, k => by
    have hm := hT.1.1
    have hn := hT.1.2.1
    have vx : vp_in (nI x) 4 := vp_in_nI (by omega) (by omega)
    show if S.1 10 t 0 ≤ nI x then _ else _
    rw [hT.2.1.1, if_neg (nI_ge (by omega) (by omega)), nI_clamp (by omega), h24 x (by omega)]
    unfold wbX1_isSteady_54
    rw [nI_1]
    refine ⟨vx, ?_⟩
    rcases hw.1 x (by omega) with q | ⟨y, hy, q⟩
    · rw [if_pos q]
      refine sp_st1 hw d (x + 1) S (by omega) hT h24 (fun y hy => ⟨fun i hi hiy => ?_, fun hno => (h25 y hy).2 (fun i hi => hno i (by omega))⟩) k
      by_cases qi : i = x
      · subst qi; rw [q] at hiy; exact absurd hiy.symm (nI_nm1 (by omega))
      · exact (h25 y hy).1 i (by omega) hiy
    · rw [if_neg (by rw [q]; exact nI_nm1 (by omega)), q]
      refine ⟨vx, vx, sp_at ⟨vp_in_nI (by omega) (by omega), vp_in_nI (by omega) (by omega), fun S9 e9 => ?_⟩⟩
      rw [nI_clamp (by omega), nI_clamp (by omega), (hT.2.2.2.2 x y (by omega) hy).2] at e9
      have W9 : ∀ kd i, kd ≠ 25 → S9.1 kd i = S.1 kd i := fun kd i w => by rw [e9, sa_ne (by omega)]
      refine sp_st1 hw d (x + 1) S9 (by omega) (RT_fr hT (fun kd a b => W9 kd t (by omega))) (fun i hi => by rw [W9 24 0 (by omega)]; exact h24 i hi) (fun y2 hy2 => ?_) (fun S1 a b c => k S1 a (fun kd i w => (b kd i w).trans (W9 kd i w)) c)
      by_cases qy : y2 = y
      · subst qy
        rw [e9, su_eq]
        refine ⟨fun i hi hiy => ?_, fun hno => absurd q (hno x (by omega))⟩
        have : i = x := hw.2 i x (by omega) (by omega) (hiy.trans q.symm) (by rw [hiy]; exact nI_nm1 (by omega))
        rw [this]; rfl
      · rw [e9, su_nj qy]
        refine ⟨fun i hi hiy => ?_, fun hno => (h25 y2 hy2).2 (fun i hi => hno i (by omega))⟩
        by_cases qi : i = x
        · subst qi; rw [q] at hiy; exact absurd ((nI_eq (by omega) (by omega)).mp hiy).symm qy
        · exact (h25 y2 hy2).1 i (by omega) hiy
theorem sp_st2i {K : Int32 → St → Prop} {R62 : Int32 → St → Prop} {w : Nat → Int32} {S : St} {x : Nat} (hx : x < m) (hT : RT S t m n r T) (hW : WG S m n U T m 0) (h25 : ∀ y, y < n → S.1 25 0 y = herF m (HO T) w y) (k0 : K 0 S) : ∀ (d y : Nat), y + d = n → (steI m (NO U T) (LO T) (HO T) w x d y = true → R62 (nI (x + 1)) S) → (steI m (NO U T) (LO T) (HO T) w x d y = false → K 0 S) → wbX1_isSteady_103 t R62 K (nI x) (ownF (LO T) w x) (d + 1) (nI y) S
  | 0, y, e, k1, k2 => by
    have hn := hT.1.2.1
    show if S.1 10 t 1 ≤ nI y then _ else _
    rw [hT.2.1.2.1, if_pos (nI_le (by omega) (by omega)), nI_1]
    exact k1 rfl
  | d + 1, y, e, k1, k2 => by
    have hm := hT.1.1
    have hn := hT.1.2.1
    have vxy : vp_in (nI (4 * x + y)) 16 := vp_in_nI (by omega) (by omega)
    show if S.1 10 t 1 ≤ nI y then _ else _
    rw [hT.2.1.2.1, if_neg (nI_ge (by omega) (by omega))]
    unfold wbX1_isSteady_160
    rw [nI_1]
    refine sp_at ⟨vxy, ?_⟩
    rw [nI_clamp (by omega), nI_clamp (by omega), (hW x y hx (by omega) (by omega)).1, (hT.2.2.2.2 x y hx (by omega)).1, (hT.2.2.2.2 x y hx (by omega)).2, h25 y (by omega)]
    unfold steI at k1 k2
    have go : (NO U T x y || decide (LO T x y ≤ ownF (LO T) w x) || decide (HO T x y ≤ herF m (HO T) w y)) = true → wbX1_isSteady_103 t R62 K (nI x) (ownF (LO T) w x) (d + 1) (nI (y + 1)) S := by
      intro hq
      rw [hq, Bool.true_and] at k1 k2
      exact sp_st2i hx hT hW h25 k0 d (y + 1) (by omega) k1 k2
    cases hN : NO U T x y
    · rw [if_neg (show ¬ bI (!false) = 0 by decide)]
      refine ⟨vxy, ?_⟩
      by_cases c1 : T 5 (4 * x + y) ≤ ownF (LO T) w x
      · rw [if_pos c1]; exact go (by rw [decide_eq_true (show LO T x y ≤ ownF (LO T) w x from c1)]; simp)
      · rw [if_neg c1]
        refine ⟨vxy, vp_in_nI (by omega) (by omega), ?_⟩
        by_cases c2 : T 6 (4 * x + y) ≤ herF m (HO T) w y
        · rw [if_pos c2]; exact go (by rw [decide_eq_true (show HO T x y ≤ herF m (HO T) w y from c2)]; simp)
        · rw [if_neg c2]
          exact k0
    · rw [if_pos (show bI (!true) = 0 by decide)]
      exact go (by rw [hN]; rfl)
theorem sp_st2 {K : Int32 → St → Prop} {w : Nat → Int32} {S : St} (hw : isRw m n w) (hT : RT S t m n r T) (hW : WG S m n U T m 0) (h24 : ∀ i, i < m → S.1 24 0 i = w i) (h25 : ∀ y, y < n → S.1 25 0 y = herF m (HO T) w y) : ∀ (d x : Nat), x + d = m → K (bI (steO m n (NO U T) (LO T) (HO T) w d x)) S → wbX1_isSteady_62 t K (d + 1) (nI x) S
  | 0, x, e, k => by
    have hm := hT.1.1
    show if S.1 10 t 0 ≤ nI x then _ else _
    rw [hT.2.1.1, if_pos (nI_le (by omega) (by omega))]
    exact k
  | d + 1, x, e, k => by
    have hm := hT.1.1
    have hn := hT.1.2.1
    have vx : vp_in (nI x) 4 := vp_in_nI (by omega) (by omega)
    show if S.1 10 t 0 ≤ nI x then _ else _
    rw [hT.2.1.1, if_neg (nI_ge (by omega) (by omega)), nI_clamp (by omega), h24 x (by omega)]
    unfold steO at k
    have go : wbX1_isSteady_99 t (fun yx2 S9 => wbX1_isSteady_62 t K (d + 1) yx2 S9) K (nI x) (ownF (LO T) w x) S := by
      have bad : steI m (NO U T) (LO T) (HO T) w x n 0 = false → K 0 S := fun q => by rw [q] at k; exact k
      have gd : steI m (NO U T) (LO T) (HO T) w x n 0 = true → wbX1_isSteady_62 t K (d + 1) (nI (x + 1)) S := fun q => by
        rw [q, Bool.true_and] at k
        exact sp_st2 hw hT hW h24 h25 d (x + 1) (by omega) k
      cases q : steI m (NO U T) (LO T) (HO T) w x n 0
      · exact ⟨n + 1, sp_st2i (by omega) hT hW h25 (bad q) n 0 (by omega) (fun q2 => by rw [q] at q2; cases q2) bad⟩
      · refine ⟨n + 1, ?_⟩
        have key : ∀ (d2 y : Nat), y + d2 = n → steI m (NO U T) (LO T) (HO T) w x d2 y = true → wbX1_isSteady_103 t (fun yx2 S9 => wbX1_isSteady_62 t K (d + 1) yx2 S9) K (nI x) (ownF (LO T) w x) (d2 + 1) (nI y) S := by
          intro d2
          induction d2 with
          | zero =>
            intro y ey _
            show if S.1 10 t 1 ≤ nI y then _ else _
            rw [hT.2.1.2.1, if_pos (nI_le (by omega) (by omega)), nI_1]
            exact gd q
          | succ d2 ih =>
            intro y ey hq
            have vxy : vp_in (nI (4 * x + y)) 16 := vp_in_nI (by omega) (by omega)
            show if S.1 10 t 1 ≤ nI y then _ else _
            rw [hT.2.1.2.1, if_neg (nI_ge (by omega) (by omega))]
            unfold wbX1_isSteady_160
            rw [nI_1]
            refine sp_at ⟨vxy, ?_⟩
            rw [nI_clamp (by omega), nI_clamp (by omega), (hW x y (by omega) (by omega) (by omega)).1, (hT.2.2.2.2 x y (by omega) (by omega)).1, (hT.2.2.2.2 x y (by omega) (by omega)).2, h25 y (by omega)]
            unfold steI at hq
            simp only [Bool.and_eq_true] at hq
            have ih := ih (y + 1) (by omega) hq.2
            cases hN : NO U T x y
            · rw [if_neg (show ¬ bI (!false) = 0 by decide)]
              refine ⟨vxy, ?_⟩
              by_cases c1 : T 5 (4 * x + y) ≤ ownF (LO T) w x
              · rw [if_pos c1]; exact ih
              · rw [if_neg c1]
                refine ⟨vxy, vp_in_nI (by omega) (by omega), ?_⟩
                by_cases c2 : T 6 (4 * x + y) ≤ herF m (HO T) w y
                · rw [if_pos c2]; exact ih
                · have := hq.1
                  rw [hN, decide_eq_false (show ¬ LO T x y ≤ ownF (LO T) w x from c1), decide_eq_false (show ¬ HO T x y ≤ herF m (HO T) w y from c2)] at this
                  cases this
            · rw [if_pos (show bI (!true) = 0 by decide)]
              exact ih
        exact key n 0 (by omega) q
    refine ⟨vx, ?_⟩
    rcases hw.1 x (by omega) with q | ⟨y, hy, q⟩
    · rw [if_pos q]
      unfold ownF at go
      rw [if_pos q] at go
      exact go
    · have q1 : ¬ w x = -1 := by rw [q]; exact nI_nm1 (by omega)
      rw [if_neg q1]
      refine ⟨vx, ?_⟩
      rw [q]
      refine sp_at ⟨vp_in_nI (by omega) (by omega), ?_⟩
      rw [nI_clamp (by omega), (hT.2.2.2.2 x y (by omega) hy).1]
      unfold ownF at go
      rw [if_neg q1, q, nI_clamp (by omega)] at go
      exact go
theorem sp_steady {K : Int32 → St → Prop} {w : Nat → Int32} {S : St} (hw : isRw m n w) (hT : RT S t m n r T) (hW : WG S m n U T m 0) (h24 : ∀ i, i < m → S.1 24 0 i = w i) (k : ∀ S1, (∀ kd i, kd ≠ 25 → S1.1 kd i = S.1 kd i) → K (bI (steO m n (NO U T) (LO T) (HO T) w m 0)) S1) : wpX1_isSteady t S K := by
  have hm := hT.1.1
  have hn := hT.1.2.1
  unfold wpX1_isSteady
  refine sp_fill (by omega) ⟨m + 1, ?_⟩
  have W1 : ∀ kd i, kd ≠ 25 → (sa S 25 0 (fun j => if j < 4 then -1 else S.1 25 0 j)).1 kd i = S.1 kd i := fun kd i w => sa_ne (by omega)
  refine sp_st1 hw m 0 _ (by omega) (RT_fr hT (fun kd a b => W1 kd t (by omega))) (fun i hi => by rw [W1 24 0 (by omega)]; exact h24 i hi) (fun y hy => ⟨fun i hi => by omega, fun _ => by rw [sa_eq, if_pos (by omega)]⟩) (fun S1 t1 W2 h25 => ⟨m + 1, ?_⟩)
  have W3 : ∀ kd i, kd ≠ 25 → S1.1 kd i = S.1 kd i := fun kd i w => (W2 kd i w).trans (W1 kd i w)
  refine sp_st2 hw t1 (U := U) ?_ (fun i hi => by rw [W3 24 0 (by omega)]; exact h24 i hi) h25 m 0 (by omega) (k S1 W3)
  unfold WG at hW ⊢
  rw [W3 22 0 (by omega), W3 23 0 (by omega)]
  exact hW
end
