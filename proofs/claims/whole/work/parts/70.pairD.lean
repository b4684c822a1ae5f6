/-! pairings: the class's rows -/
def PC1 (S : St) (m s : Nat) (p : Pa) : Prop := S.1 19 0 s = p.1 ∧ S.1 20 0 s = p.2.1 ∧ (p.1 = 0 ∨ ∀ i, i < m → S.1 21 0 (4 * s + i) = p.2.2 i)
def PC (S : St) (m : Nat) (a : Pa × Pa) : Prop := PC1 S m 0 a.1 ∧ PC1 S m 1 a.2
theorem PC1_fr {S S1 : St} {m s : Nat} {p : Pa} (h : PC1 S m s p) (W : ∀ kd, kd = 19 ∨ kd = 20 ∨ kd = 21 → S1.1 kd 0 = S.1 kd 0) : PC1 S1 m s p := by
  unfold PC1 at h ⊢
  rw [W 19 (by omega), W 20 (by omega), W 21 (by omega)]; exact h
theorem sp_enter {S : St} {m s : Nat} {p : Pa} {w : Nat → Int32} {v : Int32} {K : St → Prop} (hm : m ≤ 4) (hs : s < 2) (h : PC1 S m s p) (h24 : ∀ i, i < m → S.1 24 0 i = w i) (k : ∀ S1, PC1 S1 m s (entP p v w) → (∀ s2 q, s2 < 2 → s2 ≠ s → PC1 S m s2 q → PC1 S1 m s2 q) → (∀ kd i, ¬ (kd = 19 ∨ kd = 20 ∨ kd = 21) → S1.1 kd i = S.1 kd i) → K S1) : wpX1_enter (nI s) v S K := by
  have vs : vp_in (nI s) 2 := vp_in_nI hs (by omega)
  obtain ⟨h1, h2, h3⟩ := id h
  unfold wpX1_enter
  rw [nI_clamp (by omega), h1, h2]
  have new : (p.1 = 0 ∨ ¬ v ≤ p.2.1) → wbX1_enter_19 K (nI s) v S := by
    intro hq
    have ev : entP p v w = (p.1 + 1, v, w) := by
      unfold entP
      rcases hq with q | q
      · rw [decide_eq_true q]; rfl
      · rw [decide_eq_false q, Bool.not_false, Bool.or_true]; rfl
    rw [ev] at k
    unfold wbX1_enter_19 wbX1_enter_42
    rw [nI_clamp (by omega), show nI s * 4 = nI (s * 4) from pk_mul s 4, nI_clamp (by omega), show ((0 : Int32).toNatClampNeg) = 0 by decide, show ((4 : Int32).toNatClampNeg) = 4 by decide]
    refine ⟨vs, fun S5 e5 => ⟨⟨by decide, nI_pos (by omega), by decide, by omega, by omega⟩, fun S6 e6 => ⟨vs, vs, fun S8 e8 => ?_⟩⟩⟩
    rw [show S6.1 19 0 s = p.1 by rw [e6, e5]; simp [sa_rd, h1]] at e8
    refine k S8 ⟨?_, ?_, Or.inr (fun i hi => ?_)⟩ (fun s2 q a b c => ?_) (fun kd i w => ?_)
    · rw [e8, su_eq]
    · rw [e8, e6, e5]; simp [sa_rd, upd_rd]
    · rw [e8, e6, sa_ne (by omega), sa_eq, pk_cpy_in (by omega) (by omega), e5, sa_ne (by omega), show 0 + (4 * s + i - s * 4) = i by omega]
      exact h24 i hi
    · unfold PC1 at c ⊢
      refine ⟨?_, ?_, ?_⟩
      · rw [e8, su_nj b, e6, e5, sa_ne (by omega), sa_ne (by omega)]; exact c.1
      · rw [e8, e6, sa_ne (by omega), sa_ne (by omega), e5, su_nj b]; exact c.2.1
      · rcases c.2.2 with c | c
        · exact Or.inl c
        · refine Or.inr (fun i hi => ?_)
          rw [e8, e6, sa_ne (by omega), sa_eq, pk_cpy_out (by omega), e5, sa_ne (by omega)]
          exact c i hi
    · rw [e8, e6, e5, sa_ne (by omega), sa_ne (by omega), sa_ne (by omega)]
  refine ⟨vs, ?_⟩
  by_cases q1 : p.1 = 0
  · rw [if_pos q1]; exact new (Or.inl q1)
  · rw [if_neg q1]
    refine ⟨vs, ?_⟩
    by_cases q2 : v ≤ p.2.1
    · rw [if_pos q2]
      have ev : entP p v w = (p.1 + 1, p.2) := by
        unfold entP
        rw [decide_eq_false q1, decide_eq_true q2]; rfl
      rw [ev] at k
      unfold wbX1_enter_42
      rw [nI_clamp (by omega), h1]
      refine ⟨vs, vs, fun S8 e8 => k S8 ⟨?_, ?_, Or.inr (fun i hi => ?_)⟩ (fun s2 q a b c => ?_) (fun kd i w => ?_)⟩
      · rw [e8, su_eq]
      · rw [e8, sa_ne (by omega)]; exact h2
      · rw [e8, sa_ne (by omega)]; exact (h3.resolve_left q1) i hi
      · unfold PC1 at c ⊢
        rw [e8, su_nj b, sa_ne (by omega), sa_ne (by omega)]; exact c
      · rw [e8, sa_ne (by omega)]
    · rw [if_neg q2]; exact new (Or.inr q2)
def okP (n x : Nat) (w : Nat → Int32) (k : Nat) : Prop := isRw x n w ∧ ∀ i, i < x → ∀ y, y < n → w i = nI y → k.testBit y = true
theorem okP_m {n x : Nat} {w : Nat → Int32} {k : Nat} (hn : n ≤ 4) (h : okP n x w k) : okP n (x + 1) (upd w x (-1)) k := by
  refine ⟨⟨fun i hi => ?_, fun i j hi hj e ne => ?_⟩, fun i hi y hy e => ?_⟩
  · by_cases q : i = x
    · subst q; exact Or.inl pk_us
    · rw [upd_lt (by omega)]; exact h.1.1 i (by omega)
  · by_cases q : i = x
    · subst q; exact absurd pk_us ne
    · by_cases q2 : j = x
      · subst q2; rw [e] at ne; exact absurd pk_us ne
      · rw [upd_lt (by omega), upd_lt (by omega)] at e
        rw [upd_lt (by omega)] at ne
        exact h.1.2 i j (by omega) (by omega) e ne
  · by_cases q : i = x
    · subst q; rw [pk_us] at e; exact absurd e.symm (nI_nm1 (by omega))
    · rw [upd_lt (by omega)] at e; exact h.2 i (by omega) y hy e
theorem okP_y {n x y : Nat} {w : Nat → Int32} {k : Nat} (hn : n ≤ 4) (hk : k < 16) (hy : y < n) (h0 : k.testBit y = false) (h : okP n x w k) : okP n (x + 1) (upd w x (nI y)) (k ||| 2 ^ y) := by
  have no : ∀ i, i < x → w i ≠ nI y := fun i hi e => by have := h.2 i hi y hy e; rw [h0] at this; cases this
  refine ⟨⟨fun i hi => ?_, fun i j hi hj e ne => ?_⟩, fun i hi y2 hy2 e => ?_⟩
  · by_cases q : i = x
    · subst q; exact Or.inr ⟨y, hy, pk_us⟩
    · rw [upd_lt (by omega)]; exact h.1.1 i (by omega)
  · by_cases q : i = x
    · by_cases q2 : j = x
      · omega
      · subst q
        rw [pk_us, upd_lt (by omega)] at e
        exact absurd e.symm (no j (by omega))
    · by_cases q2 : j = x
      · subst q2
        rw [pk_us, upd_lt (by omega)] at e
        exact absurd e (no i (by omega))
      · rw [upd_lt (by omega), upd_lt (by omega)] at e
        rw [upd_lt (by omega)] at ne
        exact h.1.2 i j (by omega) (by omega) e ne
  · rw [(bt_y k hk y (by omega) y2 (by omega)).1]
    by_cases q : i = x
    · subst q
      rw [pk_us] at e
      rw [decide_eq_true ((nI_eq (by omega) (by omega)).mp e).symm, Bool.or_true]
    · rw [upd_lt (by omega)] at e
      rw [h.2 i (by omega) y2 hy2 e]; rfl
def fp (S S1 : St) : Prop := ∀ kd i, ¬ (kd = 19 ∨ kd = 20 ∨ kd = 21 ∨ kd = 24 ∨ kd = 25) → S1.1 kd i = S.1 kd i
theorem fp_tr {S S1 S2 : St} (h : fp S S1) (g : fp S1 S2) : fp S S2 := fun kd i w => (g kd i w).trans (h kd i w)
theorem fp_fu {S S1 : St} (h : fp S S1) : fu S S1 := ⟨⟨⟨fun kd i w => h kd i (by unfold cz at w; omega), fun j _ => by rw [h 40 0 (by omega)]⟩, fun kd i w => h kd i (by omega), by rw [h 40 0 (by omega)]⟩, fun kd i a b => h kd i (by omega)⟩
section
variable {t m n r : Nat} {T : Tn} {U : Rl}
theorem WG_fp {S S1 : St} {x y : Nat} (h : WG S m n U T x y) (f : fp S S1) : WG S1 m n U T x y := by
  unfold WG at h ⊢
  rw [f 22 0 (by omega), f 23 0 (by omega)]; exact h
theorem sp_pf : ∀ (d f x : Nat) (w : Nat → Int32) (k : Nat) (a : Pa × Pa) (S : St) (K : St → Prop), x + d = m → d < f → k < 16 → RT S t m n r T → WG S m n U T m 0 → okP n x w k → (∀ i, i < x → S.1 24 0 i = w i) → PC S m a →
    (∀ S1, (∀ i, i < x → S1.1 24 0 i = S.1 24 0 i) → PC S1 m (enu n (fun x y => !NO U T x y) (lfC m n (NO U T) (WO U T) (LO T) (HO T)) d x w k a) → fp S S1 → K S1) → wpG2 f 0 t (nI x) (nI k) (conP (WO U T) w x) S K
  | d, 0, x, w, k, a, S, K, e, hf, _, _, _, _, _, _, _ => by omega
  | 0, f + 1, x, w, k, a, S, K, e, hf, hk, hT, hW, hP, h24, hA, kk => by
    have hm := hT.1.1
    obtain rfl : x = m := by omega
    show wpX1_pairFrom (wpG2 f) t (nI x) (nI k) (conP (WO U T) w x) S K
    unfold wpX1_pairFrom
    rw [hT.2.1.1, if_neg (nI_nlt (Nat.le_refl x) (by omega)), show (0 : Int32) = nI 0 from rfl, show (1 : Int32) = nI 1 from rfl]
    refine sp_enter hm (by omega) hA.1 h24 (fun S1 p1 q1 W1 => ?_)
    have f1 : fp S S1 := fun kd i w => W1 kd i (by omega)
    have p2 := q1 1 a.2 (by omega) (by omega) hA.2
    refine sp_steady (U := U) hP.1 (RT_fu hT (fp_fu f1)) (WG_fp hW f1) (fun i hi => by rw [W1 24 0 (by omega)]; exact h24 i hi) (fun S2 W2 => ?_)
    have f2 : fp S S2 := fp_tr f1 (fun kd i w => W2 kd i (by omega))
    have ee : enu n (fun x y => !NO U T x y) (lfC x n (NO U T) (WO U T) (LO T) (HO T)) 0 x w k a = lfC x n (NO U T) (WO U T) (LO T) (HO T) w a := rfl
    rw [ee] at kk
    unfold lfC at kk
    have p1' : PC1 S2 x 0 (entP a.1 (conP (WO U T) w x) w) := PC1_fr p1 (fun kd w => W2 kd 0 (by omega))
    have p2' : PC1 S2 x 1 a.2 := PC1_fr p2 (fun kd w => W2 kd 0 (by omega))
    refine bI_if (fun q => ?_) (fun q => ?_)
    · rw [q] at kk
      exact kk S2 (fun i hi => by rw [W2 24 0 (by omega), W1 24 0 (by omega)]) ⟨p1', p2'⟩ f2
    · rw [q] at kk
      refine sp_enter (w := w) hm (by omega) p2' (fun i hi => by rw [W2 24 0 (by omega), W1 24 0 (by omega)]; exact h24 i hi) (fun S3 p3 q3 W3 => ?_)
      exact kk S3 (fun i hi => by rw [W3 24 0 (by omega), W2 24 0 (by omega), W1 24 0 (by omega)]) ⟨q3 0 _ (by omega) (by omega) p1', p3⟩ (fp_tr f2 (fun kd i w => W3 kd i (by omega)))
  | d + 1, f + 1, x, w, k, a, S, K, e, hf, hk, hT, hW, hP, h24, hA, kk => by
    have hm := hT.1.1
    have hn := hT.1.2.1
    have vx : vp_in (nI x) 4 := vp_in_nI (by omega) (by omega)
    show wpX1_pairFrom (wpG2 f) t (nI x) (nI k) (conP (WO U T) w x) S K
    unfold wpX1_pairFrom
    rw [hT.2.1.1, if_pos (nI_lt (by omega) (by omega)), nI_clamp (by omega), nI_1]
    rw [enu_s] at kk
    refine ⟨vx, fun S2 e2 => ?_⟩
    have f2 : fp S S2 := by rw [e2]; exact fun kd i w => sa_ne (by omega)
    have cm : conP (WO U T) w x = conP (WO U T) (upd w x (-1)) (x + 1) := by
      show _ = (if upd w x (-1) x = -1 then conP (WO U T) (upd w x (-1)) x else _)
      rw [pk_us, if_pos rfl, conP_congr (w2 := w) x (fun i hi => upd_lt hi)]
    have h242 : ∀ i, i < x + 1 → S2.1 24 0 i = upd w x (-1) i := fun i hi => by
      rw [e2, sa_eq, upd_rd, upd_rd]
      by_cases q : i = x
      · rw [if_pos q, if_pos q]
      · rw [if_neg q, if_neg q]; exact h24 i (by omega)
    have go1 := sp_pf d f (x + 1) (upd w x (-1)) k a S2
    rw [← cm] at go1
    refine go1 _ (by omega) (by omega) hk (RT_fu hT (fp_fu f2)) (WG_fp hW f2) (okP_m hn hP) h242 ⟨PC1_fr hA.1 (fun kd w => by rw [e2, sa_ne (by omega)]), PC1_fr hA.2 (fun kd w => by rw [e2, sa_ne (by omega)])⟩ (fun S3 c3 A3 f3 => ⟨n + 1, ?_⟩)
    have key : ∀ (e2 y : Nat) (a2 : Pa × Pa) (S4 : St), y + e2 = n → (∀ i, i < x → S4.1 24 0 i = w i) → PC S4 m a2 → fp S S4 → (∀ S1, (∀ i, i < x → S1.1 24 0 i = S.1 24 0 i) → PC S1 m (foldZ (eSt n (fun x y => !NO U T x y) (lfC m n (NO U T) (WO U T) (LO T) (HO T)) d x w k) e2 y a2) → fp S S1 → K S1) → wbX1_pairFrom_52 (wpG2 f) t K (nI x) (nI k) (conP (WO U T) w x) (e2 + 1) (nI y) S4 := by
      intro e2
      induction e2 with
      | zero =>
        intro y a2 S4 ey h4 A4 f4 k4
        have t4 := RT_fu hT (fp_fu f4)
        show if S4.1 10 t 1 ≤ nI y then _ else _
        rw [t4.2.1.2.1, if_pos (nI_le (by omega) (by omega))]
        exact k4 S4 (fun i hi => by rw [h4 i hi, h24 i hi]) A4 f4
      | succ e2 ih =>
        intro y a2 S4 ey h4 A4 f4 k4
        have t4 := RT_fu hT (fp_fu f4)
        have vxy : vp_in (nI (4 * x + y)) 16 := vp_in_nI (by omega) (by omega)
        have W4 := WG_fp hW f4
        show if S4.1 10 t 1 ≤ nI y then _ else _
        rw [t4.2.1.2.1, if_neg (nI_ge (by omega) (by omega)), bt_c k hk y (by omega)]
        unfold wbX1_pairFrom_120
        rw [nI_1, nI_1]
        unfold foldZ at k4
        refine bI_if (fun w0 => sp_at ⟨vxy, ?_⟩) (fun w0 => ?_)
        · rw [nI_clamp (by omega), nI_clamp (by omega), (W4 x y (by omega) (by omega) (by omega)).1]
          cases hN : NO U T x y
          · rw [if_neg (show ¬ bI (!false) = 0 by decide)]
            refine ⟨vx, fun S5 e5 => sp_at ⟨vxy, ?_⟩⟩
            have f5 : fp S S5 := fp_tr f4 (by rw [e5]; exact fun kd i w => sa_ne (by omega))
            obtain ⟨o1, o2, _⟩ := bt_or k hk y (by omega)
            rw [nI_clamp (by omega), (WG_fp hW f5 x y (by omega) (by omega) (by omega)).2, o1]
            have cm : conP (WO U T) w x + WO U T x y = conP (WO U T) (upd w x (nI y)) (x + 1) := by
              show _ = (if upd w x (nI y) x = -1 then _ else conP (WO U T) (upd w x (nI y)) x + WO U T x (upd w x (nI y) x).toNatClampNeg)
              rw [pk_us, if_neg (nI_nm1 (by omega)), conP_congr (w2 := w) x (fun i hi => upd_lt hi), nI_clamp (by omega)]
            rw [cm]
            have es : eSt n (fun x y => !NO U T x y) (lfC m n (NO U T) (WO U T) (LO T) (HO T)) d x w k y a2 = enu n (fun x y => !NO U T x y) (lfC m n (NO U T) (WO U T) (LO T) (HO T)) d (x + 1) (upd w x (nI y)) (k ||| 2 ^ y) a2 := by
              unfold eSt
              simp [w0, hN]
            rw [es] at k4
            refine sp_pf d f (x + 1) (upd w x (nI y)) (k ||| 2 ^ y) a2 S5 _ (by omega) (by omega) o2 (RT_fu hT (fp_fu f5)) (WG_fp hW f5) (okP_y hn hk (by omega) w0 hP) (fun i hi => ?_) ⟨PC1_fr A4.1 (fun kd w => by rw [e5, sa_ne (by omega)]), PC1_fr A4.2 (fun kd w => by rw [e5, sa_ne (by omega)])⟩ (fun S6 c6 A6 f6 => ?_)
            · rw [e5, sa_eq, upd_rd, upd_rd]
              by_cases q : i = x
              · rw [if_pos q, if_pos q]
              · rw [if_neg q, if_neg q]; exact h4 i (by omega)
            · exact ih (y + 1) _ S6 (by omega) (fun i hi => by rw [c6 i (by omega), e5, sa_eq, upd_lt hi]; exact h4 i hi) A6 (fp_tr f5 f6) k4
          · rw [if_pos (show bI (!true) = 0 by decide)]
            have es : eSt n (fun x y => !NO U T x y) (lfC m n (NO U T) (WO U T) (LO T) (HO T)) d x w k y a2 = a2 := by
              unfold eSt
              simp [hN]
            rw [es] at k4
            exact ih (y + 1) _ S4 (by omega) h4 A4 f4 k4
        · have es : eSt n (fun x y => !NO U T x y) (lfC m n (NO U T) (WO U T) (LO T) (HO T)) d x w k y a2 = a2 := by
            unfold eSt
            simp [w0]
          rw [es] at k4
          exact ih (y + 1) _ S4 (by omega) h4 A4 f4 k4
    refine key n 0 _ S3 (by omega) (fun i hi => ?_) A3 (fp_tr f2 f3) kk
    rw [c3 i (by omega), h242 i (by omega)]
    exact upd_lt hi
def allP (m n : Nat) (U : Rl) (T : Tn) : Pa × Pa := enu n (fun x y => !NO U T x y) (lfC m n (NO U T) (WO U T) (LO T) (HO T)) m 0 (fun _ => 0) 0 ((0, 0, fun _ => 0), (0, 0, fun _ => 0))
theorem sp_tryAll {S : St} {K : St → Prop} (hT : RT S t m n r T) (hU : RuC S r U) (k : ∀ S1, PC S1 m (allP m n U T) → fu S S1 → K S1) : wpX1_tryAll t S K := by
  unfold wpX1_tryAll
  have hm := hT.1.1
  refine sp_weigh hT hU (fun S1 t1 u1 W1 f1 => sp_fill (by omega) (sp_fill (by omega) ?_))
  have f3 : fp S1 (sa (sa S1 19 0 (fun j => if j < 2 then 0 else S1.1 19 0 j)) 20 0 (fun j => if j < 2 then 0 else (sa S1 19 0 (fun j => if j < 2 then 0 else S1.1 19 0 j)).1 20 0 j)) := fun kd i w => by rw [sa_ne (by omega), sa_ne (by omega)]
  have b : ∀ s, s < 2 → PC1 (sa (sa S1 19 0 (fun j => if j < 2 then 0 else S1.1 19 0 j)) 20 0 (fun j => if j < 2 then 0 else (sa S1 19 0 (fun j => if j < 2 then 0 else S1.1 19 0 j)).1 20 0 j)) m s (0, 0, fun _ => 0) := fun s hs => ⟨by rw [sa_ne (by omega), sa_eq, if_pos hs], by rw [sa_eq, if_pos hs], Or.inl rfl⟩
  exact sp_pf m 8 0 (fun _ => 0) 0 ((0, 0, fun _ => 0), (0, 0, fun _ => 0)) _ _ (by omega) (by omega) (by omega) (RT_fu t1 (fp_fu f3)) (WG_fp W1 f3) ⟨⟨fun i hi => by omega, fun i j hi => by omega⟩, fun i hi => by omega⟩ (fun i hi => by omega) ⟨b 0 (by omega), b 1 (by omega)⟩ (fun S4 _ A4 f4 => k S4 A4 (fu_tr f1 (fu_tr (fp_fu f3) (fp_fu f4))))
end
