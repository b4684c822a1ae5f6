section
/-! pairings, best, row -/
theorem PC_p {S : St} {m s : Nat} {a : Pa × Pa} (h : PC S m a) (hs : s < 2) : PC1 S m s (prj s a) := by
  rcases (show s = 0 ∨ s = 1 by omega) with rfl | rfl
  · exact h.1
  · exact h.2
section
variable {S : St} {F : Int32 → St → Prop} {K : St → Prop} {a b : Int32}
theorem call_pairings (R : Rel S) (hK : ∀ S1, Rel S1 → K S1) (hF : Hm F (wpX8_pairings a) K) : wpX7_pairings a S F := by
  obtain ⟨m, n, r, T, k, V, R⟩ := R
  have hR : Rel S := ⟨m, n, r, T, k, V, R⟩
  obtain ⟨hT, hJ, hM, hV, h2, hr, h3, h4, h5⟩ := id R
  have hm := hT.1.1
  have hn := hT.1.2.1
  unfold wpX7_pairings
  by_cases ca : 0 ≤ a ∧ a ≤ 1
  · refine w1 ca ?_
    rw [if_neg nfi]
    obtain ⟨s, _, hs, rfl⟩ := in_nI (a := 0) (b := 1) (by omega) ca (by omega)
    refine sp_tryAll hT (h2.2.2 r hr).1 (fun S1 p1 f1 => ⟨vp_in_nI (by omega) (by omega), hF _ _ ?_⟩)
    rw [nI_clamp (by omega), (PC_p p1 (show s < 2 by omega)).1]
    have m1 := RM_fk hM f1.1
    have R1 := Rel_q R f1.1.1 m1
    unfold wpX8_pairings
    refine v1 ca ?_
    rw [if_neg nfi]
    exact mp_goes hm hn (by omega) hV m1 (R1.2.2.2.2.1.2.2 r hr).2 (fun S2 p2 m2 f2 => same (hK _ ⟨m, n, r, T, k, V, Rel_q R1 (fz_fg f2) m2⟩))
  · refine w0 ca ?_
    rw [if_pos rfl]
    refine hF _ _ ?_
    unfold wpX8_pairings
    refine v0 ca ?_
    rw [if_pos rfl]
    exact same (hK _ hR)
theorem best_core {s m n r : Nat} {T : Tn} {k : Nat} {V : Nat → Rl} (hs : s < 2) (hb : b = -1 ∨ ∃ i, i < m ∧ b = nI i) (R : Rel' S m n r T k V) (hK : ∀ S1, Rel S1 → K S1) (hF : ∀ v S1, wbX8_best_26 (fun r2 S2 => if v = r2 then K S2 else False) (nI s) b S1 → F v S1) : wbX7_best_25 F (nI s) b S := by
  obtain ⟨hT, hJ, hM, hV, h2, hr, h3, h4, h5⟩ := id R
  have hm := hT.1.1
  have hn := hT.1.2.1
  unfold wbX7_best_25
  refine sp_tryAll hT (h2.2.2 r hr).1 (fun S1 p1 f1 => ⟨vp_in_nI (by omega) (by omega), ?_⟩)
  rw [nI_clamp (by omega)]
  obtain ⟨c1, c2, c3⟩ := PC_p p1 hs
  have m1 := RM_fk hM f1.1
  have R1 := Rel_q R f1.1.1 m1
  have go : ∀ v : Int32, (∀ S2, PM S2 m (prj s (allP m n (V r) T)) → Rel S2 → (if (prj s (allP m n (V r) T)).1 = 0 then (if v = -3 then K S2 else False) else (if b = -1 then (if v = S2.1 40 0 43 then K S2 else False) else (vp_in b 4 ∧ if v = S2.1 57 0 b.toNatClampNeg then K S2 else False)))) → F v S1 := fun v h => hF v S1 (mp_goes hm hn hs hV m1 (R1.2.2.2.2.1.2.2 r hr).2 (fun S2 p2 m2 f2 => h S2 p2 ⟨m, n, r, T, k, V, Rel_q R1 (fz_fg f2) m2⟩))
  rw [c1]
  by_cases q : (prj s (allP m n (V r) T)).1 = 0
  · rw [if_pos q]
    refine go _ (fun S2 p2 R2 => ?_)
    rw [if_pos q]
    exact same (hK _ R2)
  · rw [if_neg q]
    rcases hb with rfl | ⟨i, hi, rfl⟩
    · rw [if_pos rfl]
      refine ⟨vp_in_nI (by omega) (by omega), go _ (fun S2 p2 R2 => ?_)⟩
      rw [if_neg q, if_pos rfl, c2, p2.2.1]
      exact same (hK _ R2)
    · rw [if_neg (nI_nm1 (by omega))]
      unfold wpX1_bestMaid
      have e : nI s * 4 + nI i = nI (4 * s + i) := by rw [show (4 : Int32) = nI 4 from rfl, pk_mul, nI_add, Nat.mul_comm]
      rw [e, nI_clamp (by omega)]
      refine ⟨vp_in_nI (by omega) (by omega), go _ (fun S2 p2 R2 => ?_)⟩
      rw [if_neg q, if_neg (nI_nm1 (by omega)), nI_clamp (by omega), (c3.resolve_left q) i hi, (p2.2.2.resolve_left q) i hi]
      exact ⟨vp_in_nI (by omega) (by omega), same (hK _ R2)⟩
theorem call_best (R : Rel S) (hK : ∀ S1, Rel S1 → K S1) (hF : Hm F (wpX8_best a b) K) : wpX7_best a b S F := by
  obtain ⟨m, n, r, T, k, V, R⟩ := R
  have hR : Rel S := ⟨m, n, r, T, k, V, R⟩
  obtain ⟨hT, hJ, hM, hV, h2, hr, h3, h4, h5⟩ := id R
  have hm := hT.1.1
  unfold wpX7_best
  by_cases ca : 0 ≤ a ∧ a ≤ 1
  · refine w1 ca ?_
    rw [if_neg nfi]
    by_cases cb : b = -1
    · rw [if_pos cb]
      obtain ⟨s, _, hs, rfl⟩ := in_nI (a := 0) (b := 1) (by omega) ca (by omega)
      refine best_core (by omega) (Or.inl cb) R hK (fun v S1 w => hF _ _ ?_)
      unfold wpX8_best
      refine v1 ca ?_
      rw [if_neg nfi, if_pos cb]
      exact w
    · rw [if_neg cb]
      by_cases cm : ∃ i, i < m ∧ b = nI i
      · obtain ⟨i, hi, rfl⟩ := id cm
        refine man1 hT.2.1.1 hm hi ?_
        rw [if_neg nfi]
        obtain ⟨s, _, hs, rfl⟩ := in_nI (a := 0) (b := 1) (by omega) ca (by omega)
        refine sp_tryAll hT (h2.2.2 r hr).1 (fun S1 p1 f1 => ?_)
        have m1 := RM_fk hM f1.1
        have R1 := Rel_q R f1.1.1 m1
        have hn := hT.1.2.1
        obtain ⟨c1, c2, c3⟩ := PC_p p1 (show s < 2 by omega)
        refine ⟨vp_in_nI (by omega) (by omega), ?_⟩
        rw [nI_clamp (by omega), c1]
        have go : ∀ v : Int32, (∀ S2, PM S2 m (prj s (allP m n (V r) T)) → Rel S2 → (if (prj s (allP m n (V r) T)).1 = 0 then (if v = -3 then K S2 else False) else (if nI i = -1 then (if v = S2.1 40 0 43 then K S2 else False) else (vp_in (nI i) 4 ∧ if v = S2.1 57 0 (nI i).toNatClampNeg then K S2 else False)))) → F v S1 := fun v h => hF v S1 (by
          unfold wpX8_best
          refine v1 ca ?_
          rw [if_neg nfi, if_neg cb]
          refine mman1 m1.1.1 hm hi ?_
          rw [if_neg nfi]
          exact mp_goes hm hn (by omega) hV m1 (R1.2.2.2.2.1.2.2 r hr).2 (fun S2 p2 m2 f2 => h S2 p2 ⟨m, n, r, T, k, V, Rel_q R1 (fz_fg f2) m2⟩))
        by_cases q : (prj s (allP m n (V r) T)).1 = 0
        · rw [if_pos q]
          refine go _ (fun S2 p2 R2 => ?_)
          rw [if_pos q]
          exact same (hK _ R2)
        · rw [if_neg q, if_neg (nI_nm1 (by omega))]
          unfold wpX1_bestMaid
          have e : nI s * 4 + nI i = nI (4 * s + i) := by rw [show (4 : Int32) = nI 4 from rfl, pk_mul, nI_add, Nat.mul_comm]
          rw [e, nI_clamp (by omega)]
          refine ⟨vp_in_nI (by omega) (by omega), go _ (fun S2 p2 R2 => ?_)⟩
          rw [if_neg q, if_neg (nI_nm1 (by omega)), nI_clamp (by omega), (c3.resolve_left q) i hi, (p2.2.2.resolve_left q) i hi]
          exact ⟨vp_in_nI (by omega) (by omega), same (hK _ R2)⟩
      · refine man0 hT.2.1.1 hm cm ?_
        rw [if_pos rfl]
        refine hF _ _ ?_
        unfold wpX8_best
        refine v1 ca ?_
        rw [if_neg nfi, if_neg cb]
        refine mman0 hM.1.1 hm cm ?_
        rw [if_pos rfl]
        exact same (hK _ hR)
  · refine w0 ca ?_
    rw [if_pos rfl]
    refine hF _ _ ?_
    unfold wpX8_best
    refine v0 ca ?_
    rw [if_pos rfl]
    exact same (hK _ hR)
end
/-- a told row -/
def rowB (n : Nat) (I : Nat → Int32) : Nat → Nat → Nat → Bool
  | 0, _, _ => true
  | d + 1, x, k => if I x = -1 then rowB n I d (x + 1) k else if (0 ≤ I x ∧ I x ≤ nI n - 1) ∧ k.testBit (I x).toNatClampNeg = false then rowB n I d (x + 1) (k ||| 2 ^ (I x).toNatClampNeg) else false
def rkV (w l s : Bool) : Int32 := bif w then (bif l then (bif s then 3 else 2) else 1) else 0
theorem upd_self {I : Nat → Int32} {x : Nat} {v : Int32} (h : I x = v) : upd I x v = I := by
  funext j
  rw [upd_rd]
  by_cases q : j = x
  · rw [if_pos q, q, h]
  · rw [if_neg q]
section
variable {t m n r : Nat} {T : Tn} {U : Rl} {I : Nat → Int32}
theorem rk_no {n : Nat} {v : Int32} (hn : n ≤ 4) (h : ¬ v < -1) (h2 : ¬ nI n ≤ v) (h3 : ¬ v = -1) : 0 ≤ v ∧ v ≤ nI n - 1 := by
  have c0 : 0 ≤ v := by
    have a := Int32.not_lt.mp h
    have a1 := Int32.le_iff_toInt_le.mp a
    have a2 : (-1 : Int32).toInt = -1 := by decide
    have a3 : v.toInt ≠ -1 := fun w => h3 (Int32.toInt_inj.mp (w.trans a2.symm))
    have a4 : (0 : Int32).toInt = 0 := by decide
    rw [Int32.le_iff_toInt_le]; omega
  obtain ⟨j, hj, rfl⟩ := nI_of (x := v) (Int32.not_lt.mpr c0)
  refine (isIx (by omega)).mpr ⟨j, ?_, rfl⟩
  rw [nI_leI (by omega) hj] at h2
  omega
theorem sp_rk_l {q : Nat} {K : Int32 → St → Prop} : ∀ (d x k : Nat) (A : Bool) (S : St), x + d = m → k < 16 → RT S t m n r T → WG S m n U T m 0 → okP n x I k → (∀ i, i < x → S.1 24 0 i = I i) → (∀ j, j < m → S.1 31 q j = I j) →
    (∀ S1, fp S S1 → K (rkV (rowB n I d x k) (A && lawB (NO U T) I d x) (steO m n (NO U T) (LO T) (HO T) I m 0)) S1) → wbX1_rank_13 t q K (d + 1) (nI k) (bI A) (nI x) S
  | 0, x, k, A, S, e, hk, hT, hW, hP, h24, h31, kk => by
    have hm := hT.1.1
    obtain rfl : x = m := by omega
    show if S.1 10 t 0 ≤ nI x then _ else _
    rw [hT.2.1.1, if_pos (nI_le (Nat.le_refl x) (by omega))]
    refine bI_if (fun w => ?_) (fun w => ?_)
    · rw [w] at kk
      exact kk S (fun _ _ _ => rfl)
    · refine sp_steady (U := U) hP.1 hT hW h24 (fun S2 W2 => ?_)
      have := kk S2 (fun kd i w => W2 kd i (by omega))
      rw [w] at this
      refine bI_if (fun w2 => ?_) (fun w2 => ?_)
      · rw [w2] at this; exact this
      · rw [w2] at this; exact this
  | d + 1, x, k, A, S, e, hk, hT, hW, hP, h24, h31, kk => by
    have hm := hT.1.1
    have hn := hT.1.2.1
    have vx : vp_in (nI x) 4 := vp_in_nI (by omega) (by omega)
    show if S.1 10 t 0 ≤ nI x then _ else _
    rw [hT.2.1.1, if_neg (nI_ge (by omega) (by omega)), hT.2.1.2.1, nI_clamp (by omega), h31 x (by omega)]
    refine ⟨vp_in_nI (by omega) (by omega), ?_⟩
    unfold rowB lawB at kk
    have bad : ¬ I x = -1 → ¬ ((0 ≤ I x ∧ I x ≤ nI n - 1) ∧ k.testBit (I x).toNatClampNeg = false) → K 0 S := fun c1 c2 => by
      rw [if_neg c1, if_neg c2] at kk
      exact kk S (fun _ _ _ => rfl)
    have mk : ∀ (v : Int32) S2, S2 = su S 24 0 x v → fp S S2 := fun v S2 e2 => by rw [e2]; exact fun kd i w => sa_ne (by omega)
    have h242 : ∀ S2, S2 = su S 24 0 x (I x) → ∀ i, i < x + 1 → S2.1 24 0 i = I i := fun S2 e2 i hi => by
      rw [e2, sa_eq, upd_rd]
      by_cases q : i = x
      · rw [if_pos q, q]
      · rw [if_neg q]; exact h24 i (by omega)
    by_cases c1 : I x < -1
    · rw [if_pos c1]
      refine bad (fun w => by rw [w] at c1; exact absurd c1 (by decide)) (fun w => absurd (Int32.lt_of_le_of_lt w.1.1 c1) (by decide))
    rw [if_neg c1]
    by_cases c2 : nI n ≤ I x
    · rw [if_pos c2]
      refine bad (fun w => by rw [w] at c2; exact not_le_m1 (by omega) c2) (fun w => ?_)
      obtain ⟨j, hj, ej⟩ := (isIx (by omega)).mp w.1
      rw [ej, nI_leI (by omega) (by omega)] at c2
      omega
    rw [if_neg c2]
    by_cases c3 : I x = -1
    · rw [if_pos c3]
      unfold wbX1_rank_61
      rw [if_pos c3]
      unfold wbX1_rank_101
      rw [nI_clamp (by omega), nI_1]
      refine ⟨vx, fun S2 e2 => ?_⟩
      have f2 := mk _ S2 e2
      have P2 := okP_m hn hP
      rw [upd_self c3] at P2
      rw [if_pos c3, decide_eq_true c3] at kk
      exact sp_rk_l d (x + 1) k A S2 (by omega) hk (RT_fu hT (fp_fu f2)) (WG_fp hW f2) P2 (h242 S2 e2) (fun j hj => by rw [f2 31 q (by omega)]; exact h31 j hj) (fun S3 f3 => kk S3 (fp_tr f2 f3))
    · rw [if_neg c3]
      have c4 := rk_no hn c1 c2 c3
      obtain ⟨y, hy, ey⟩ := (isIx (by omega)).mp c4
      have ec : (I x).toNatClampNeg = y := by rw [ey, nI_clamp (by omega)]
      rw [if_neg c3, decide_eq_false c3, ec] at kk
      have bt := bt_c k hk y (by omega)
      by_cases c5 : k.testBit y = true
      · rw [if_pos (by rw [ey, bt, c5]; rfl)]
        exact bad c3 (fun w => by rw [ec, c5] at w; exact absurd w.2 (by decide))
      · have c5 : k.testBit y = false := by cases h : k.testBit y <;> simp_all
        rw [if_neg (by rw [ey, bt, c5]; decide)]
        rw [if_pos ⟨c4, c5⟩] at kk
        obtain ⟨o1, o2, _⟩ := bt_or k hk y (by omega)
        have P2 := okP_y hn hk hy c5 hP
        rw [upd_self ey] at P2
        have nx : ∀ B : Bool, B = (A && !NO U T x y) → ∀ S2, S2 = su S 24 0 x (I x) → wbX1_rank_13 t q K (d + 1) (nI (k ||| 2 ^ y)) (bI B) (nI (x + 1)) S2 := fun B eB S2 e2 => by
          have f2 := mk _ S2 e2
          refine sp_rk_l d (x + 1) (k ||| 2 ^ y) B S2 (by omega) o2 (RT_fu hT (fp_fu f2)) (WG_fp hW f2) P2 (h242 S2 e2) (fun j hj => by rw [f2 31 q (by omega)]; exact h31 j hj) (fun S3 f3 => ?_)
          have := kk S3 (fp_tr f2 f3)
          rw [cond_false, ← Bool.and_assoc, ← eB] at this
          exact this
        unfold wbX1_rank_61
        rw [if_neg c3]
        have st : ∀ B : Bool, B = (A && !NO U T x y) → wbX1_rank_99 t q (fun yx3 yx4 yx5 S9 => wbX1_rank_13 t q K (d + 1) yx3 yx4 yx5 S9) K (nI k ||| (1 <<< (I x &&& 31))) (nI x) (I x) (bI B) S := fun B eB => by
          unfold wbX1_rank_99 wbX1_rank_101
          rw [nI_clamp (by omega), nI_1]
          refine ⟨vx, fun S2 e2 => ?_⟩
          rw [show nI k ||| (1 <<< (I x &&& 31)) = nI (k ||| 2 ^ y) by rw [ey]; exact o1]
          exact nx B eB S2 e2
        refine bI_if (fun w => ?_) (fun w => ?_)
        · unfold wbX1_rank_98
          exact st false (by rw [w]; rfl)
        · rw [ey]
          refine sp_at ⟨vp_in_nI (by omega) (by omega), ?_⟩
          rw [nI_clamp (by omega), (hW x y (by omega) hy (by omega)).1, ← ey]
          refine bI_if (fun w2 => ?_) (fun w2 => ?_)
          · unfold wbX1_rank_98
            exact st false (by rw [w2, Bool.and_false])
          · exact st true (by rw [w, w2]; rfl)
theorem sp_rank {q : Nat} {S : St} {K : Int32 → St → Prop} (hT : RT S t m n r T) (hU : RuC S r U) (h31 : ∀ j, j < m → S.1 31 q j = I j) (k : ∀ S1, fu S S1 → K (rkV (rowB n I m 0 0) (lawB (NO U T) I m 0) (steO m n (NO U T) (LO T) (HO T) I m 0)) S1) : wpX1_rank t q S K := by
  unfold wpX1_rank
  refine sp_weigh hT hU (fun S1 t1 u1 W1 f1 => ⟨m + 1, ?_⟩)
  exact sp_rk_l (I := I) m 0 0 true S1 (by omega) (by omega) t1 W1 ⟨⟨fun i hi => by omega, fun i j hi => by omega⟩, fun i hi => by omega⟩ (fun i hi => by omega) (fun j hj => by rw [f1.1.1.1 31 q (by unfold cz; omega)]; exact h31 j hj) (fun S2 f2 => k S2 (fu_tr f1 (fp_fu f2)))
theorem mp_rk_l {q : Nat} {K : Int32 → St → Prop} (hm : m ≤ 4) (hn : n ≤ 4) (hq : q < 4) (hV : VT m n T) : ∀ (d x k : Nat) (S : St), x + d = m → k < 16 → RM S m n r T → RuM S r U → rng x n I → (∀ i, i < x → S.1 56 0 i = I i) → (∀ j, j < m → S.1 67 0 (40 * q + j) = I j) →
    (∀ S1, fg S S1 → K (rkV (rowB n I d x k) (lawB (NO U T) I m 0) (steO m n (NO U T) (LO T) (HO T) I m 0)) S1) → wbX8_row_42 K (nI q) (d + 1) (nI k) (nI x) S
  | 0, x, k, S, e, hk, hT, hU, hP, h56, h67, kk => by
    obtain rfl : x = m := by omega
    show if S.1 40 0 7 ≤ nI x then _ else _
    rw [hT.1.1, if_pos (nI_le (Nat.le_refl x) (by omega))]
    refine mp_gathers (U := U) hm hn hV hT hU (fun S1 t1 u1 g1 f1 c1 => ?_)
    have h1 : ∀ i, i < x → S1.1 56 0 i = I i := fun i hi => by rw [c1]; exact h56 i hi
    have := kk S1 f1
    refine mp_steady (U := U) hm hn hP t1 g1 h1 (bI_if (fun w => mp_lawful (U := U) hm hn hP t1 g1 h1 (bI_if (fun w2 => ?_) (fun w2 => ?_))) (fun w => ?_))
    · rw [w2] at this; exact this
    · rw [w2] at this w
      rw [Bool.true_and] at w
      rw [w] at this
      exact this
    · rw [Bool.and_eq_true] at w
      rw [w.1, w.2] at this
      exact this
  | d + 1, x, k, S, e, hk, hT, hU, hP, h56, h67, kk => by
    have vx : vp_in (nI x) 4 := vp_in_nI (by omega) (by omega)
    show if S.1 40 0 7 ≤ nI x then _ else _
    rw [hT.1.1, if_neg (nI_ge (by omega) (by omega)), at40, nI_clamp (by omega), h67 x (by omega)]
    refine ⟨vp_in_nI (by omega) (by omega), ?_⟩
    unfold rowB at kk
    have nx : ∀ k2, k2 < 16 → rng (x + 1) n I → (∀ S1, fg S S1 → K (rkV (rowB n I d (x + 1) k2) (lawB (NO U T) I m 0) (steO m n (NO U T) (LO T) (HO T) I m 0)) S1) → wbX8_row_103 (fun yx2 yx3 S9 => wbX8_row_42 K (nI q) (d + 1) yx2 yx3 S9) K (nI q) (nI k2) (nI x) (I x) S := fun k2 hk2 P2 k3 => by
      unfold wbX8_row_103
      rw [nI_clamp (by omega), nI_1]
      refine ⟨vx, fun S2 e2 => ?_⟩
      have f2 : fg S S2 := by rw [e2]; exact fg_sa (fg_rfl S)
      refine mp_rk_l hm hn hq hV d (x + 1) k2 S2 (by omega) hk2 (RM_fg hT f2) (RuM_fz hU (fz_fg f2)) P2 (fun i hi => ?_) (fun j hj => by rw [f2.1 67 0 (by omega) (by omega) (by omega) (by omega)]; exact h67 j hj) (fun S3 f3 => k3 S3 (fg_tr f2 f3))
      rw [e2, sa_eq, upd_rd]
      by_cases q : i = x
      · rw [if_pos q, q]
      · rw [if_neg q]; exact h56 i (by omega)
    have rg : (I x = -1 ∨ ∃ y, y < n ∧ I x = nI y) → rng (x + 1) n I := fun w i hi => by
      by_cases q : i = x
      · rw [q]; exact w
      · exact hP i (by omega)
    by_cases c3 : I x = -1
    · rw [if_pos c3] at kk ⊢
      unfold wbX8_row_90
      rw [if_pos c3]
      exact nx k hk (rg (Or.inl c3)) kk
    · rw [if_neg c3] at kk ⊢
      by_cases c4 : ∃ y, y < n ∧ I x = nI y
      · obtain ⟨y, hy, ey⟩ := c4
        have ec : (I x).toNatClampNeg = y := by rw [ey, nI_clamp (by omega)]
        rw [ec] at kk
        have bt := bt_c k hk y (by omega)
        have go : wpX8_isMaid (nI y) S (fun r15 S15 => if r15 = 0 then (K 0 S15) else (if ((nI k >>> (I x &&& 31)) &&& 1) = 1 then (K 0 S15) else (wbX8_row_90 (fun yx2 yx3 S9 => wbX8_row_42 K (nI q) (d + 1) yx2 yx3 S9) K (nI q) (nI k) (nI x) (I x) S15))) := by
          refine mmaid1 hT.1.2.1 hn hy ?_
          rw [if_neg nfi]
          cases c5 : k.testBit y
          · rw [if_neg (by rw [ey, bt, c5]; decide)]
            rw [if_pos ⟨(isIx (by omega)).mpr ⟨y, hy, ey⟩, c5⟩] at kk
            unfold wbX8_row_90
            rw [if_neg c3]
            obtain ⟨o1, o2, _⟩ := bt_or k hk y (by omega)
            rw [show nI k ||| (1 <<< (I x &&& 31)) = nI (k ||| 2 ^ y) by rw [ey]; exact o1]
            exact nx _ o2 (rg (Or.inr ⟨y, hy, ey⟩)) kk
          · rw [if_pos (by rw [ey, bt, c5]; rfl)]
            rw [if_neg (fun w => by rw [c5] at w; exact absurd w.2 (by decide))] at kk
            exact kk S (fg_rfl S)
        rw [← ey] at go
        exact go
      · refine mmaid0 hT.1.2.1 hn c4 ?_
        rw [if_pos rfl]
        rw [if_neg (fun w => c4 ((isIx (by omega)).mp w.1))] at kk
        exact kk S (fg_rfl S)
end
section
variable {S : St} {F : Int32 → St → Prop} {K : St → Prop} {a b : Int32}
theorem call_row (R : Rel S) (hK : ∀ S1, Rel S1 → K S1) (hF : Hm F (wpX8_row a) K) : wpX7_row a S F := by
  obtain ⟨m, n, r, T, k, V, R⟩ := R
  have hR : Rel S := ⟨m, n, r, T, k, V, R⟩
  obtain ⟨hT, hJ, hM, hV, h2, hr, h3, h4, h5⟩ := id R
  have hm := hT.1.1
  have hn := hT.1.2.1
  unfold wpX7_row
  by_cases ca : 0 ≤ a ∧ a ≤ 3
  · refine s1 ca ?_
    rw [if_neg nfi]
    obtain ⟨q, hq, rfl⟩ := sht ca
    have vq : vp_in (nI q) 4 := vp_in_nI hq (by omega)
    refine ⟨vq, ?_⟩
    unfold wpX4_isMissing
    rw [nI_clamp (by omega)]
    have md : ∀ (v : Int32) (S1 : St), (if (S1.1 64 0 q) = 0 then (if v = (-11) then K S1 else False) else (if (S1.1 66 0 q) = (S1.1 40 0 7) then (∃ k, wbX8_row_42 (fun r2 S2 => if v = r2 then K S2 else False) (nI q) k 0 0 S1) else (if v = (-2) then K S1 else False))) → wpX8_row (nI q) S1 (fun r2 S2 => if v = r2 then K S2 else False) := by
      intro v S1 hv
      unfold wpX8_row
      refine ms1 ca ?_
      rw [if_neg nfi, nI_clamp (by omega)]
      refine ⟨vq, ?_⟩
      by_cases w : S1.1 64 0 q = 0
      · rw [if_pos w] at hv ⊢; exact hv
      · rw [if_neg w] at hv ⊢; exact ⟨vq, hv⟩
    rcases h5 q hq with ⟨u1, u2⟩ | ⟨so, z, u0, u1, u2, u3, u4, u5, u6, u7⟩
    · rw [u1, if_pos rfl]
      show if (1 : Int32) = 0 then _ else _
      rw [if_neg nfi]
      refine hF _ _ (md _ _ ?_)
      rw [u2, if_pos rfl]
      exact same (hK _ hR)
    rw [u2, if_neg (nI_nm1 (by omega))]
    show if (0 : Int32) = 0 then _ else _
    rw [if_pos rfl, u5, hT.2.1.1]
    by_cases cz : z = m
    · subst cz
      rw [if_pos rfl]
      refine sp_rank (U := V r) (I := S.1 31 q) hT (h2.2.2 r hr).1 (fun j _ => rfl) (fun S1 f1 => hF _ _ (md _ _ ?_))
      have m1 := RM_fk hM f1.1
      have R1 := Rel_q R f1.1.1 m1
      rw [f1.1.2.1 64 0 (by omega), f1.1.2.1 66 0 (by omega), m1.1.1, u3, if_neg nfi, u6, if_pos rfl]
      exact ⟨z + 1, mp_rk_l (U := V r) (I := S.1 31 q) hm hn hq hV z 0 0 S1 (by omega) (by omega) m1 (R1.2.2.2.2.1.2.2 r hr).2 (fun i hi => by omega) (fun i hi => by omega) (fun j hj => by rw [f1.1.2.1 67 0 (by omega)]; exact (u7 j hj).symm) (fun S2 f2 => same (hK _ ⟨z, n, r, T, k, V, Rel_q R1 (fz_fg f2) (RM_fg m1 f2)⟩))⟩
    · rw [if_neg (fun w => cz ((nI_eq (by omega) (by omega)).mp w))]
      refine hF _ _ (md _ _ ?_)
      rw [u3, if_neg nfi, u6, hM.1.1, if_neg (fun w => cz ((nI_eq (by omega) (by omega)).mp w))]
      exact same (hK _ hR)
  · refine s0 ca ?_
    rw [if_pos rfl]
    refine hF _ _ ?_
    unfold wpX8_row
    refine ms0 ca ?_
    rw [if_pos rfl]
    exact same (hK _ hR)
end
end
