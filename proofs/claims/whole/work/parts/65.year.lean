/-! year -/
abbrev Yr := Tn × Int32 × Int32
def manY (m n : Nat) (U : Rl) (x : Nat) (s : Yr) : Yr :=
  if pick (choO m U s.1 x) (choK s.1 x) n 0 (-1) = -1 then s else
    (endT s.1 x (pick (choO m U s.1 x) (choK s.1 x) n 0 (-1)).toNatClampNeg (!noB U s.1 x (pick (choO m U s.1 x) (choK s.1 x) n 0 (-1)).toNatClampNeg (s.1 1 x)), s.2.1 + 1,
      bif !noB U s.1 x (pick (choO m U s.1 x) (choK s.1 x) n 0 (-1)).toNatClampNeg (s.1 1 x) then s.2.2 else s.2.2 + prcF (s.1 3 (pick (choO m U s.1 x) (choK s.1 x) n 0 (-1)).toNatClampNeg) (s.1 4 (pick (choO m U s.1 x) (choK s.1 x) n 0 (-1)).toNatClampNeg))
def rndY (m n : Nat) (U : Rl) : Nat → Nat → Yr → Yr
  | 0, _, s => s
  | d + 1, x, s => rndY m n U d (x + 1) (manY m n U x s)
def yrY (m n : Nat) (U : Rl) : Nat → Yr → Yr
  | 0, s => s
  | c + 1, s => yrY m n U c (rndY m n U m 0 s)
def yrA (m : Nat) (s : Yr) (i : Nat) : Int32 := if i = 0 then marU (s.1 2) m 0 0 else if i = 1 then s.2.1 else if i = 2 then s.2.2 else if i - 3 < m then s.1 2 (i - 3) else -1
section
variable {m n r : Nat} {U : Rl} {x : Nat}
theorem pickQ {T : Tn} : (pick (choO m U T x) (choK T x) n 0 (-1) = -1 ∨ ∃ y, y < n ∧ pick (choO m U T x) (choK T x) n 0 (-1) = nI y ∧ mayB m T x y = true) :=
  pick_in (fun y _ h => by unfold choO at h; simp at h; exact h.1) n 0 (-1) (by omega) (Or.inl rfl)
theorem manY_VT {s : Yr} (hx : x < m) (hm : m ≤ 4) (hn : n ≤ 4) (h : VT m n s.1) : VT m n (manY m n U x s).1 := by
  unfold manY
  rcases pickQ (m := m) (n := n) (U := U) (x := x) (T := s.1) with w | ⟨y, hy, w, hq⟩
  · rw [if_pos w]; exact h
  · rw [if_neg (by rw [w]; exact nI_nm1 (by omega)), w, nI_clamp (by omega)]
    exact VT_end h hx hn (fun _ => ⟨hy, (may_no hq hm).2⟩)
theorem sp_cho_l {T : Tn} {K : Int32 → St → Prop} (hx : x < m) : ∀ (d y : Nat) (b : Int32) (S : St), RT S 1 m n r T → RuC S r U → y + d = n → isB n b → (∀ S1, fq S S1 → K (pick (choO m U T x) (choK T x) d y b) S1) → wbX5_choice_4 1 K (nI x) (d + 1) b (nI y) S
  | 0, y, b, S, hT, hU, e, hb, k => by
    obtain ⟨⟨hm, hn, hr⟩, ⟨h0, h1, _⟩, _⟩ := id hT
    show if S.1 10 1 1 ≤ nI y then _ else _
    rw [h1, if_pos (nI_le (by omega) (by omega))]
    exact k S (fq_rfl S)
  | d + 1, y, b, S, hT, hU, e, hb, k => by
    obtain ⟨⟨hm, hn, hr⟩, ⟨h0, h1, _⟩, _⟩ := id hT
    show if S.1 10 1 1 ≤ nI y then _ else _
    rw [h1, if_neg (nI_ge (by omega) (by omega))]
    unfold wbX5_choice_60 wbX5_choice_58 wbX5_choice_60
    rw [nI_1]
    unfold pick at k
    have go : ∀ (b2 : Int32) (S1 : St), fq S S1 → b2 = (bif choO m U T x y then (if b = -1 then nI y else bif choK T x b.toNatClampNeg y then b else nI y) else b) → wbX5_choice_4 1 K (nI x) (d + 1) b2 (nI (y + 1)) S1 := by
      intro b2 S1 f1 e2
      subst e2
      exact sp_cho_l hx d (y + 1) _ S1 (RT_fq hT f1) (RuC_fq hU f1) (by omega) (nx_in e hb) (fun S2 f2 => k S2 (fq_tr f1 f2))
    refine sp_mayAsk hT hx (by omega) (bI_if (fun w => go b S (fq_rfl S) (by simp [choO, w])) (fun w => ?_))
    refine sp_wants hT hU hx (by omega) (fun S1 f1 => bI_if (fun w2 => go b S1 f1 (by simp [choO, w, w2])) (fun w2 => ?_))
    by_cases q : b = -1
    · rw [if_pos q]
      exact go (nI y) S1 f1 (by simp [choO, w, w2, q])
    · rw [if_neg q]
      obtain ⟨y2, hy2, e2⟩ := pk_bst (S := S) (y := y) hx hm hn hb q
      rw [e2]
      have hB := (RT_fq hT f1).2.2.2.2
      refine sp_at ⟨vp_in_nI (by omega) (by omega), sp_at ⟨vp_in_nI (by omega) (by omega), ?_⟩⟩
      rw [nI_clamp (by omega), nI_clamp (by omega), (hB x y hx (by omega)).1, (hB x y2 hx hy2).1]
      by_cases q2 : T 5 (4 * x + y) ≤ T 5 (4 * x + y2)
      · rw [if_pos q2]
        exact go (nI y2) S1 f1 (by rw [e2] at q ⊢; simp [choO, choK, w, w2, q, nI_clamp (show y2 < 2 ^ 31 by omega), q2])
      · rw [if_neg q2]
        exact go (nI y) S1 f1 (by rw [e2] at q ⊢; simp only [choO, choK, w, w2, Bool.and_true, cond_true, if_neg q, nI_clamp (show y2 < 2 ^ 31 by omega), decide_eq_false q2, cond_false])
theorem sp_pass_l {K : St → Prop} : ∀ (d x : Nat) (s : Yr) (S : St), x + d = m → RT S 1 m n r s.1 → VT m n s.1 → RuC S r U → S.1 10 1 4 = s.2.1 → S.1 10 1 5 = s.2.2 → (∀ S1, RT S1 1 m n r (rndY m n U d x s).1 → VT m n (rndY m n U d x s).1 → S1.1 10 1 4 = (rndY m n U d x s).2.1 → S1.1 10 1 5 = (rndY m n U d x s).2.2 → fk S S1 → K S1) → wbX7_passRound_2 K (d + 1) (nI x) S
  | 0, x, s, S, e, hT, hV, hU, h4, h5, k => by
    have hm := hT.1.1
    show if S.1 10 1 0 ≤ nI x then _ else _
    rw [hT.2.1.1, if_pos (nI_le (by omega) (by omega))]
    exact k S hT hV h4 h5 (fk_rfl S)
  | d + 1, x, s, S, e, hT, hV, hU, h4, h5, k => by
    have hm := hT.1.1
    have hn := hT.1.2.1
    show if S.1 10 1 0 ≤ nI x then _ else _
    rw [hT.2.1.1, if_neg (nI_ge (by omega) (by omega))]
    unfold wbX7_passRound_37
    rw [nI_1]
    unfold rndY at k
    have hV2 := manY_VT (U := U) (x := x) (s := s) (by omega) hm hn hV
    refine ⟨n + 1, sp_cho_l (T := s.1) (by omega) n 0 (-1) S hT hU (by omega) (Or.inl rfl) (fun S1 f1 => ?_)⟩
    have c10 : S1.1 10 1 = S.1 10 1 := f1.1 10 1 (by omega) (by omega) (by omega)
    rcases pickQ (m := m) (n := n) (U := U) (x := x) (T := s.1) with w | ⟨y, hy, w, hq⟩
    · rw [w, if_pos rfl]
      have em : manY m n U x s = s := by unfold manY; rw [if_pos w]
      rw [em] at k
      exact sp_pass_l d (x + 1) s S1 (by omega) (RT_fq hT f1) hV (RuC_fq hU f1) (by rw [c10, h4]) (by rw [c10, h5]) (fun S2 a b c2 d2 e2 => k S2 a b c2 d2 (fk_tr (fk_fq f1) e2))
    · rw [w, if_neg (nI_nm1 (by omega))]
      have em : manY m n U x s = (endT s.1 x y (!noB U s.1 x y (s.1 1 x)), s.2.1 + 1, bif !noB U s.1 x y (s.1 1 x) then s.2.2 else s.2.2 + prcF (s.1 3 y) (s.1 4 y)) := by
        unfold manY; rw [if_neg (by rw [w]; exact nI_nm1 (by omega)), w, nI_clamp (by omega)]
      rw [em] at k hV2
      refine sp_asking (RT_fq hT f1) (RuC_fq hU f1) (by omega) hy (fun S2 t2 f2 a2 b2 => ?_)
      exact sp_pass_l d (x + 1) _ S2 (by omega) t2 hV2 (RuC_fz (RuC_fq hU f1) f2.1) (by rw [a2, c10, h4]) (by rw [b2, c10, h5]) (fun S3 a b c2 d2 e2 => k S3 a b c2 d2 (fk_tr (fk_tr (fk_fq f1) f2) e2))
theorem sp_yr_l {K : Int32 → St → Prop} {c i : Nat} (hc : c ≤ 12) (hi : i ≤ 6) : ∀ (d j : Nat) (s : Yr) (S : St), j + d = c → S.1 10 0 0 = nI m → RT S 1 m n r s.1 → VT m n s.1 → RuC S r U → S.1 10 1 4 = s.2.1 → S.1 10 1 5 = s.2.2 → (∀ S1, fk S S1 → K (yrA m (yrY m n U d s) i) S1) → wbX7_year_36 K (nI c) (nI i) (d + 1) (nI j) S
  | 0, j, s, S, e, h0, hT, hV, hU, h4, h5, k => by
    have hm := hT.1.1
    show if nI c ≤ nI j then _ else _
    rw [if_pos (nI_le (by omega) (by omega))]
    have k := k S (fk_rfl S)
    unfold yrY yrA at k
    rcases (show i = 0 ∨ i = 1 ∨ i = 2 ∨ 3 ≤ i by omega) with rfl | rfl | rfl | hi3
    · rw [if_pos (by decide)]
      exact ⟨m + 1, sp_mar_l hT m 0 0 (by omega) k⟩
    · rw [if_neg (by decide), if_pos (by decide), h4]; exact k
    · rw [if_neg (by decide), if_neg (by decide), if_pos (by decide), h5]; exact k
    · have q : ∀ z : Nat, z < 3 → ¬ nI i = nI z := fun z hz w => by have := (nI_eq (by omega) (by omega)).mp w; omega
      rw [if_neg (show ¬ nI i = 0 from q 0 (by omega)), if_neg (show ¬ nI i = 1 from q 1 (by omega)), if_neg (show ¬ nI i = 2 from q 2 (by omega)), show nI i - 3 = nI (i - 3) from pk_sub (b := 3) hi3]
      rw [if_neg (by omega), if_neg (by omega), if_neg (by omega)] at k
      by_cases c1 : i - 3 < m
      · rw [if_pos c1] at k
        refine man1 h0 hm c1 ?_
        rw [if_neg nfi, nI_clamp (by omega), (hT.2.2.1 _ c1).2]
        exact ⟨vp_in_nI (by omega) (by omega), k⟩
      · rw [if_neg c1] at k
        refine man0 h0 hm (fun ⟨z, hz, ez⟩ => c1 ?_) ?_
        · have := (nI_eq (by omega) (by omega)).mp ez; omega
        · rw [if_pos rfl]; exact k
  | d + 1, j, s, S, e, h0, hT, hV, hU, h4, h5, k => by
    show if nI c ≤ nI j then _ else _
    rw [if_neg (nI_ge (by omega) (by omega)), nI_1]
    refine ⟨m + 1, sp_pass_l m 0 s S (by omega) hT hV hU h4 h5 (fun S1 t1 v1 a1 b1 f1 => ?_)⟩
    exact sp_yr_l hc hi d (j + 1) _ S1 (by omega) (by rw [f1.1.1 10 0 (by unfold cz; omega), h0]) t1 v1 (RuC_fz hU f1.1) a1 b1 (fun S2 f2 => k S2 (fk_tr f1 f2))
/-- the reference's year -/
theorem mp_cho_l {T : Tn} {K : Int32 → St → Prop} {R39 R48 : Int32 → Int32 → Int32 → St → Prop} {x1 x2 x3 x4 x5 : Int32} (hx : x < m) (hm : m ≤ 4) (hn : n ≤ 4) : ∀ (d y : Nat) (b : Int32) (S : St), RM S m n r T → RuM S r U → y + d = n → isB n b → (∀ S1, fq S S1 → wbX8_year_63 R39 R48 K x1 x2 x3 x4 x5 (nI x) 1 (pick (choO m U T x) (choK T x) d y b) (nI n) S1) → wbX8_year_63 R39 R48 K x1 x2 x3 x4 x5 (nI x) (d + 1) b (nI y) S
  | 0, y, b, S, hT, hU, e, hb, k => by
    obtain rfl : y = n := by omega
    exact k S (fq_rfl S)
  | d + 1, y, b, S, hT, hU, e, hb, k => by
    show if S.1 40 0 8 ≤ nI y then _ else _
    rw [hT.1.2.1, if_neg (nI_ge (by omega) (by omega))]
    unfold wbX8_year_98 wbX8_year_99 wbX8_year_139 wbX8_year_143
    rw [nI_1]
    unfold pick at k
    have go : ∀ (b2 : Int32) (S1 : St), fq S S1 → b2 = (bif choO m U T x y then (if b = -1 then nI y else bif choK T x b.toNatClampNeg y then b else nI y) else b) → wbX8_year_63 R39 R48 K x1 x2 x3 x4 x5 (nI x) (d + 1) b2 (nI (y + 1)) S1 := by
      intro b2 S1 f1 e2
      subst e2
      exact mp_cho_l hx hm hn d (y + 1) _ S1 (RM_fq hT f1) (RuM_fq hU f1) (by omega) (nx_in e hb) (fun S2 f2 => k S2 (fq_tr f1 f2))
    refine mp_mayAsk hT hm hn hx (by omega) (bI_if (fun w => ?_) (fun w => ?_))
    · rw [if_pos rfl]
      exact go b S (fq_rfl S) (by simp [choO, w])
    refine mp_wants hT hm hn hU hx (by omega) (fun S1 f1 => bI_if (fun w2 => ?_) (fun w2 => ?_))
    · rw [if_pos rfl]
      exact go b S1 f1 (by simp [choO, w, w2])
    · rw [if_neg nfi]
      by_cases q : b = -1
      · rw [if_pos q]
        exact go (nI y) S1 f1 (by simp [choO, w, w2, q])
      · rw [if_neg q]
        obtain ⟨y2, hy2, e2⟩ := pk_bst (S := S) (y := y) hx hm hn hb q
        rw [e2, at4, at4]
        have hB := (RM_fq hT f1).2.2.2
        refine ⟨vp_in_nI (by omega) (by omega), vp_in_nI (by omega) (by omega), ?_⟩
        rw [nI_clamp (by omega), nI_clamp (by omega), (hB x y hx (by omega)).1, (hB x y2 hx hy2).1]
        by_cases q2 : T 5 (4 * x + y) ≤ T 5 (4 * x + y2)
        · rw [if_pos q2]
          exact go (nI y2) S1 f1 (by rw [e2] at q ⊢; simp [choO, choK, w, w2, q, nI_clamp (show y2 < 2 ^ 31 by omega), q2])
        · rw [if_neg q2]
          exact go (nI y) S1 f1 (by rw [e2] at q ⊢; simp only [choO, choK, w, w2, Bool.and_true, cond_true, if_neg q, nI_clamp (show y2 < 2 ^ 31 by omega), decide_eq_false q2, cond_false])
theorem mp_rnd_l {K : Int32 → St → Prop} {R39 : Int32 → Int32 → Int32 → St → Prop} {x1 x2 x5 : Int32} (hm : m ≤ 4) (hn : n ≤ 4) : ∀ (d x : Nat) (s : Yr) (S : St), x + d = m → RM S m n r s.1 → VT m n s.1 → RuM S r U → (∀ S1, RM S1 m n r (rndY m n U d x s).1 → VT m n (rndY m n U d x s).1 → fl S S1 → R39 (rndY m n U d x s).2.1 (rndY m n U d x s).2.2 (x5 + 1) S1) → wbX8_year_48 R39 K x1 x2 x5 (d + 1) s.2.1 s.2.2 (nI x) S
  | 0, x, s, S, e, hT, hV, hU, k => by
    show if S.1 40 0 7 ≤ nI x then _ else _
    rw [hT.1.1, if_pos (nI_le (by omega) (by omega))]
    exact k S hT hV (fl_rfl S)
  | d + 1, x, s, S, e, hT, hV, hU, k => by
    show if S.1 40 0 7 ≤ nI x then _ else _
    rw [hT.1.1, if_neg (nI_ge (by omega) (by omega))]
    unfold rndY at k
    have hV2 := manY_VT (U := U) (x := x) (s := s) (by omega) hm hn hV
    refine ⟨n + 1, mp_cho_l (U := U) (T := s.1) (by omega) hm hn n 0 (-1) S hT hU (by omega) (Or.inl rfl) (fun S1 f1 => ?_)⟩
    have m1 := RM_fq hT f1
    show if S1.1 40 0 8 ≤ nI n then _ else _
    rw [m1.1.2.1, if_pos (nI_le (by omega) (by omega))]
    unfold wbX8_year_205 wbX8_year_192 wbX8_year_205
    rw [nI_1]
    rcases pickQ (m := m) (n := n) (U := U) (x := x) (T := s.1) with w | ⟨y, hy, w, hq⟩
    · rw [w, if_pos rfl]
      have em : manY m n U x s = s := by unfold manY; rw [if_pos w]
      rw [em] at k
      exact mp_rnd_l hm hn d (x + 1) s S1 (by omega) m1 hV (RuM_fq hU f1) (fun S2 a b e2 => k S2 a b (fl_tr (fl_fq f1) e2))
    · rw [w, if_neg (nI_nm1 (by omega))]
      have em : manY m n U x s = (endT s.1 x y (!noB U s.1 x y (s.1 1 x)), s.2.1 + 1, bif !noB U s.1 x y (s.1 1 x) then s.2.2 else s.2.2 + prcF (s.1 3 y) (s.1 4 y)) := by
        unfold manY; rw [if_neg (by rw [w]; exact nI_nm1 (by omega)), w, nI_clamp (by omega)]
      rw [em] at k hV2
      refine ⟨vp_in_nI (by omega) (by omega), ?_⟩
      rw [nI_clamp (by omega), (m1.2.1 x (by omega)).1]
      refine mp_saysNo m1 hV hm hn (RuM_fq hU f1) (hV.2.1 x (by omega)) (by omega) hy (fun S2 f2 => ?_)
      have m2 := RM_fq m1 f2
      have go : ∀ (v : Bool) (p2 : Int32), v = (!noB U s.1 x y (s.1 1 x)) → p2 = (bif v then s.2.2 else s.2.2 + prcF (s.1 3 y) (s.1 4 y)) → wpX8_answers (nI x) (nI y) (bI (!v)) S2 (fun S28 => wbX8_year_48 R39 K x1 x2 x5 (d + 1) (s.2.1 + 1) p2 (nI (x + 1)) S28) := by
        intro v p2 ev ep
        rw [← ev] at k hV2
        refine mp_end_l m2 hV hm hn (by omega) hy hq (fun S3 m3 f3 => ?_)
        have g3 : fl S S3 := fl_tr (fl_fq (fq_tr f1 f2)) f3
        subst ep
        exact mp_rnd_l hm hn d (x + 1) (endT s.1 x y v, s.2.1 + 1, bif v then s.2.2 else s.2.2 + prcF (s.1 3 y) (s.1 4 y)) S3 (by omega) m3 hV2 (RuM_fz hU g3.1) (fun S4 a b e2 => k S4 a b (fl_tr g3 e2))
      cases w3 : noB U s.1 x y (s.1 1 x)
      · rw [if_pos (show bI false = 0 by decide)]
        exact go true _ (by rw [w3]; rfl) (Int32.add_zero _)
      · rw [if_neg (show ¬ bI true = 0 by decide)]
        exact mp_price m2 hV hn hy (go false _ (by rw [w3]; rfl) rfl)
theorem mp_mar_l {K : Int32 → St → Prop} {i : Nat} {S0 S : St} {T0 : Tn} {s : Yr} (hi : i ≤ 6) (hm : m ≤ 4) (hn : n ≤ 4) (hM0 : RM S0 m n r T0) (hA : aside S0 S) (hT : RM S m n r s.1) : ∀ (d x : Nat) (v : Int32), x + d = m → (∀ S1, RM S1 m n r T0 → fz S S1 → K (if i = 0 then marU (s.1 2) d x v else if i = 1 then s.2.1 else if i = 2 then s.2.2 else if i - 3 < m then s.1 2 (i - 3) else -1) S1) → wbX8_year_223 K (nI i) s.2.1 s.2.2 (d + 1) v (nI x) S
  | 0, x, v, e, k => by
    show if S.1 40 0 7 ≤ nI x then _ else _
    rw [hT.1.1, if_pos (nI_le (by omega) (by omega))]
    have fin : ∀ v2 : Int32, v2 = (if i = 0 then marU (s.1 2) 0 x v else if i = 1 then s.2.1 else if i = 2 then s.2.2 else if i - 3 < m then s.1 2 (i - 3) else -1) → wbX8_year_309 K v2 S := by
      intro v2 e2
      rw [← e2] at k
      exact mp_lback hm hn hM0 hA (fun S1 m1 f1 => k S1 m1 f1)
    rcases (show i = 0 ∨ i = 1 ∨ i = 2 ∨ 3 ≤ i by omega) with rfl | rfl | rfl | hi3
    · rw [if_pos (by decide)]
      exact fin _ rfl
    · rw [if_neg (by decide), if_pos (by decide)]; exact fin _ rfl
    · rw [if_neg (by decide), if_neg (by decide), if_pos (by decide)]; exact fin _ rfl
    · have q : ∀ z : Nat, z < 3 → ¬ nI i = nI z := fun z hz w => by have := (nI_eq (by omega) (by omega)).mp w; omega
      rw [if_neg (show ¬ nI i = 0 from q 0 (by omega)), if_neg (show ¬ nI i = 1 from q 1 (by omega)), if_neg (show ¬ nI i = 2 from q 2 (by omega)), show nI i - 3 = nI (i - 3) from pk_sub (b := 3) hi3]
      rw [if_neg (by omega), if_neg (by omega), if_neg (by omega)] at fin
      by_cases c1 : i - 3 < m
      · rw [if_pos c1] at fin
        refine mman1 hT.1.1 hm c1 ?_
        rw [if_neg nfi, nI_clamp (by omega), (hT.2.1 _ c1).2]
        exact ⟨vp_in_nI (by omega) (by omega), fin _ rfl⟩
      · rw [if_neg c1] at fin
        refine mman0 hT.1.1 hm (fun ⟨z, hz, ez⟩ => c1 ?_) ?_
        · have := (nI_eq (by omega) (by omega)).mp ez; omega
        · rw [if_pos rfl]; exact fin _ rfl
  | d + 1, x, v, e, k => by
    show if S.1 40 0 7 ≤ nI x then _ else _
    rw [hT.1.1, if_neg (nI_ge (by omega) (by omega)), nI_clamp (by omega), (hT.2.1 x (by omega)).2]
    refine ⟨vp_in_nI (by omega) (by omega), ?_⟩
    unfold wbX8_year_250
    unfold marU at k
    rw [nI_1, Int32.add_zero]
    by_cases c : s.1 2 x = -1
    · rw [if_pos c] at k ⊢; exact mp_mar_l hi hm hn hM0 hA hT d (x + 1) _ (by omega) k
    · rw [if_neg c] at k ⊢; exact mp_mar_l hi hm hn hM0 hA hT d (x + 1) _ (by omega) k
theorem mp_yr_l {K : Int32 → St → Prop} {c i : Nat} {S0 : St} {T0 : Tn} (hc : c ≤ 12) (hi : i ≤ 6) (hm : m ≤ 4) (hn : n ≤ 4) (hM0 : RM S0 m n r T0) : ∀ (d j : Nat) (s : Yr) (S : St), j + d = c → RM S m n r s.1 → VT m n s.1 → RuM S r U → aside S0 S → (∀ S1, RM S1 m n r T0 → fz S S1 → K (yrA m (yrY m n U d s) i) S1) → wbX8_year_39 K (nI c) (nI i) (d + 1) s.2.1 s.2.2 (nI j) S
  | 0, j, s, S, e, hT, hV, hU, hA, k => by
    show if nI c ≤ nI j then _ else _
    rw [if_pos (nI_le (by omega) (by omega))]
    exact ⟨m + 1, mp_mar_l hi hm hn hM0 hA hT m 0 0 (by omega) k⟩
  | d + 1, j, s, S, e, hT, hV, hU, hA, k => by
    show if nI c ≤ nI j then _ else _
    rw [if_neg (nI_ge (by omega) (by omega))]
    refine ⟨m + 1, mp_rnd_l (U := U) hm hn m 0 s S (by omega) hT hV hU (fun S1 m1 v1 f1 => ?_)⟩
    rw [nI_1]
    exact mp_yr_l hc hi hm hn hM0 d (j + 1) _ S1 (by omega) m1 v1 (RuM_fz hU f1.1) (aside_fl hA f1) (fun S2 m2 f2 => k S2 m2 (fz_tr f1.1 f2))
end
section
variable {S : St} {F : Int32 → St → Prop} {K : St → Prop} {a b c d e : Int32}
theorem call_year (R : Rel S) (hK : ∀ S1, Rel S1 → K S1) (hF : Hm F (wpX8_year a b) K) : wpX7_year a b S F := by
  obtain ⟨m, n, r, T, k, V, R⟩ := R
  have hR : Rel S := ⟨m, n, r, T, k, V, R⟩
  obtain ⟨hT, hJ, hM, hV, h2, hr, h3, h4, h5⟩ := id R
  have hm := hT.1.1
  have hn := hT.1.2.1
  unfold wpX7_year
  by_cases ca : 0 ≤ a ∧ a ≤ 12
  · refine w1 ca ?_
    rw [if_neg nfi]
    by_cases cb : 0 ≤ b ∧ b ≤ 6
    · refine w1 cb ?_
      rw [if_neg nfi]
      obtain ⟨c, _, hc, rfl⟩ := in_nI (a := 0) (b := 12) (by omega) ca (by omega)
      obtain ⟨i, _, hi, rfl⟩ := in_nI (a := 0) (b := 6) (by omega) cb (by omega)
      refine sp_resemble (by omega) hT (fun S1 t1 _ W1 z4 z5 => ⟨c + 1, ?_⟩)
      have f1 : fk S S1 := ⟨⟨fun kd i w => W1 kd i (by unfold cz at w; omega), fun j _ => by rw [W1 40 0 (by omega)]⟩, fun kd i w => W1 kd i (by omega), by rw [W1 40 0 (by omega)]⟩
      refine sp_yr_l (U := V r) hc hi c 0 (T, 0, 0) S1 (by omega) (by rw [W1 10 0 (by omega), hT.2.1.1]) t1 hV (RuC_fz (h2.2.2 r hr).1 f1.1) z4 z5 (fun S2 f2 => hF _ _ ?_)
      have f3 := fk_tr f1 f2
      have m2 := RM_fk hM f3
      have R2 := Rel_q R f3.1 m2
      unfold wpX8_year
      refine v1 ca ?_
      rw [if_neg nfi]
      refine v1 cb ?_
      rw [if_neg nfi]
      refine mp_aside (fun S3 a3 g3 W3 w16 => ⟨c + 1, ?_⟩)
      have m3 : RM S3 m n r T := (RM_eq (fun kd a b => W3 kd a b) (fun j hj => by rcases hj with rfl | rfl | rfl | rfl <;> first | exact w16 | exact g3.2 _ (by omega))).mpr m2
      exact mp_yr_l (S0 := S2) (U := V r) hc hi hm hn m2 c 0 (T, 0, 0) S3 (by omega) m3 hV (RuM_fz (R2.2.2.2.2.1.2.2 r hr).2 g3) a3 (fun S4 m4 f4 => same (hK _ ⟨m, n, r, T, k, V, Rel_q R2 (fz_tr g3 f4) m4⟩))
    · refine w0 cb ?_
      rw [if_pos rfl]
      refine hF _ _ ?_
      unfold wpX8_year
      refine v1 ca ?_
      rw [if_neg nfi]
      refine v0 cb ?_
      rw [if_pos rfl]
      exact same (hK _ hR)
  · refine w0 ca ?_
    rw [if_pos rfl]
    refine hF _ _ ?_
    unfold wpX8_year
    refine v0 ca ?_
    rw [if_pos rfl]
    exact same (hK _ hR)
end
