section
/-! the reference's words; its reading's loops -/
def ltB (b : By) (s e i : Nat) (x : Int32) : Bool := if e ≤ s + i then decide (x = 0) else decide (b (s + i) = x)
def alB (b : By) (s e : Nat) : Nat → List Int32 → Bool
  | _, [] => true
  | i, x :: L => ltB b s e i x && alB b s e (i + 1) L
theorem al_0 {b : By} {s e : Nat} (hb : ∀ j, s ≤ j → j < e → b j ≠ 0) : ∀ m i, e ≤ s + i + m → alB b s e i (List.replicate m 0) = decide (e ≤ s + i)
  | 0, i, h => by
    rw [decide_eq_true (by omega)]; rfl
  | m + 1, i, h => by
    rw [List.replicate_succ]
    unfold alB ltB
    by_cases q : e ≤ s + i
    · rw [if_pos q, al_0 hb m (i + 1) (by omega), decide_eq_true (show e ≤ s + (i + 1) by omega), decide_eq_true q, decide_eq_true rfl]; rfl
    · rw [if_neg q, decide_eq_false (hb (s + i) (by omega) (by omega)), decide_eq_false q]; rfl
theorem al_w {b : By} {s e m : Nat} (hb : ∀ j, s ≤ j → j < e → b j ≠ 0) : ∀ (W : List Int32) i, (∀ x, x ∈ W → x ≠ 0) → e ≤ s + i + (W.length + m) → alB b s e i (W ++ List.replicate m 0) = (decide (e - (s + i) = W.length) && eqL b (s + i) W)
  | [], i, _, h => by
    rw [List.nil_append, al_0 hb m i (by simpa using h)]
    by_cases q : e ≤ s + i
    · rw [decide_eq_true q, decide_eq_true (show e - (s + i) = ([] : List Int32).length by simp; omega)]; rfl
    · rw [decide_eq_false q, decide_eq_false (show ¬ e - (s + i) = ([] : List Int32).length by simp; omega)]; rfl
  | x :: W, i, hx, h => by
    have hl : (x :: W).length = W.length + 1 := rfl
    rw [List.cons_append]
    unfold alB ltB eqL
    rw [al_w hb W (i + 1) (fun y hy => hx y (List.mem_cons_of_mem _ hy)) (by omega), hl, show s + (i + 1) = s + i + 1 by omega]
    by_cases q : e ≤ s + i
    · rw [if_pos q, decide_eq_false (hx x List.mem_cons_self), decide_eq_false (show ¬ e - (s + i) = W.length + 1 by omega)]; rfl
    · rw [if_neg q]
      by_cases q2 : e - (s + i) = W.length + 1
      · rw [decide_eq_true q2, decide_eq_true (show e - (s + i + 1) = W.length by omega), Bool.true_and, Bool.true_and]
      · rw [decide_eq_false q2, decide_eq_false (show ¬ e - (s + i + 1) = W.length by omega), Bool.false_and, Bool.false_and, Bool.and_false]
theorem byt_ok : ∀ j, j < 12 → (bytJS.getD j []).length ≤ 8 ∧ ∀ x, x ∈ bytJS.getD j [] → x ≠ 0 := by decide
def Bd (S : St) (f : Nat) : Prop := S.1 40 0 30 = 1 ∧ S.1 40 0 31 = nI f
def fx (S S1 : St) : Prop := (∀ kd i, kd ≠ 40 → S1.1 kd i = S.1 kd i) ∧ ∀ j, (j < 23 ∨ 31 < j) → S1.1 40 0 j = S.1 40 0 j
theorem fx_rfl (S : St) : fx S S := ⟨fun _ _ _ => rfl, fun _ _ => rfl⟩
theorem fx_tr {S S1 S2 : St} (h : fx S S1) (g : fx S1 S2) : fx S S2 := ⟨fun kd i a => (g.1 kd i a).trans (h.1 kd i a), fun j a => (g.2 j a).trans (h.2 j a)⟩
theorem fx_su {S S1 : St} {j : Nat} {v : Int32} (h : fx S S1) (hj : 23 ≤ j ∧ j ≤ 31 := by omega) : fx S (su S1 40 0 j v) := fx_tr h ⟨fun kd i q => sa_ne (by omega), fun k q => su_nj (by omega)⟩
theorem fx_fn {S S1 : St} (h : fn S S1) : fx S S1 := ⟨h.1, fun j q => h.2 j (by omega)⟩
section
variable {z r : Nat} {b : By}
theorem mp_letter {s e i : Nat} {x : Int32} {S : St} {K : Int32 → St → Prop} (h : Mb z b r S) (h7 : S.1 40 0 27 = nI s) (h5 : S.1 40 0 25 = nI e) (he : e ≤ z) (hs : s ≤ z) (hi : i < 8) (k : K (bI (ltB b s e i x)) S) : wpX8_isLetter (nI i) x S K := by
  have hz := h.1.1
  unfold wpX8_isLetter
  unfold ltB at k
  rw [h7, h5, nI_add]
  by_cases q : e ≤ s + i
  · rw [if_pos (nI_le q (by omega))]
    rw [if_pos q] at k
    by_cases q2 : x = 0
    · rw [if_pos q2]; rw [decide_eq_true q2] at k; exact k
    · rw [if_neg q2]; rw [decide_eq_false q2] at k; exact k
  · rw [if_neg (nI_ge (by omega) (by omega))]
    rw [if_neg q] at k
    refine mp_byte h (by omega) ?_
    rw [byF_lt (by omega)]
    by_cases q2 : b (s + i) = x
    · rw [if_pos q2]; rw [decide_eq_true q2] at k; exact k
    · rw [if_neg q2]; rw [decide_eq_false q2] at k; exact k
theorem mp_isWord {s j : Nat} {x1 x2 x3 x4 x5 x6 x7 x8 : Int32} {S : St} {K : Int32 → St → Prop} (h : Mt z b r S s) (hj : j < 12) (hx : [x1, x2, x3, x4, x5, x6, x7, x8] = bytJS.getD j [] ++ List.replicate (8 - (bytJS.getD j []).length) 0) (k : K (bI (decide (tT z b s = nI (j + 1)))) S) : wpX8_isWord x1 x2 x3 x4 x5 x6 x7 x8 S K := by
  have hz := h.1.1.1
  have no : ¬ tT z b s = nI (j + 1) → K 0 S := fun q => by rw [decide_eq_false q] at k; exact k
  unfold wpX8_isWord
  rw [if_pos h.2.2.2.1, h.2.2.1]
  rcases tk_cases (z := z) (b := b) s with c | c | c | c | c
  · rw [c.1, if_neg (by decide)]
    exact no (by rw [c.2.1]; exact fun w => nI_nm1 (by omega) w.symm)
  · obtain ⟨c1, c2, c3, c4, c5⟩ := c
    have eb := tE_le (b := b) c2
    have h5 := h.2.2.2.2.1 (Or.inl c1)
    have h7 := h.2.1
    rw [c1, if_pos rfl, h7, h5, show nI s + 8 = nI (s + 8) from nI_add s 8]
    have hb : ∀ i, s ≤ i → i < tE z b s → b i ≠ 0 := fun i i1 i2 q => by
      have := runP_all (f := isLt) (b := b) (z - s) s i i1 (by rw [← c4]; exact i2)
      rw [q] at this
      exact absurd this (by decide)
    have bk := byt_ok j hj
    by_cases q8 : s + 8 < tE z b s
    · rw [if_pos (nI_lt q8 (by omega))]
      refine no (fun w => ?_)
      rw [c5] at w
      have := (waF_iff hj).mp w
      unfold spB at this
      rw [Bool.and_eq_true, decide_eq_true_eq] at this
      omega
    · rw [if_neg (nI_nlt (by omega) (by omega))]
      have kk : K (bI (alB b s (tE z b s) 0 [x1, x2, x3, x4, x5, x6, x7, x8])) S := by
        rw [hx, al_w hb _ 0 bk.2 (by omega)]
        have e0 : decide (tT z b s = nI (j + 1)) = spB b s (tE z b s) (bytJS.getD j []) := by
          rw [c5]
          by_cases q : spB b s (tE z b s) (bytJS.getD j []) = true
          · rw [q, decide_eq_true ((waF_iff hj).mpr q)]
          · rw [decide_eq_false (fun w => q ((waF_iff hj).mp w))]
            exact (ts_nt' q).symm
        rw [e0] at k
        exact k
      unfold alB alB alB alB alB alB alB alB alB at kk
      have L : ∀ (i : Nat) (x : Int32) (K2 : Int32 → St → Prop), i < 8 → K2 (bI (ltB b s (tE z b s) i x)) S → wpX8_isLetter (nI i) x S K2 := fun i x K2 hi k2 => mp_letter h.1 h7 h5 eb.2 (by omega) hi k2
      refine L 0 x1 _ (by omega) (bI_if (fun q => by rw [q, Bool.false_and] at kk; exact kk) (fun q => ?_))
      rw [q, Bool.true_and] at kk
      refine L 1 x2 _ (by omega) (bI_if (fun q => by rw [q, Bool.false_and] at kk; exact kk) (fun q => ?_))
      rw [q, Bool.true_and] at kk
      refine L 2 x3 _ (by omega) (bI_if (fun q => by rw [q, Bool.false_and] at kk; exact kk) (fun q => ?_))
      rw [q, Bool.true_and] at kk
      refine L 3 x4 _ (by omega) (bI_if (fun q => by rw [q, Bool.false_and] at kk; exact kk) (fun q => ?_))
      rw [q, Bool.true_and] at kk
      refine L 4 x5 _ (by omega) (bI_if (fun q => by rw [q, Bool.false_and] at kk; exact kk) (fun q => ?_))
      rw [q, Bool.true_and] at kk
      refine L 5 x6 _ (by omega) (bI_if (fun q => by rw [q, Bool.false_and] at kk; exact kk) (fun q => ?_))
      rw [q, Bool.true_and] at kk
      refine L 6 x7 _ (by omega) (bI_if (fun q => by rw [q, Bool.false_and] at kk; exact kk) (fun q => ?_))
      rw [q, Bool.true_and] at kk
      refine L 7 x8 _ (by omega) (bI_if (fun q => by rw [q, Bool.false_and] at kk; exact kk) (fun q => ?_))
      rw [q, Bool.true_and] at kk
      exact kk
  · rw [c.1, if_neg (by decide)]
    exact no (by rw [c.2.2]; exact fun w => nI_ne0 (by omega) (by omega) w.symm)
  · rw [c.1, if_neg (by decide)]
    refine no (fun w => ?_)
    obtain ⟨i, i1, i2, i3⟩ := sg_13 c.2.2.2
    rw [c.2.2.1, i3, nI_eq (by omega) (by omega)] at w
    omega
  · rw [c.1, if_neg (by decide)]
    exact no (by rw [c.2.2]; exact fun w => nI_n2 (by omega) w.symm)
theorem nI_B {f : Nat} {S : St} (h : Bd S f) : ¬ S.1 40 0 30 = 0 := by rw [h.1]; decide
theorem mp_signB {f : Nat} {v : Int32} {S : St} {K : Int32 → St → Prop} (h : Bd S f) (k : K 0 S) : wpX8_isSign v S K := by
  unfold wpX8_isSign
  rw [if_neg (nI_B h)]; exact k
theorem mp_wordB {f : Nat} {x1 x2 x3 x4 x5 x6 x7 x8 : Int32} {S : St} {K : Int32 → St → Prop} (h : Bd S f) (k : K 0 S) : wpX8_isWord x1 x2 x3 x4 x5 x6 x7 x8 S K := by
  unfold wpX8_isWord
  rw [if_neg (nI_B h)]; exact k
theorem mp_failB {f : Nat} {S : St} {K : St → Prop} (h : Bd S f) (k : K S) : wpX8_fail S K := by
  unfold wpX8_fail
  rw [if_neg (nI_B h)]; exact k
theorem mp_fail {s : Nat} {S : St} {K : St → Prop} (h : Mt z b r S s) (k : ∀ S1, Bd S1 s → fx S S1 → K S1) : wpX8_fail S K := by
  unfold wpX8_fail
  rw [if_pos h.2.2.2.1]
  intro S2 e2 S3 e3
  exact k S3 ⟨by rw [e3, su_nj (by omega), e2, su_eq], by rw [e3, su_eq, e2, su_nj (by omega)]; exact h.2.1⟩ (by rw [e3, e2]; exact fx_su (fx_su (fx_rfl S)))
theorem Mt_29 {s : Nat} {S : St} {v : Int32} (h : Mt z b r S s) : Mt z b r (su S 40 0 29 v) s := by
  unfold Mt Mb at h ⊢
  rw [su_nj (by omega), su_nj (by omega), su_nj (by omega), su_nj (by omega), su_nj (by omega), su_nj (by omega), sa_ne (by omega)]
  exact h
theorem mp_opens {s op : Nat} {S : St} {K : Int32 → St → Prop} (ho : op ≤ 5) (h : Mt z b r S s) (h29 : S.1 40 0 29 = nI op) (h1 : tT z b s ≠ -1) (h2 : tT z b s ≠ -2) (ky : op < 5 → ∀ S1, Mt z b r S1 (nx z b s) → S1.1 40 0 29 = nI (op + 1) → fx S S1 → K 1 S1) (kn : ¬ op < 5 → ∀ S1, Bd S1 s → fx S S1 → K 0 S1) : wpX8_opens S K := by
  unfold wpX8_opens
  rw [h29]
  by_cases q : op < 5
  · rw [if_neg (show ¬ nI op = (5 : Int32) from fun w => by have := (nI_eq (a := op) (b := 5) (by omega) (by omega)).mp w; omega), nI_1]
    intro S2 e2
    have h3 : Mt z b r S2 s := by rw [e2]; exact Mt_29 h
    refine mp_nx h3 h1 h2 (fun S3 m3 f3 => ky q S3 m3 ?_ ?_)
    · rw [f3.2 29 (by omega), e2, su_eq]
    · refine fx_tr ?_ (fx_fn f3)
      rw [e2]; exact fx_su (fx_rfl S)
  · rw [if_pos (show nI op = (5 : Int32) by rw [show op = 5 by omega]; rfl)]
    exact mp_fail h (fun S1 w f => kn q S1 w f)
theorem mp_sw {s v : Nat} {S : St} (h : Mt z b r S s) (hv : 13 ≤ v) (hv2 : v < 100) (e : tT z b s = nI v) : S.2 = lN v := by
  rcases tk_cases (z := z) (b := b) s with c | c | c | c | c
  · rw [c.2.1] at e; exact absurd e.symm (nI_nm1 (by omega))
  · rcases tT_w c.1 with q | ⟨j, hj, q⟩
    · rw [q] at e; exact absurd e.symm (nI_n2 (by omega))
    · rw [q, nI_eq (by omega) (by omega)] at e; omega
  · rw [c.2.2] at e; exact absurd e.symm (nI_ne0 (by omega) (by omega))
  · rw [h.2.2.2.2.2.2 c.1, e, nI_l (by omega)]
  · rw [c.2.2] at e; exact absurd e.symm (nI_n2 (by omega))
/-- what the reference's readers do, by P -/
def Ev (env : Nat → Int32) (S : St) : Prop := ∀ i, 1 ≤ i → i ≤ 6 → S.1 40 0 (16 + i) = env i
theorem Ev_fx {env : Nat → Int32} {S S1 : St} (h : Ev env S) (f : fx S S1) : Ev env S1 := fun i a c => (f.2 (16 + i) (by omega)).trans (h i a c)
def SMr (z : Nat) (b : By) (r : Nat) (env : Nat → Int32) (op : Nat) (G : St → (Int32 → St → Prop) → Prop) (P : Nat → Pr) : Prop := ∀ (s : Nat) (S : St) (K : Int32 → St → Prop), s ≤ z → Mt z b r S s → S.1 40 0 29 = nI op → Ev env S → out (P s) (fun g => ∀ v S1, Bd S1 g → fx S S1 → K v S1) (fun q c => ∀ S1, Mt z b r S1 q → S1.1 40 0 29 = nI op → fx S S1 → K (ev env c) S1) → G S K
end
end
