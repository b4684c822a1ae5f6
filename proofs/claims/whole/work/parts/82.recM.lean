section
/-! the reference's readers, by what they read -/
theorem lvO_cases (t : Int32) : (t = 10 ∧ lvO t = 0) ∨ (t = 11 ∧ lvO t = 1) ∨ (t = 42 ∧ lvO t = 4) ∨ (t = 43 ∧ lvO t = 3) ∨ (t = 45 ∧ lvO t = 3) ∨ (t = 60 ∧ lvO t = 2) ∨ (t = 61 ∧ lvO t = 2) ∨ (t ≠ 10 ∧ t ≠ 11 ∧ t ≠ 42 ∧ t ≠ 43 ∧ t ≠ 45 ∧ t ≠ 60 ∧ t ≠ 61 ∧ lvO t = 9) := by
  by_cases c1 : t = 10
  · exact Or.inl ⟨c1, by rw [c1]; rfl⟩
  by_cases c2 : t = 11
  · exact Or.inr (Or.inl ⟨c2, by rw [c2]; rfl⟩)
  by_cases c3 : t = 42
  · exact Or.inr (Or.inr (Or.inl ⟨c3, by rw [c3]; rfl⟩))
  by_cases c4 : t = 43
  · exact Or.inr (Or.inr (Or.inr (Or.inl ⟨c4, by rw [c4]; rfl⟩)))
  by_cases c5 : t = 45
  · exact Or.inr (Or.inr (Or.inr (Or.inr (Or.inl ⟨c5, by rw [c5]; rfl⟩))))
  by_cases c6 : t = 60
  · exact Or.inr (Or.inr (Or.inr (Or.inr (Or.inr (Or.inl ⟨c6, by rw [c6]; rfl⟩)))))
  by_cases c7 : t = 61
  · exact Or.inr (Or.inr (Or.inr (Or.inr (Or.inr (Or.inr (Or.inl ⟨c7, by rw [c7]; rfl⟩))))))
  refine Or.inr (Or.inr (Or.inr (Or.inr (Or.inr (Or.inr (Or.inr ⟨c1, c2, c3, c4, c5, c6, c7, ?_⟩))))))
  unfold lvO
  rw [if_neg c1, if_neg c2, if_neg c3, if_neg c4, if_neg c5, if_neg c6, if_neg c7]
theorem joi_10 (a x : Int32) : joiF 10 a x = if a = 0 then (if x = 0 then 0 else 1) else 1 := rfl
theorem joi_11 (a x : Int32) : joiF 11 a x = if a = 0 then 0 else if x = 0 then 0 else 1 := rfl
theorem joi_42 (a x : Int32) : joiF 42 a x = a * x := rfl
theorem joi_43 (a x : Int32) : joiF 43 a x = a + x := rfl
theorem joi_45 (a x : Int32) : joiF 45 a x = a - x := rfl
theorem joi_60 (a x : Int32) : joiF 60 a x = if x ≤ a then 0 else 1 := rfl
theorem joi_61 (a x : Int32) : joiF 61 a x = if a = x then 1 else 0 := rfl
theorem tur_12 (a : Int32) : turF (-12) a = if a = 0 then 1 else 0 := rfl
theorem tur_13 (a : Int32) : turF (-13) a = -a := rfl
theorem Bd_29 {S : St} {g : Nat} {v : Int32} (h : Bd S g) : Bd (su S 40 0 29 v) g := by
  unfold Bd at h ⊢
  rw [su_nj (by omega), su_nj (by omega)]; exact h
section
variable {z r : Nat} {b : By} {env : Nat → Int32}
theorem tK_1 {s : Nat} (h : 1 ≤ tT z b s ∧ tT z b s ≤ 6) : tK z b s = 1 := by
  obtain ⟨j, j1, j2, e⟩ := tT_16 h
  rcases tk_cases (z := z) (b := b) s with c | c | c | c | c
  · rw [c.2.1] at e; exact absurd e.symm (nI_nm1 (by omega))
  · exact c.1
  · rw [c.2.2] at e; exact absurd e.symm (nI_ne0 (by omega) (by omega))
  · obtain ⟨i, i1, i2, i3⟩ := sg_13 c.2.2.2
    rw [c.2.2.1, i3, nI_eq (by omega) (by omega)] at e; omega
  · rw [c.2.2] at e; exact absurd e.symm (nI_n2 (by omega))
theorem tK_2 {s : Nat} : tT z b s = 0 ↔ tK z b s = 2 := by
  rcases tk_cases (z := z) (b := b) s with c | c | c | c | c
  · rw [c.1, c.2.1]; decide
  · rw [c.1]
    rcases tT_w c.1 with q | ⟨j, hj, q⟩
    · rw [q]; decide
    · rw [q]; exact ⟨fun w => absurd w (nI_ne0 (by omega) (by omega)), fun w => absurd w (by decide)⟩
  · rw [c.1, c.2.2]; decide
  · rw [c.1, c.2.2.1]
    obtain ⟨i, i1, i2, i3⟩ := sg_13 c.2.2.2
    rw [i3]; exact ⟨fun w => absurd w (nI_ne0 (by omega) (by omega)), fun w => absurd w (by decide)⟩
  · rw [c.1, c.2.2]; decide
theorem mp_lo {W : Nat → Int32 → St → Prop} {F : St → (Int32 → St → Prop) → Prop} {P : Nat → Pr} {lv op : Nat} {K : Int32 → St → Prop} (hl : lv ≤ 4) (hk : okPs z P) (hP : SMr z b r env op F P)
    (ha : ∀ n x s S, Mt z b r S s → lvO (tT z b s) ≠ lv → K x S → W (n + 1) x S)
    (hb : ∀ n x s S, Mt z b r S s → lvO (tT z b s) = lv → (∀ Kc : Int32 → St → Prop, (∀ v S5, W n (joiF (tT z b s) x v) S5 → Kc v S5) → wpX8_next S (fun S4 => F S4 Kc)) → W (n + 1) x S)
    (hc : ∀ n x g S, Bd S g → K x S → W (n + 1) x S) :
    ∀ n s c S, s ≤ z → z ≤ s + n → Gd c → Mt z b r S s → S.1 40 0 29 = nI op → Ev env S → out (loP z b P lv n s c) (fun g => ∀ v S1, Bd S1 g → fx S S1 → K v S1) (fun q c => ∀ S1, Mt z b r S1 q → S1.1 40 0 29 = nI op → fx S S1 → K (ev env c) S1) → W (n + 1) (ev env c) S
  | 0, s, c, S, hs, hn, gc, h, h29, he, k => by
    refine ha 0 _ s S h ?_ (k S h h29 (fx_rfl S))
    rw [tT_end (by omega)]
    have : lvO (-1) = 9 := by decide
    omega
  | n + 1, s, c, S, hs, hn, gc, h, h29, he, k => by
    unfold loP at k
    by_cases q : lvO (tT z b s) = lv
    · rw [if_pos q, out_bnd] at k
      have jo := lvO_jo q hl
      have jn := jo_ne jo
      have nl := nx_le (b := b) (lt_of_tT jn.1)
      refine hb (n + 1) _ s S h q (fun Kc hKc => mp_nx h jn.1 jn.2 (fun S4 h4 f4 => ?_))
      refine hP (nx z b s) S4 Kc nl.2 h4 (by rw [f4.2 29 (by omega)]; exact h29) (Ev_fx he (fx_fn f4)) (out_m k (hk _ nl.2) (fun g k1 _ => fun v S5 w5 f5 => hKc _ _ (hc n _ g S5 w5 (k1 _ S5 w5 (fx_tr (fx_fn f4) f5)))) (fun q2 c2 k1 ok => fun S5 h5 h529 f5 => hKc _ _ ?_))
      obtain ⟨o1, o2, o3, o4⟩ := ok
      have f45 := fx_tr (fx_fn f4) f5
      have gj := Gd_j gc o4 jo
      rw [← gj.2 env]
      exact mp_lo hl hk hP ha hb hc n q2 _ S5 o3 (by omega) gj.1 h5 h529 (Ev_fx he f45) (out_m k1 k1 (fun g a _ => fun v S6 w6 f6 => a v S6 w6 (fx_tr f45 f6)) (fun q3 c3 a _ => fun S6 h6 h629 f6 => a S6 h6 h629 (fx_tr f45 f6)))
    · rw [if_neg q] at k
      exact ha (n + 1) _ s S h q (k S h h29 (fx_rfl S))
theorem mp_lev {F : St → (Int32 → St → Prop) → Prop} {P : Nat → Nat → Nat → Pr} {W : (Int32 → St → Prop) → Nat → Int32 → St → Prop} {lv op : Nat} (hz : z ≤ 160) (hl : lv ≤ 4) (h2 : lv ≠ 2) (hk : okPs z (P (lv + 1) op)) (hP : SMr z b r env op F (P (lv + 1) op))
    (ha : ∀ (K : Int32 → St → Prop) n x s S, Mt z b r S s → lvO (tT z b s) ≠ lv → K x S → W K (n + 1) x S)
    (hb : ∀ (K : Int32 → St → Prop) n x s S, Mt z b r S s → lvO (tT z b s) = lv → (∀ Kc : Int32 → St → Prop, (∀ v S5, W K n (joiF (tT z b s) x v) S5 → Kc v S5) → wpX8_next S (fun S4 => F S4 Kc)) → W K (n + 1) x S)
    (hc : ∀ (K : Int32 → St → Prop) n x g S, Bd S g → K x S → W K (n + 1) x S) : SMr z b r env op (fun S K => F S (fun r1 S1 => ∃ k, W K k r1 S1)) (levP z b P lv op) := by
  intro s S K hs h h29 he k
  unfold levP at k
  rw [if_neg (fun w => h2 w.1), out_bnd, if_neg h2] at k
  refine hP s S _ hs h h29 he (out_m k (hk s hs) (fun g k1 _ => fun v S1 w1 f1 => ⟨1, hc K 0 v g S1 w1 (k1 v S1 w1 f1)⟩) (fun q c k1 ok => fun S1 h1 h129 f1 => ?_))
  obtain ⟨o1, o2, o3, o4⟩ := ok
  exact ⟨160 + 1, mp_lo hl hk hP (ha K) (hb K) (hc K) 160 q c S1 o3 (by omega) o4 h1 h129 (Ev_fx he f1) (out_m k1 k1 (fun g a _ => fun v S6 w6 f6 => a v S6 w6 (fx_tr f1 f6)) (fun q3 c3 a _ => fun S6 h6 h629 f6 => a S6 h6 h629 (fx_tr f1 f6)))⟩
theorem mp_either {F : Nat → St → (Int32 → St → Prop) → Prop} {P : Nat → Nat → Nat → Pr} {op : Nat} (hz : z ≤ 160) (hk : okPs z (P 1 op)) (hP : SMr z b r env op (F 1) (P 1 op)) : SMr z b r env op (wpX8_either F) (levP z b P 0 op) :=
  mp_lev (F := F 1) (W := fun K => wbX8_either_5 F K) (lv := 0) hz (by omega) (by omega) hk hP
    (fun K n x s S h q k => mp_isWord (j := 9) h (by omega) (by decide) (by
      rw [decide_eq_false (fun w => q (by rw [w]; rfl)), if_pos bI_f]; exact k))
    (fun K n x s S h q k => mp_isWord (j := 9) h (by omega) (by decide) (by
      have t : tT z b s = 10 := by rcases lvO_cases (tT z b s) with c | c | c | c | c | c | c | c <;> first | exact c.1 | (rw [q] at c; exact absurd c.2 (by decide)) | (have := c.2.2.2.2.2.2.2; rw [q] at this; exact absurd this (by decide))
      rw [decide_eq_true (show tT z b s = nI (9 + 1) from t), if_neg (show ¬ bI true = 0 from i10)]
      refine k _ (fun v S5 w => ?_)
      rw [t, joi_10] at w
      refine if_of (fun c1 => if_of (fun c2 => ?_) (fun c2 => ?_)) (fun c1 => ?_)
      · rw [if_pos c1, if_pos c2] at w; exact w
      · rw [if_pos c1, if_neg c2] at w; exact w
      · rw [if_neg c1] at w; exact w))
    (fun K n x g S w k => mp_wordB w (by rw [if_pos rfl]; exact k))
theorem mp_both {F : Nat → St → (Int32 → St → Prop) → Prop} {P : Nat → Nat → Nat → Pr} {op : Nat} (hz : z ≤ 160) (hk : okPs z (P 2 op)) (hP : SMr z b r env op (F 2) (P 2 op)) : SMr z b r env op (wpX8_both F) (levP z b P 1 op) :=
  mp_lev (F := F 2) (W := fun K => wbX8_both_5 F K) (lv := 1) hz (by omega) (by omega) hk hP
    (fun K n x s S h q k => mp_isWord (j := 10) h (by omega) (by decide) (by
      rw [decide_eq_false (fun w => q (by rw [w]; rfl)), if_pos bI_f]; exact k))
    (fun K n x s S h q k => mp_isWord (j := 10) h (by omega) (by decide) (by
      have t : tT z b s = 11 := by rcases lvO_cases (tT z b s) with c | c | c | c | c | c | c | c <;> first | exact c.1 | (rw [q] at c; exact absurd c.2 (by decide)) | (have := c.2.2.2.2.2.2.2; rw [q] at this; exact absurd this (by decide))
      rw [decide_eq_true (show tT z b s = nI (10 + 1) from t), if_neg (show ¬ bI true = 0 from i10)]
      refine k _ (fun v S5 w => ?_)
      rw [t, joi_11] at w
      refine if_of (fun c1 => ?_) (fun c1 => if_of (fun c2 => ?_) (fun c2 => ?_))
      · rw [if_pos c1] at w; exact w
      · rw [if_neg c1, if_pos c2] at w; exact w
      · rw [if_neg c1, if_neg c2] at w; exact w))
    (fun K n x g S w k => mp_wordB w (by rw [if_pos rfl]; exact k))
theorem mp_term {F : Nat → St → (Int32 → St → Prop) → Prop} {P : Nat → Nat → Nat → Pr} {op : Nat} (hz : z ≤ 160) (hk : okPs z (P 5 op)) (hP : SMr z b r env op (F 5) (P 5 op)) : SMr z b r env op (wpX8_term F) (levP z b P 4 op) :=
  mp_lev (F := F 5) (W := fun K => wbX8_term_5 F K) (lv := 4) hz (by omega) (by omega) hk hP
    (fun K n x s S h q k => mp_isSign (v := 42) h (by omega) (by omega) (by
      rw [decide_eq_false (fun w => q (by rw [w]; rfl)), if_pos bI_f]; exact k))
    (fun K n x s S h q k => mp_isSign (v := 42) h (by omega) (by omega) (by
      have t : tT z b s = 42 := by rcases lvO_cases (tT z b s) with c | c | c | c | c | c | c | c <;> first | exact c.1 | (rw [q] at c; exact absurd c.2 (by decide)) | (have := c.2.2.2.2.2.2.2; rw [q] at this; exact absurd this (by decide))
      rw [decide_eq_true (show tT z b s = nI 42 from t), if_neg (show ¬ bI true = 0 from i10)]
      refine k _ (fun v S5 w => ?_)
      rw [t, joi_42] at w
      exact w))
    (fun K n x g S w k => mp_signB w (by rw [if_pos rfl]; exact k))
theorem mp_added {F : Nat → St → (Int32 → St → Prop) → Prop} {P : Nat → Nat → Nat → Pr} {op : Nat} (hz : z ≤ 160) (hk : okPs z (P 4 op)) (hP : SMr z b r env op (F 4) (P 4 op)) : SMr z b r env op (wpX8_added F) (levP z b P 3 op) :=
  mp_lev (F := F 4) (W := fun K => wbX8_added_5 F K) (lv := 3) hz (by omega) (by omega) hk hP
    (fun K n x s S h q k => mp_isSign (v := 43) h (by omega) (by omega) (by
      rw [decide_eq_false (fun w => q (by rw [w]; rfl)), if_pos bI_f]
      refine mp_isSign (v := 45) h (by omega) (by omega) ?_
      rw [decide_eq_false (fun w => q (by rw [w]; rfl)), if_pos bI_f]
      exact k))
    (fun K n x s S h q k => by
      have t : tT z b s = 43 ∨ tT z b s = 45 := by rcases lvO_cases (tT z b s) with c | c | c | c | c | c | c | c <;> first | exact Or.inl c.1 | exact Or.inr c.1 | (rw [q] at c; exact absurd c.2 (by decide)) | (have := c.2.2.2.2.2.2.2; rw [q] at this; exact absurd this (by decide))
      have go : wbX8_added_23 F (fun yx1 S9 => wbX8_added_5 F K n yx1 S9) K x S := by
        unfold wbX8_added_23
        rcases t with t | t
        · rw [sw_40, mp_sw (v := 43) h (by omega) (by omega) t, if_pos (show lg_cmp (lN 43) 43 = 0 from (lg_cmp_eq _ _).mpr rfl)]
          refine k _ (fun v S5 w => ?_)
          rw [t, joi_43] at w
          rw [if_neg i10]; exact w
        · rw [sw_40, mp_sw (v := 45) h (by omega) (by omega) t, if_neg (fun w => absurd ((lg_cmp_eq _ _).mp w) (by decide))]
          refine k _ (fun v S5 w => ?_)
          rw [t, joi_45] at w
          rw [if_pos rfl]; exact w
      refine mp_isSign (v := 43) h (by omega) (by omega) (bI_if (fun q1 => ?_) (fun _ => go))
      refine mp_isSign (v := 45) h (by omega) (by omega) (bI_if (fun q2 => ?_) (fun _ => go))
      rcases t with t | t
      · exact absurd t (of_decide_eq_false q1)
      · exact absurd t (of_decide_eq_false q2))
    (fun K n x g S w k => mp_signB w (by rw [if_pos rfl]; exact mp_signB w (by rw [if_pos rfl]; exact k)))
theorem mp_not {F : Nat → St → (Int32 → St → Prop) → Prop} {P : Nat → Nat → Nat → Pr} {op : Nat} (ho : op ≤ 5) (hk : ∀ lv op, lv ≤ 5 → okPs z (P lv op)) (hP : SMr z b r env op (F 3) (P 3 op)) (hN : op < 5 → SMr z b r env (op + 1) (F 2) (P 2 (op + 1))) : SMr z b r env op (wpX8_not F) (levP z b P 2 op) := by
  intro s S K hs h h29 he k
  unfold wpX8_not
  unfold levP at k
  refine mp_isWord (j := 11) h (by omega) (by decide) (bI_if (fun q => ?_) (fun q => ?_))
  · have q2 : ¬ tT z b s = 12 := of_decide_eq_false q
    rw [if_neg (fun w => q2 w.2), out_bnd] at k
    refine hP s S _ hs h h29 he (out_m k (hk 3 op (by omega) s hs) (fun g k1 _ => fun v S1 w1 f1 => ?_) (fun q3 c k1 ok => fun S1 h1 h129 f1 => ?_))
    · refine mp_signB w1 ?_
      rw [if_pos rfl]
      refine mp_signB w1 ?_
      rw [if_pos rfl]
      exact k1 v S1 w1 f1
    · obtain ⟨o1, o2, o3, o4⟩ := ok
      have k1 : out (if lvO (tT z b q3) = 2 then bnd (P 3 op (nx z b q3)) (fun q4 c2 => .inr (q4, c ++ c2 ++ [-(tT z b q3)])) else .inr (q3, c)) (fun g => ∀ v S1, Bd S1 g → fx S S1 → K v S1) (fun q c => ∀ S1, Mt z b r S1 q → S1.1 40 0 29 = nI op → fx S S1 → K (ev env c) S1) := k1
      have go : (tT z b q3 = 60 ∨ tT z b q3 = 61) → wbX8_not_77 F K (ev env c) S1 := by
        intro t
        have jo : isJo (tT z b q3) := by
          unfold isJo
          rcases t with t | t
          · exact Or.inr (Or.inr (Or.inr (Or.inr (Or.inr (Or.inl t)))))
          · exact Or.inr (Or.inr (Or.inr (Or.inr (Or.inr (Or.inr t)))))
        rw [if_pos (by rcases t with t | t <;> rw [t] <;> rfl), out_bnd] at k1
        have jn := jo_ne jo
        have nl := nx_le (b := b) (lt_of_tT jn.1)
        have st : ∀ v0 : Int32, ((v0 = 0 ∧ tT z b q3 = 61) ∨ (v0 = 1 ∧ tT z b q3 = 60)) → wbX8_not_93 F K (ev env c) v0 S1 := by
          intro v0 hv
          unfold wbX8_not_93
          refine mp_nx h1 jn.1 jn.2 (fun S4 h4 f4 => ?_)
          refine hP (nx z b q3) S4 _ nl.2 h4 (by rw [f4.2 29 (by omega)]; exact h129) (Ev_fx he (fx_tr f1 (fx_fn f4))) (out_m k1 (hk 3 op (by omega) _ nl.2) (fun g k2 _ => fun v S5 w5 f5 => ?_) (fun q6 c2 k2 ok2 => fun S5 h5 h529 f5 => ?_))
          · have kk := fun v => k2 v S5 w5 (fx_tr f1 (fx_tr (fx_fn f4) f5))
            exact if_of (fun _ => if_of (fun _ => kk 1) (fun _ => kk 0)) (fun _ => if_of (fun _ => kk 0) (fun _ => kk 1))
          · have kk := k2 S5 h5 h529 (fx_tr f1 (fx_tr (fx_fn f4) f5))
            rw [(Gd_j o4 ok2.2.2.2 jo).2 env] at kk
            rcases hv with ⟨rfl, t⟩ | ⟨rfl, t⟩
            · rw [t, joi_61] at kk
              rw [if_pos rfl]
              refine if_of (fun e => ?_) (fun e => ?_)
              · rw [if_pos e] at kk; exact kk
              · rw [if_neg e] at kk; exact kk
            · rw [t, joi_60] at kk
              rw [if_neg i10]
              refine if_of (fun e => ?_) (fun e => ?_)
              · rw [if_pos e] at kk; exact kk
              · rw [if_neg e] at kk; exact kk
        unfold wbX8_not_77
        rcases t with t | t
        · rw [sw_40, mp_sw (v := 60) h1 (by omega) (by omega) t, if_pos (show lg_cmp (lN 60) 60 = 0 from (lg_cmp_eq _ _).mpr rfl)]
          exact st 1 (Or.inr ⟨rfl, t⟩)
        · rw [sw_40, mp_sw (v := 61) h1 (by omega) (by omega) t, if_neg (fun w => absurd ((lg_cmp_eq _ _).mp w) (by decide))]
          exact st 0 (Or.inl ⟨rfl, t⟩)
      refine mp_isSign (v := 60) h1 (by omega) (by omega) (bI_if (fun q4 => ?_) (fun q4 => go (Or.inl (of_decide_eq_true q4))))
      refine mp_isSign (v := 61) h1 (by omega) (by omega) (bI_if (fun q5 => ?_) (fun q5 => go (Or.inr (of_decide_eq_true q5))))
      have n4 : ¬ tT z b q3 = 60 := of_decide_eq_false q4
      have n5 : ¬ tT z b q3 = 61 := of_decide_eq_false q5
      rw [if_neg (fun w => by rcases lvO_cases (tT z b q3) with c | c | c | c | c | c | c | c <;> first | exact n4 c.1 | exact n5 c.1 | (rw [w] at c; exact absurd c.2 (by decide)) | (have := c.2.2.2.2.2.2.2; rw [w] at this; exact absurd this (by decide)))] at k1
      exact k1 S1 h1 h129 f1
  · have q2 : tT z b s = 12 := of_decide_eq_true q
    rw [if_pos ⟨rfl, q2⟩] at k
    have nl := nx_le (b := b) (lt_of_tT (z := z) (b := b) (s := s) (by rw [q2]; decide))
    refine mp_opens ho h h29 (by rw [q2]; decide) (by rw [q2]; decide) (fun q3 S1 h1 h129 f1 => ?_) (fun q3 S1 w1 f1 => ?_)
    · rw [if_pos q3, out_bnd] at k
      rw [if_neg i10]
      refine hN q3 (nx z b s) S1 _ nl.2 h1 h129 (Ev_fx he f1) (out_m k (hk 2 (op + 1) (by omega) _ nl.2) (fun g k1 _ => fun v S2 w2 f2 => fun S3 e3 => ?_) (fun q4 c k1 ok => fun S2 h2 h229 f2 => fun S3 e3 => ?_))
      · have f3 : fx S2 S3 := by rw [e3]; exact fx_su (fx_rfl S2)
        have w3 : Bd S3 g := by rw [e3]; exact Bd_29 w2
        have kk := fun v => k1 v S3 w3 (fx_tr f1 (fx_tr f2 f3))
        exact if_of (fun _ => kk 1) (fun _ => kk 0)
      · have f3 : fx S2 S3 := by rw [e3]; exact fx_su (fx_rfl S2)
        have h3 : Mt z b r S3 q4 := by rw [e3]; exact Mt_29 h2
        have kk := k1 S3 h3 (by rw [e3, su_eq, h229, nI_pred]) (fx_tr f1 (fx_tr f2 f3))
        rw [(Gd_t ok.2.2.2 (Or.inl rfl)).2 env, tur_12] at kk
        refine if_of (fun e => ?_) (fun e => ?_)
        · rw [if_pos e] at kk; exact kk
        · rw [if_neg e] at kk; exact kk
    · rw [if_neg q3] at k
      rw [if_pos rfl]
      exact k 0 S1 w1 f1
theorem mp_name {s : Nat} {S : St} {K : Int32 → St → Prop} (h : Mt z b r S s) (he : Ev env S) (ky : ∀ j, 1 ≤ j → j ≤ 6 → tT z b s = nI j → K (env j) S) (kn : ¬ (1 ≤ tT z b s ∧ tT z b s ≤ 6) → ∀ S1, Bd S1 s → fx S S1 → K 0 S1) : wpX8_name S K := by
  unfold wpX8_name
  refine mp_isWord (j := 0) h (by omega) (by decide) (bI_if (fun q1 => ?_) (fun q => ?_))
  · refine mp_isWord (j := 1) h (by omega) (by decide) (bI_if (fun q2 => ?_) (fun q => ?_))
    · refine mp_isWord (j := 2) h (by omega) (by decide) (bI_if (fun q3 => ?_) (fun q => ?_))
      · refine mp_isWord (j := 3) h (by omega) (by decide) (bI_if (fun q4 => ?_) (fun q => ?_))
        · refine mp_isWord (j := 4) h (by omega) (by decide) (bI_if (fun q5 => ?_) (fun q => ?_))
          · refine mp_isWord (j := 5) h (by omega) (by decide) (bI_if (fun q6 => ?_) (fun q => ?_))
            · refine mp_fail h (fun S1 w f => kn (fun c => ?_) S1 w f)
              obtain ⟨j, j1, j2, e⟩ := tT_16 c
              rcases (show j = 1 ∨ j = 2 ∨ j = 3 ∨ j = 4 ∨ j = 5 ∨ j = 6 by omega) with rfl | rfl | rfl | rfl | rfl | rfl
              · exact of_decide_eq_false q1 e
              · exact of_decide_eq_false q2 e
              · exact of_decide_eq_false q3 e
              · exact of_decide_eq_false q4 e
              · exact of_decide_eq_false q5 e
              · exact of_decide_eq_false q6 e
            · rw [show S.1 40 0 22 = env 6 from he 6 (by omega) (by omega)]; exact ky 6 (by omega) (by omega) (of_decide_eq_true q)
          · rw [show S.1 40 0 21 = env 5 from he 5 (by omega) (by omega)]; exact ky 5 (by omega) (by omega) (of_decide_eq_true q)
        · rw [show S.1 40 0 20 = env 4 from he 4 (by omega) (by omega)]; exact ky 4 (by omega) (by omega) (of_decide_eq_true q)
      · rw [show S.1 40 0 19 = env 3 from he 3 (by omega) (by omega)]; exact ky 3 (by omega) (by omega) (of_decide_eq_true q)
    · rw [show S.1 40 0 18 = env 2 from he 2 (by omega) (by omega)]; exact ky 2 (by omega) (by omega) (of_decide_eq_true q)
  · rw [show S.1 40 0 17 = env 1 from he 1 (by omega) (by omega)]; exact ky 1 (by omega) (by omega) (of_decide_eq_true q)
theorem mp_atom {F : Nat → St → (Int32 → St → Prop) → Prop} {P : Nat → Nat → Nat → Pr} {op : Nat} (ho : op ≤ 5) (hk : ∀ lv op, lv ≤ 5 → okPs z (P lv op)) (hM : op < 5 → SMr z b r env (op + 1) (F 5) (P 5 (op + 1))) (hO : op < 5 → SMr z b r env (op + 1) (F 0) (P 0 (op + 1))) : SMr z b r env op (wpX8_atom F) (oneP z b P op) := by
  intro s S K hs h h29 he k
  unfold wpX8_atom
  unfold oneP at k
  refine mp_isSign (v := 45) h (by omega) (by omega) (bI_if (fun q1 => ?_) (fun q1 => ?_))
  · have n1 : ¬ tT z b s = 45 := of_decide_eq_false q1
    rw [if_neg n1] at k
    refine mp_isSign (v := 40) h (by omega) (by omega) (bI_if (fun q2 => ?_) (fun q2 => ?_))
    · have n2 : ¬ tT z b s = 40 := of_decide_eq_false q2
      rw [if_neg n2] at k
      rw [if_pos h.2.2.2.1]
      by_cases c0 : tT z b s = 0
      · rw [if_pos c0] at k
        have c2 := tK_2.mp c0
        rw [if_pos (h.2.2.1.trans c2)]
        refine mp_nx h (by rw [c0]; decide) (by rw [c0]; decide) (fun S1 h1 f1 => ?_)
        have kk := k S1 h1 (by rw [f1.2 29 (by omega)]; exact h29) (fx_fn f1)
        rw [(Gd_n (tV_lt c0)).2 env] at kk
        rw [sw_40, h.2.2.2.2.2.1 c2, lN_i]; exact kk
      · rw [if_neg c0] at k
        rw [if_neg (by rw [h.2.2.1]; exact fun w => c0 (tK_2.mpr w))]
        unfold wbX8_atom_123
        rw [if_pos h.2.2.2.1]
        by_cases c1 : tK z b s = 1
        · rw [if_pos (h.2.2.1.trans c1)]
          refine mp_name h he (fun j j1 j2 e => ?_) (fun c S1 w1 f1 => ?_)
          · rw [if_pos h.2.2.2.1]
            have e1 : 1 ≤ tT z b s ∧ tT z b s ≤ 6 := by
              rw [e]; exact ⟨nI_le (a := 1) j1 (by omega), nI_le (b := 6) j2 (by omega)⟩
            rw [if_pos e1] at k
            refine mp_nx h (by rw [e]; exact nI_nm1 (by omega)) (by rw [e]; exact nI_n2 (by omega)) (fun S1 h1 f1 => ?_)
            have kk := k S1 h1 (by rw [f1.2 29 (by omega)]; exact h29) (fx_fn f1)
            rw [e, (Gd_w j1 j2).2 env] at kk; exact kk
          · rw [if_neg (nI_B w1)]
            rw [if_neg c] at k
            exact k 0 S1 w1 f1
        · rw [if_neg (by rw [h.2.2.1]; exact c1)]
          unfold wbX8_atom_157
          rw [if_neg (fun c => c1 (tK_1 c))] at k
          exact mp_fail h (fun S1 w1 f1 => k 0 S1 w1 f1)
    · have t : tT z b s = 40 := of_decide_eq_true q2
      rw [if_neg (by rw [t]; decide), if_neg (by rw [t]; decide), if_pos t] at k
      have nl := nx_le (b := b) (lt_of_tT (z := z) (b := b) (s := s) (by rw [t]; decide))
      refine mp_opens ho h h29 (by rw [t]; decide) (by rw [t]; decide) (fun q3 S1 h1 h129 f1 => ?_) (fun q3 S1 w1 f1 => ?_)
      · rw [if_pos q3, out_bnd] at k
        rw [if_neg i10]
        refine hO q3 (nx z b s) S1 _ nl.2 h1 h129 (Ev_fx he f1) (out_m k (hk 0 (op + 1) (by omega) _ nl.2) (fun g k1 _ => fun v S2 w2 f2 => ?_) (fun q4 c k1 ok => fun S2 h2 h229 f2 => ?_))
        · refine mp_signB w2 ?_
          rw [if_pos rfl]
          refine mp_failB w2 ?_
          intro S3 e3
          have f3 : fx S2 S3 := by rw [e3]; exact fx_su (fx_rfl S2)
          have w3 : Bd S3 g := by rw [e3]; exact Bd_29 w2
          rw [if_neg (nI_B w3)]
          exact k1 v S3 w3 (fx_tr f1 (fx_tr f2 f3))
        · refine mp_isSign (v := 41) h2 (by omega) (by omega) (bI_if (fun q5 => ?_) (fun q5 => ?_))
          · have t5 : ¬ tT z b q4 = 41 := of_decide_eq_false q5
            rw [if_neg t5] at k1
            refine mp_fail h2 (fun S3 w3 f3 => ?_)
            intro S4 e4
            have f4 : fx S3 S4 := by rw [e4]; exact fx_su (fx_rfl S3)
            have w4 : Bd S4 q4 := by rw [e4]; exact Bd_29 w3
            rw [if_neg (nI_B w4)]
            exact k1 _ S4 w4 (fx_tr f1 (fx_tr f2 (fx_tr f3 f4)))
          · have t5 : tT z b q4 = 41 := of_decide_eq_true q5
            rw [if_pos t5] at k1
            intro S3 e3
            have f3 : fx S2 S3 := by rw [e3]; exact fx_su (fx_rfl S2)
            have h3 : Mt z b r S3 q4 := by rw [e3]; exact Mt_29 h2
            rw [if_pos h3.2.2.2.1]
            refine mp_nx h3 (by rw [t5]; decide) (by rw [t5]; decide) (fun S4 h4 f4 => k1 S4 h4 (by rw [f4.2 29 (by omega), e3, su_eq, h229, nI_pred]) (fx_tr f1 (fx_tr f2 (fx_tr f3 (fx_fn f4)))))
      · rw [if_neg q3] at k
        rw [if_pos rfl]
        exact k 0 S1 w1 f1
  · have t : tT z b s = 45 := of_decide_eq_true q1
    rw [if_neg (by rw [t]; decide), if_neg (by rw [t]; decide), if_pos t] at k
    have nl := nx_le (b := b) (lt_of_tT (z := z) (b := b) (s := s) (by rw [t]; decide))
    refine mp_opens ho h h29 (by rw [t]; decide) (by rw [t]; decide) (fun q3 S1 h1 h129 f1 => ?_) (fun q3 S1 w1 f1 => ?_)
    · rw [if_pos q3, out_bnd] at k
      rw [if_neg i10]
      refine hM q3 (nx z b s) S1 _ nl.2 h1 h129 (Ev_fx he f1) (out_m k (hk 5 (op + 1) (by omega) _ nl.2) (fun g k1 _ => fun v S2 w2 f2 => fun S3 e3 => ?_) (fun q4 c k1 ok => fun S2 h2 h229 f2 => fun S3 e3 => ?_))
      · have f3 : fx S2 S3 := by rw [e3]; exact fx_su (fx_rfl S2)
        have w3 : Bd S3 g := by rw [e3]; exact Bd_29 w2
        exact k1 _ S3 w3 (fx_tr f1 (fx_tr f2 f3))
      · have f3 : fx S2 S3 := by rw [e3]; exact fx_su (fx_rfl S2)
        have h3 : Mt z b r S3 q4 := by rw [e3]; exact Mt_29 h2
        have kk := k1 S3 h3 (by rw [e3, su_eq, h229, nI_pred]) (fx_tr f1 (fx_tr f2 f3))
        rw [(Gd_t ok.2.2.2 (Or.inr rfl)).2 env, tur_13] at kk
        exact kk
    · rw [if_neg q3] at k
      rw [if_pos rfl]
      exact k 0 S1 w1 f1
def SMd (z : Nat) (b : By) (r : Nat) (env : Nat → Int32) (d : Nat) : Prop := ∀ lv op f, lv ≤ 5 → op ≤ 5 → (6 - lv) + 6 * (5 - op) ≤ d → (6 - lv) + 6 * (5 - op) ≤ f → SMr z b r env op (wpG3 f lv) (pars z b d lv op)
theorem mp_pars_s {d : Nat} (hz : z ≤ 160) (ih : SMd z b r env d) : SMd z b r env (d + 1) := by
  intro lv op f h1 h2 hd hf
  obtain ⟨g, rfl⟩ : ∃ g, f = g + 1 := ⟨f - 1, by omega⟩
  have ok : ∀ lv op, lv ≤ 5 → okPs z (pars z b d lv op) := fun lv op h => pars_ok d lv op h
  intro s S K hs h h29 he k
  rcases (show lv = 0 ∨ lv = 1 ∨ lv = 2 ∨ lv = 3 ∨ lv = 4 ∨ lv = 5 by omega) with rfl | rfl | rfl | rfl | rfl | rfl
  · rw [pars_l (by omega)] at k
    have w := mp_either (F := wpG3 g) (P := pars z b d) (op := op) hz (ok 1 op (by omega)) (ih 1 op g (by omega) h2 (by omega) (by omega)) s S K hs h h29 he k
    exact w
  · rw [pars_l (by omega)] at k
    have w := mp_both (F := wpG3 g) (P := pars z b d) (op := op) hz (ok 2 op (by omega)) (ih 2 op g (by omega) h2 (by omega) (by omega)) s S K hs h h29 he k
    exact w
  · rw [pars_l (by omega)] at k
    have w := mp_not (F := wpG3 g) (P := pars z b d) (op := op) h2 ok (ih 3 op g (by omega) h2 (by omega) (by omega)) (fun q => ih 2 (op + 1) g (by omega) (by omega) (by omega) (by omega)) s S K hs h h29 he k
    exact w
  · rw [pars_l (by omega)] at k
    have w := mp_added (F := wpG3 g) (P := pars z b d) (op := op) hz (ok 4 op (by omega)) (ih 4 op g (by omega) h2 (by omega) (by omega)) s S K hs h h29 he k
    exact w
  · rw [pars_l (by omega)] at k
    have w := mp_term (F := wpG3 g) (P := pars z b d) (op := op) hz (ok 5 op (by omega)) (ih 5 op g (by omega) h2 (by omega) (by omega)) s S K hs h h29 he k
    exact w
  · rw [pars_5] at k
    have w := mp_atom (F := wpG3 g) (P := pars z b d) (op := op) h2 ok (fun q => ih 5 (op + 1) g (by omega) (by omega) (by omega) (by omega)) (fun q => ih 0 (op + 1) g (by omega) (by omega) (by omega) (by omega)) s S K hs h h29 he k
    exact w
theorem mp_pars (hz : z ≤ 160) : ∀ d, SMd z b r env d
  | 0 => fun lv op f h1 h2 h3 _ => by omega
  | d + 1 => mp_pars_s hz (mp_pars hz d)
end
end
