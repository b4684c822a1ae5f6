section
/-! the class reads a TEXT -/
def Wr (S : St) (f : Nat) : Prop := S.1 1 0 7 = -2 ∧ S.1 1 0 9 = nI f ∧ ∃ l, l ≤ 160 ∧ S.1 1 0 4 = nI l
def Cd (S : St) (c : List Int32) : Prop := S.1 1 0 4 = nI c.length ∧ ∀ i, i < c.length → S.1 2 0 i = c.getD i 0
def fy (S S1 : St) : Prop := (∀ kd i, kd ≠ 1 → kd ≠ 2 → S1.1 kd i = S.1 kd i) ∧ S1.1 1 0 2 = S.1 1 0 2
theorem fy_rfl (S : St) : fy S S := ⟨fun _ _ _ _ => rfl, rfl⟩
theorem fy_tr {S S1 S2 : St} (h : fy S S1) (g : fy S1 S2) : fy S S2 := ⟨fun kd i a c => (g.1 kd i a c).trans (h.1 kd i a c), g.2.trans h.2⟩
theorem fy_fa {S S1 : St} (h : fa S S1) : fy S S1 := ⟨fun kd i a _ => h.1 kd i a, h.2 2 (by omega)⟩
theorem fy_1 {S S1 : St} {j : Nat} {v : Int32} (h : fy S S1) (hj : j ≠ 2 := by omega) : fy S (su S1 1 0 j v) := fy_tr h ⟨fun kd i q _ => sa_ne (by omega), su_nj (by omega)⟩
theorem fy_2 {S S1 : St} {j : Nat} {v : Int32} (h : fy S S1) : fy S (su S1 2 0 j v) := fy_tr h ⟨fun kd i _ q => sa_ne (by omega), by rw [sa_ne (by omega)]⟩
theorem Cd_fa {S S1 : St} {c : List Int32} (h : Cd S c) (f : fa S S1) : Cd S1 c := by
  unfold Cd at h ⊢
  rw [f.2 4 (by omega), f.1 2 0 (by omega)]; exact h
section
variable {z : Nat} {b : By}
theorem Cb_fy {S S1 : St} (h : Cb z b S) (f : fy S S1) : Cb z b S1 := by
  unfold Cb at h ⊢
  rw [f.2, f.1 4 0 (by omega) (by omega)]; exact h
theorem sp_fail {s : Nat} {c : List Int32} {S : St} {K : St → Prop} (h : Ct z b S s) (hc : Cd S c) (hl : c.length ≤ 160) (k : ∀ S1, Wr S1 s → fy S S1 → K S1) : wpX2_fail S K := by
  unfold wpX2_fail wbX2_fail_16
  rw [if_pos h.2.2.2.1]
  intro S2 e2 S3 e3
  refine k S3 ⟨by rw [e3, su_eq], by rw [e3, su_nj (by omega), e2, su_eq]; exact h.2.1, c.length, hl, by rw [e3, su_nj (by omega), e2, su_nj (by omega)]; exact hc.1⟩ ?_
  rw [e3, e2]; exact fy_1 (fy_1 (fy_rfl S))
theorem sp_failW {f : Nat} {S : St} {K : St → Prop} (hf : f < 2 ^ 31) (h : Wr S f) (k : ∀ S1, Wr S1 f → fy S S1 → K S1) : wpX2_fail S K := by
  unfold wpX2_fail wbX2_fail_16
  rw [if_neg (by rw [h.2.1]; exact nI_nm1 hf)]
  intro S3 e3
  obtain ⟨h1, h2, l, hl, h3⟩ := h
  exact k S3 ⟨by rw [e3, su_eq], by rw [e3, su_nj (by omega)]; exact h2, l, hl, by rw [e3, su_nj (by omega)]; exact h3⟩ (by rw [e3]; exact fy_1 (fy_rfl S))
theorem sp_emitW {f : Nat} {S : St} {x : Int32} {K : St → Prop} (h : Wr S f) (k : ∀ S1, Wr S1 f → fy S S1 → K S1) : wpX2_emit x S K := by
  obtain ⟨h1, h2, l, hl, h3⟩ := id h
  unfold wpX2_emit
  rw [h3]
  by_cases q : 160 ≤ l
  · rw [if_pos (show (160 : Int32) ≤ nI l from nI_le (a := 160) q (by omega))]
    exact k S h (fy_rfl S)
  · rw [if_neg (show ¬ (160 : Int32) ≤ nI l from nI_ge (b := 160) (by omega) (by omega))]
    refine ⟨vp_in_nI (by omega) (by omega), fun S2 e2 => fun S3 e3 => k S3 ⟨?_, ?_, l + 1, by omega, ?_⟩ ?_⟩
    · rw [e3, su_nj (by omega), e2, sa_ne (by omega)]; exact h1
    · rw [e3, su_nj (by omega), e2, sa_ne (by omega)]; exact h2
    · rw [e3, su_eq, e2, sa_ne (by omega), h3, nI_1]
    · rw [e3, e2]; exact fy_1 (fy_2 (fy_rfl S))
theorem gd_app {c d : List Int32} {i : Nat} (h : i < c.length) : (c ++ d).getD i 0 = c.getD i 0 := by simp [List.getD, List.getElem?_append_left h]
theorem sp_emit {c : List Int32} {S : St} {x : Int32} {K : St → Prop} (hc : Cd S c) (hl : c.length < 160) (k : ∀ S1, Cd S1 (c ++ [x]) → fy S S1 → (∀ j, j ≠ 4 → S1.1 1 0 j = S.1 1 0 j) → K S1) : wpX2_emit x S K := by
  unfold wpX2_emit
  rw [hc.1, if_neg (show ¬ (160 : Int32) ≤ nI c.length from nI_ge (b := 160) (by omega) (by omega)), nI_clamp (by omega)]
  refine ⟨vp_in_nI (by omega) (by omega), fun S2 e2 => fun S3 e3 => k S3 ⟨?_, fun i hi => ?_⟩ ?_ (fun j hj => ?_)⟩
  · rw [e3, su_eq, e2, sa_ne (by omega), hc.1, nI_1, List.length_append]; rfl
  · rw [List.length_append] at hi
    have hi : i < c.length + 1 := hi
    rw [e3, sa_ne (by omega), e2, sa_eq, upd_rd]
    by_cases q : i = c.length
    · rw [if_pos q, q]; simp
    · rw [if_neg q, hc.2 i (by omega)]
      rw [gd_app (by omega)]
  · rw [e3, e2]; exact fy_1 (fy_2 (fy_rfl S))
  · rw [e3, su_nj hj, e2, sa_ne (by omega)]
theorem Ct_em {s : Nat} {S S1 : St} (h : Ct z b S s) (f : fy S S1) (g : ∀ j, j ≠ 4 → S1.1 1 0 j = S.1 1 0 j) : Ct z b S1 s := by
  obtain ⟨h1, h2⟩ := h
  refine ⟨Cb_fy h1 f, ?_⟩
  rw [g 6 (by omega), g 7 (by omega), g 9 (by omega), g 5 (by omega), g 8 (by omega)]; exact h2
theorem sp_lvO {A B : St → Prop} {t : Int32} {lv : Nat} {S : St} (hl : lv ≤ 4) (y : lvO t = lv → A S) (n : lvO t ≠ lv → B S) : wpX2_levelOf t S (fun r S1 => if r = nI lv then A S1 else B S1) := by
  have hp : ∀ j : Nat, j < 2 ^ 31 → lvO t = j → (if nI j = nI lv then A S else B S) := by
    intro j hj e
    by_cases q : j = lv
    · rw [if_pos (by rw [q])]; exact y (e.trans q)
    · rw [if_neg (fun w => q ((nI_eq hj (by omega)).mp w))]; exact n (fun w => q (e.symm.trans w))
  unfold wpX2_levelOf
  by_cases c1 : t = 10
  · rw [if_pos c1]; exact hp 0 (by omega) (by rw [c1]; rfl)
  rw [if_neg c1]
  by_cases c2 : t = 11
  · rw [if_pos c2]; exact hp 1 (by omega) (by rw [c2]; rfl)
  rw [if_neg c2]
  by_cases c3 : t = 42
  · rw [if_pos c3]; exact hp 4 (by omega) (by rw [c3]; rfl)
  rw [if_neg c3]
  by_cases c4 : t = 43
  · rw [if_pos c4]; exact hp 3 (by omega) (by rw [c4]; rfl)
  rw [if_neg c4]
  by_cases c5 : t = 45
  · rw [if_pos c5]; exact hp 3 (by omega) (by rw [c5]; rfl)
  rw [if_neg c5]
  by_cases c6 : t = 60
  · rw [if_pos c6]; exact hp 2 (by omega) (by rw [c6]; rfl)
  rw [if_neg c6]
  by_cases c7 : t = 61
  · rw [if_pos c7]; exact hp 2 (by omega) (by rw [c7]; rfl)
  rw [if_neg c7]
  show if (-1 : Int32) = nI lv then A S else B S
  rw [if_neg (fun w => nI_nm1 (by omega) w.symm)]
  refine n (fun w => ?_)
  unfold lvO at w
  rw [if_neg c1, if_neg c2, if_neg c3, if_neg c4, if_neg c5, if_neg c6, if_neg c7] at w
  omega
theorem lvO_m2 {lv : Nat} (hl : lv ≤ 4) : lvO (-2) ≠ lv := by
  have : lvO (-2) = 9 := by decide
  omega
theorem sp_loW {F : Nat → Int32 → Int32 → St → (St → Prop) → Prop} {K : St → Prop} {lv n f : Nat} {x2 x3 x4 : Int32} {S : St} (hl : lv ≤ 4) (h : Wr S f) (k : K S) : wbX2_readLevel_72 F K (nI lv) x2 x3 (n + 1) x4 S := by
  refine if_of (fun _ => k) (fun _ => ?_)
  rw [h.1]
  exact sp_lvO hl (fun q => absurd q (lvO_m2 hl)) (fun _ => k)
/-- what the class's readers do, by P -/
def SPr (z : Nat) (b : By) (G : St → (St → Prop) → Prop) (P : Nat → Pr) : Prop := ∀ (s : Nat) (c0 : List Int32) (S : St) (K : St → Prop), s ≤ z → Ct z b S s → Cd S c0 → c0.length ≤ s → out (P s) (fun g => ∀ S1, Wr S1 g → fy S S1 → K S1) (fun q c => ∀ S1, Ct z b S1 q → Cd S1 (c0 ++ c) → fy S S1 → K S1) → G S K
theorem sp_lo {F : Nat → Int32 → Int32 → St → (St → Prop) → Prop} {P : Nat → Pr} {lv op mo : Nat} (hz : z ≤ 160) (hl : lv ≤ 4) (hm : mo < 2 ^ 31) (hk : okPs z P) (hP : SPr z b (F 0 (nI (lv + 1)) (nI op)) P) (c0 : List Int32) (K : St → Prop) : ∀ (n i s : Nat) (c : List Int32) (S : St), i + n = mo → s ≤ z → Ct z b S s → Cd S (c0 ++ c) → (c0 ++ c).length ≤ s → out (loP z b P lv n s c) (fun g => ∀ S1, Wr S1 g → fy S S1 → K S1) (fun q c => ∀ S1, Ct z b S1 q → Cd S1 (c0 ++ c) → fy S S1 → K S1) → wbX2_readLevel_72 F K (nI lv) (nI op) (nI mo) (n + 1) (nI i) S
  | 0, i, s, c, S, e, hs, h, hc, hn, k => by
    show if nI mo ≤ nI i then _ else _
    rw [if_pos (nI_le (by omega) (by omega))]
    exact k S h hc (fy_rfl S)
  | n + 1, i, s, c, S, e, hs, h, hc, hn, k => by
    show if nI mo ≤ nI i then _ else _
    rw [if_neg (nI_ge (by omega) (by omega)), h.2.2.1, nI_1, nI_1]
    unfold loP at k
    refine sp_lvO hl (fun q => ?_) (fun q => ?_)
    · rw [if_pos q, out_bnd] at k
      have jo := jo_ne (lvO_jo q hl)
      have nl := nx_le (b := b) (lt_of_tT jo.1)
      refine sp_nx h jo.1 jo.2 (fun S2 h2 f2 => ?_)
      have fy2 := fy_fa f2
      refine hP (nx z b s) (c0 ++ c) S2 _ nl.2 h2 (Cd_fa hc f2) (by omega) (out_m k (hk _ nl.2) (fun g k1 hg => fun S3 w3 f3 => ?_) (fun q2 c2 k1 ok => fun S3 h3 hc3 f3 => ?_))
      · refine sp_emitW w3 (fun S4 w4 f4 => sp_loW hl w4 (k1 S4 w4 (fy_tr fy2 (fy_tr f3 f4))))
      · obtain ⟨o1, o2, o3, _⟩ := ok
        rw [h.2.2.1]
        have ln : (c0 ++ c ++ c2).length + 1 ≤ q2 := by
          rw [List.length_append]; omega
        refine sp_emit hc3 (by omega) (fun S4 hc4 f4 g4 => ?_)
        rw [show c0 ++ c ++ c2 ++ [-(tT z b s)] = c0 ++ (c ++ c2 ++ [-(tT z b s)]) by simp only [List.append_assoc]] at hc4
        refine sp_lo hz hl hm hk hP c0 K n (i + 1) q2 _ S4 (by omega) o3 (Ct_em h3 f4 g4) hc4 ?_ (out_m k1 k1 (fun g a _ => fun S5 w5 f5 => a S5 w5 (fy_tr fy2 (fy_tr f3 (fy_tr f4 f5)))) (fun q3 c3 a _ => fun S5 h5 hc5 f5 => a S5 h5 hc5 (fy_tr fy2 (fy_tr f3 (fy_tr f4 f5)))))
        simp only [List.length_append, List.length_cons, List.length_nil] at ln ⊢
        omega
    · rw [if_neg q] at k
      exact k S h hc (fy_rfl S)
theorem sp_enter2 {op s : Nat} {c0 : List Int32} {S : St} {K : Int32 → St → Prop} (hz : z ≤ 160) (ho : op ≤ 5) (h : Ct z b S s) (hc : Cd S c0) (hl : c0.length ≤ s) (hs : s ≤ z) (h1 : tT z b s ≠ -1) (h2 : tT z b s ≠ -2) (ky : op < 5 → ∀ S1, Ct z b S1 (nx z b s) → Cd S1 c0 → fy S S1 → K 1 S1) (kn : ¬ op < 5 → ∀ S1, Wr S1 s → fy S S1 → K 0 S1) : wpX2_enter (nI op) S K := by
  unfold wpX2_enter
  by_cases q : op < 5
  · rw [if_pos (show nI op < (5 : Int32) from nI_lt (b := 5) q (by omega))]
    exact sp_nx h h1 h2 (fun S1 h3 f => ky q S1 h3 (Cd_fa hc f) (fy_fa f))
  · rw [if_neg (show ¬ nI op < (5 : Int32) from nI_nlt (b := 5) (by omega) (by omega))]
    exact sp_fail h hc (by omega) (fun S1 w f => kn q S1 w f)
theorem sp_lev {F : Nat → Int32 → Int32 → St → (St → Prop) → Prop} {P : Nat → Nat → Nat → Pr} {lv op : Nat} (hz : z ≤ 160) (hl : lv ≤ 4) (ho : op ≤ 5) (hk : ∀ lv op, lv ≤ 5 → okPs z (P lv op)) (hP : SPr z b (F 0 (nI (lv + 1)) (nI op)) (P (lv + 1) op)) (hN : lv = 2 → op < 5 → SPr z b (F 0 2 (nI (op + 1))) (P 2 (op + 1))) : SPr z b (wpX2_readLevel F (nI lv) (nI op)) (levP z b P lv op) := by
  intro s c0 S K hs h hc hn k
  have go : ¬ (lv = 2 ∧ tT z b s = 12) → wbX2_readLevel_48 F K (nI lv) (nI op) S := by
    intro q
    unfold levP at k
    rw [if_neg q, out_bnd] at k
    unfold wbX2_readLevel_48 wbX2_readLevel_68
    rw [nI_1]
    refine hP s c0 S _ hs h hc hn (out_m k (hk (lv + 1) op (by omega) s hs) (fun g k1 _ => fun S1 w1 f1 => ?_) (fun q2 c k1 ok => fun S1 h1 hc1 f1 => ?_))
    · by_cases q3 : nI lv = 2
      · rw [if_pos q3]; exact ⟨1, sp_loW hl w1 (k1 S1 w1 f1)⟩
      · rw [if_neg q3]; exact ⟨1, sp_loW hl w1 (k1 S1 w1 f1)⟩
    · obtain ⟨o1, o2, o3, _⟩ := ok
      have k2 : ∀ mo, out (loP z b (P (lv + 1) op) lv mo q2 c) (fun g => ∀ S1, Wr S1 g → fy S S1 → K S1) (fun q c => ∀ S1, Ct z b S1 q → Cd S1 (c0 ++ c) → fy S S1 → K S1) → out (loP z b (P (lv + 1) op) lv mo q2 c) (fun g => ∀ S2, Wr S2 g → fy S1 S2 → K S2) (fun q c => ∀ S2, Ct z b S2 q → Cd S2 (c0 ++ c) → fy S1 S2 → K S2) := fun mo w => out_m w w (fun g a _ => fun S5 w5 f5 => a S5 w5 (fy_tr f1 f5)) (fun q3 c3 a _ => fun S5 h5 hc5 f5 => a S5 h5 hc5 (fy_tr f1 f5))
      by_cases q3 : lv = 2
      · rw [if_pos q3] at k1
        rw [if_pos (by rw [q3]; rfl)]
        exact ⟨1 + 1, sp_lo (mo := 1) hz hl (by omega) (hk (lv + 1) op (by omega)) hP c0 K 1 0 q2 c S1 (by omega) o3 h1 hc1 (by rw [List.length_append]; omega) (k2 1 k1)⟩
      · rw [if_neg q3] at k1
        rw [if_neg (show ¬ nI lv = (2 : Int32) from fun w => q3 ((nI_eq (a := lv) (b := 2) (by omega) (by omega)).mp w))]
        exact ⟨160 + 1, sp_lo (mo := 160) hz hl (by omega) (hk (lv + 1) op (by omega)) hP c0 K 160 0 q2 c S1 (by omega) o3 h1 hc1 (by rw [List.length_append]; omega) (k2 160 k1)⟩
  unfold wpX2_readLevel
  rw [if_pos (show nI lv ≤ (4 : Int32) from nI_le (b := 4) hl (by omega))]
  by_cases q : lv = 2
  · rw [if_pos (by rw [q]; rfl), h.2.2.1]
    by_cases q2 : tT z b s = 12
    · rw [if_pos q2]
      unfold levP at k
      rw [if_pos ⟨q, q2⟩] at k
      refine sp_enter2 hz ho h hc hn hs (by rw [q2]; decide) (by rw [q2]; decide) (fun q3 S1 h1 hc1 f1 => ?_) (fun q3 S1 w1 f1 => ?_)
      · rw [if_pos q3, out_bnd] at k
        rw [if_neg (by decide), nI_1]
        have nl := nx_le (b := b) (lt_of_tT (z := z) (b := b) (s := s) (by rw [q2]; decide))
        refine hN q q3 (nx z b s) c0 S1 _ nl.2 h1 hc1 (by omega) (out_m k (hk 2 (op + 1) (by omega) _ nl.2) (fun g k1 _ => fun S2 w2 f2 => ?_) (fun q4 c k1 ok => fun S2 h2 hc2 f2 => ?_))
        · exact sp_emitW w2 (fun S3 w3 f3 => k1 S3 w3 (fy_tr f1 (fy_tr f2 f3)))
        · obtain ⟨o1, o2, o3, _⟩ := ok
          refine sp_emit hc2 (by rw [List.length_append]; omega) (fun S3 hc3 f3 g3 => ?_)
          rw [List.append_assoc] at hc3
          exact k1 S3 (Ct_em h2 f3 g3) hc3 (fy_tr f1 (fy_tr f2 f3))
      · rw [if_neg q3] at k
        rw [if_pos rfl]
        exact k S1 w1 f1
    · rw [if_neg q2]; exact go (fun w => q2 w.2)
  · rw [if_neg (show ¬ nI lv = (2 : Int32) from fun w => q ((nI_eq (a := lv) (b := 2) (by omega) (by omega)).mp w))]
    exact go (fun w => q w.1)
theorem sp_exp {s : Nat} {c0 : List Int32} {v : Int32} {S : St} {K : St → Prop} (h : Ct z b S s) (hc : Cd S c0) (hl : c0.length ≤ 160) (hv1 : v ≠ -1) (hv2 : v ≠ -2) (ky : tT z b s = v → ∀ S1, Ct z b S1 (nx z b s) → Cd S1 c0 → fy S S1 → K S1) (kn : tT z b s ≠ v → ∀ S1, Wr S1 s → fy S S1 → K S1) : wpX2_expect v S K := by
  unfold wpX2_expect
  rw [h.2.2.1]
  by_cases q : tT z b s = v
  · rw [if_pos q, if_neg (by rw [q]; exact hv1)]
    exact sp_nx h (by rw [q]; exact hv1) (by rw [q]; exact hv2) (fun S1 h1 f => ky q S1 h1 (Cd_fa hc f) (fy_fa f))
  · rw [if_neg q]
    exact sp_fail h hc hl (fun S1 w f => kn q S1 w f)
theorem sp_expW {f : Nat} {v : Int32} {S : St} {K : St → Prop} (hf : f < 2 ^ 31) (h : Wr S f) (hv : v ≠ -2) (k : ∀ S1, Wr S1 f → fy S S1 → K S1) : wpX2_expect v S K := by
  unfold wpX2_expect
  rw [h.1, if_neg (fun q => hv q.symm)]
  exact sp_failW hf h k
theorem sp_one {F : Nat → Int32 → Int32 → St → (St → Prop) → Prop} {P : Nat → Nat → Nat → Pr} {op : Nat} (hz : z ≤ 160) (ho : op ≤ 5) (hk : ∀ lv op, lv ≤ 5 → okPs z (P lv op)) (hM : op < 5 → SPr z b (F 1 (nI (op + 1)) 0) (P 5 (op + 1))) (hO : op < 5 → SPr z b (F 0 0 (nI (op + 1))) (P 0 (op + 1))) : SPr z b (wpX2_readOne F (nI op)) (oneP z b P op) := by
  intro s c0 S K hs h hc hn k
  unfold oneP at k
  unfold wpX2_readOne
  rw [h.2.2.1]
  by_cases c1 : tT z b s = 0
  · rw [if_pos c1] at k ⊢
    have lt := lt_of_tT (z := z) (b := b) (s := s) (by rw [c1]; decide)
    rw [h.2.2.2.2.2 c1]
    refine sp_emit hc (by omega) (fun S1 hc1 f1 g1 => sp_nx (Ct_em h f1 g1) (by rw [c1]; decide) (by rw [c1]; decide) (fun S2 h2 f2 => k S2 h2 (Cd_fa hc1 f2) (fy_tr f1 (fy_fa f2))))
  rw [if_neg c1] at k ⊢
  have rest : ¬ (1 ≤ tT z b s ∧ tT z b s ≤ 6) → wbX2_readOne_55 F K (nI op) S := by
    intro c2
    rw [if_neg c2] at k
    unfold wbX2_readOne_55
    rw [h.2.2.1]
    by_cases c3 : tT z b s = 45
    · rw [if_pos c3] at k ⊢
      have nl := nx_le (b := b) (lt_of_tT (z := z) (b := b) (s := s) (by rw [c3]; decide))
      refine sp_enter2 hz ho h hc hn hs (by rw [c3]; decide) (by rw [c3]; decide) (fun q3 S1 h1 hc1 f1 => ?_) (fun q3 S1 w1 f1 => ?_)
      · rw [if_pos q3, out_bnd] at k
        rw [if_neg (by decide), nI_1]
        refine hM q3 (nx z b s) c0 S1 _ nl.2 h1 hc1 (by omega) (out_m k (hk 5 (op + 1) (by omega) _ nl.2) (fun g k1 _ => fun S2 w2 f2 => ?_) (fun q4 c k1 ok => fun S2 h2 hc2 f2 => ?_))
        · exact sp_emitW w2 (fun S3 w3 f3 => k1 S3 w3 (fy_tr f1 (fy_tr f2 f3)))
        · obtain ⟨o1, o2, o3, _⟩ := ok
          refine sp_emit hc2 (by rw [List.length_append]; omega) (fun S3 hc3 f3 g3 => ?_)
          rw [List.append_assoc] at hc3
          exact k1 S3 (Ct_em h2 f3 g3) hc3 (fy_tr f1 (fy_tr f2 f3))
      · rw [if_neg q3] at k
        rw [if_pos rfl]
        exact k S1 w1 f1
    rw [if_neg c3] at k ⊢
    by_cases c4 : tT z b s = 40
    · rw [if_pos c4] at k ⊢
      have nl := nx_le (b := b) (lt_of_tT (z := z) (b := b) (s := s) (by rw [c4]; decide))
      refine sp_enter2 hz ho h hc hn hs (by rw [c4]; decide) (by rw [c4]; decide) (fun q3 S1 h1 hc1 f1 => ?_) (fun q3 S1 w1 f1 => ?_)
      · rw [if_pos q3, out_bnd] at k
        rw [if_neg (by decide), nI_1]
        refine hO q3 (nx z b s) c0 S1 _ nl.2 h1 hc1 (by omega) (out_m k (hk 0 (op + 1) (by omega) _ nl.2) (fun g k1 hg => fun S2 w2 f2 => ?_) (fun q4 c k1 ok => fun S2 h2 hc2 f2 => ?_))
        · exact sp_expW (by omega) w2 (by decide) (fun S3 w3 f3 => k1 S3 w3 (fy_tr f1 (fy_tr f2 f3)))
        · obtain ⟨o1, o2, o3, _⟩ := ok
          refine sp_exp h2 hc2 (by rw [List.length_append]; omega) (by decide) (by decide) (fun q5 S3 h3 hc3 f3 => ?_) (fun q5 S3 w3 f3 => ?_)
          · rw [if_pos q5] at k1
            exact k1 S3 h3 hc3 (fy_tr f1 (fy_tr f2 f3))
          · rw [if_neg q5] at k1
            exact k1 S3 w3 (fy_tr f1 (fy_tr f2 f3))
      · rw [if_neg q3] at k
        rw [if_pos rfl]
        exact k S1 w1 f1
    rw [if_neg c4] at k ⊢
    exact sp_fail h hc (by omega) (fun S1 w f => k S1 w f)
  by_cases c2 : tT z b s < 1
  · rw [if_pos c2]; exact rest (fun q => Int32.not_lt.mpr q.1 c2)
  · rw [if_neg c2]
    by_cases c5 : 6 < tT z b s
    · rw [if_pos c5]; exact rest (fun q => Int32.not_lt.mpr q.2 c5)
    · rw [if_neg c5]
      have c6 : 1 ≤ tT z b s ∧ tT z b s ≤ 6 := ⟨Int32.not_lt.mp c2, Int32.not_lt.mp c5⟩
      rw [if_pos c6] at k
      obtain ⟨j, j1, j2, e⟩ := tT_16 c6
      have n1 : tT z b s ≠ -1 := by rw [e]; exact nI_nm1 (by omega)
      have n2 : tT z b s ≠ -2 := by rw [e]; exact nI_n2 (by omega)
      have lt := lt_of_tT (z := z) (b := b) (s := s) n1
      exact sp_emit hc (by omega) (fun S1 hc1 f1 g1 => sp_nx (Ct_em h f1 g1) n1 n2 (fun S2 h2 f2 => k S2 h2 (Cd_fa hc1 f2) (fy_tr f1 (fy_fa f2))))
theorem wpG0_0 {g : Nat} {x y : Int32} {S : St} {K : St → Prop} : wpG0 (g + 1) 0 x y S K = wpX2_readLevel (wpG0 g) x y S K := by
  show (if (0 : Nat) = 0 then wpX2_readLevel (wpG0 g) x y S K else wpX2_readOne (wpG0 g) x S K) = _
  exact if_pos rfl
theorem wpG0_1 {g : Nat} {x y : Int32} {S : St} {K : St → Prop} : wpG0 (g + 1) 1 x y S K = wpX2_readOne (wpG0 g) x S K := by
  show (if (1 : Nat) = 0 then wpX2_readLevel (wpG0 g) x y S K else wpX2_readOne (wpG0 g) x S K) = _
  exact if_neg (show ¬ (1 : Nat) = 0 by decide)
theorem pars_5 {d op s : Nat} : pars z b (d + 1) 5 op s = oneP z b (pars z b d) op s := by
  show (if (5 : Nat) = 5 then oneP z b (pars z b d) op s else levP z b (pars z b d) 5 op s) = _
  exact if_pos rfl
theorem pars_l {d lv op s : Nat} (h : lv ≠ 5) : pars z b (d + 1) lv op s = levP z b (pars z b d) lv op s := by
  show (if lv = 5 then _ else _) = _
  rw [if_neg h]
def SPd (z : Nat) (b : By) (d : Nat) : Prop := (∀ lv op f, lv ≤ 5 → op ≤ 5 → (6 - lv) + 6 * (5 - op) ≤ d → (7 - lv) + 7 * (5 - op) ≤ f → SPr z b (wpG0 f 0 (nI lv) (nI op)) (pars z b d lv op)) ∧ (∀ op f, op ≤ 5 → 1 + 6 * (5 - op) ≤ d → 1 + 7 * (5 - op) ≤ f → SPr z b (wpG0 f 1 (nI op) 0) (pars z b d 5 op))
theorem sp_pars_s {d : Nat} (hz : z ≤ 160) (ih : SPd z b d) : SPd z b (d + 1) := by
  obtain ⟨iL, iO⟩ := ih
  have one : ∀ op f, op ≤ 5 → 1 + 6 * (5 - op) ≤ d + 1 → 1 + 7 * (5 - op) ≤ f → SPr z b (wpG0 f 1 (nI op) 0) (pars z b (d + 1) 5 op) := by
    intro op f ho hd hf
    obtain ⟨g, rfl⟩ : ∃ g, f = g + 1 := ⟨f - 1, by omega⟩
    intro s c0 S K hs h hc hn k
    rw [wpG0_1]
    rw [pars_5] at k
    exact sp_one (F := wpG0 g) (P := pars z b d) (op := op) hz ho (fun lv op h => pars_ok d lv op h) (fun q => iO (op + 1) g (by omega) (by omega) (by omega)) (fun q => iL 0 (op + 1) g (by omega) (by omega) (by omega) (by omega)) s c0 S K hs h hc hn k
  refine ⟨fun lv op f h1 h2 hd hf => ?_, one⟩
  obtain ⟨g, rfl⟩ : ∃ g, f = g + 1 := ⟨f - 1, by omega⟩
  intro s c0 S K hs h hc hn k
  rw [wpG0_0]
  by_cases q : lv = 5
  · subst q
    unfold wpX2_readLevel
    rw [if_neg (by decide)]
    exact one op g h2 (by omega) (by omega) s c0 S K hs h hc hn k
  · rw [pars_l q] at k
    exact sp_lev (F := wpG0 g) (P := pars z b d) (lv := lv) (op := op) hz (by omega) h2 (fun lv op h => pars_ok d lv op h) (iL (lv + 1) op g (by omega) h2 (by omega) (by omega)) (fun q1 q2 => iL 2 (op + 1) g (by omega) (by omega) (by omega) (by omega)) s c0 S K hs h hc hn k
theorem sp_pars (hz : z ≤ 160) : ∀ d, SPd z b d
  | 0 => ⟨fun lv op f h1 h2 h3 _ => by omega, fun op f h2 h3 _ => by omega⟩
  | d + 1 => sp_pars_s hz (sp_pars hz d)
end
end
