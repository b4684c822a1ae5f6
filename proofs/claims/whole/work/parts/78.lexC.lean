section
/-! the class's tokens -/
theorem sp_isLt {x : Int32} {S : St} {K : Int32 → St → Prop} (k : K (bI (isLt x)) S) : wpX2_isLetter x S K := by
  unfold wpX2_isLetter; unfold isLt at k
  by_cases h1 : x < 97
  · rw [if_pos h1]; rw [decide_eq_false (fun q => Int32.not_lt.mpr q.1 h1)] at k; exact k
  · rw [if_neg h1]
    by_cases h2 : 122 < x
    · rw [if_pos h2]; rw [decide_eq_false (fun q => Int32.not_lt.mpr q.2 h2)] at k; exact k
    · rw [if_neg h2]; rw [decide_eq_true ⟨Int32.not_lt.mp h1, Int32.not_lt.mp h2⟩] at k; exact k
theorem sp_isDg {x : Int32} {S : St} {K : Int32 → St → Prop} (k : K (bI (isDg x)) S) : wpX2_isDigit x S K := by
  unfold wpX2_isDigit; unfold isDg at k
  by_cases h1 : x < 48
  · rw [if_pos h1]; rw [decide_eq_false (fun q => Int32.not_lt.mpr q.1 h1)] at k; exact k
  · rw [if_neg h1]
    by_cases h2 : 57 < x
    · rw [if_pos h2]; rw [decide_eq_false (fun q => Int32.not_lt.mpr q.2 h2)] at k; exact k
    · rw [if_neg h2]; rw [decide_eq_true ⟨Int32.not_lt.mp h1, Int32.not_lt.mp h2⟩] at k; exact k
theorem sp_isSg {x : Int32} {S : St} {K : Int32 → St → Prop} (k : K (bI (isSg x)) S) : wpX2_isSign x S K := by
  unfold wpX2_isSign; unfold isSg at k
  by_cases c40 : x = 40
  · rw [if_pos c40]; rw [decide_eq_true (by rw [c40]; decide)] at k; exact k
  rw [if_neg c40]
  by_cases c41 : x = 41
  · rw [if_pos c41]; rw [decide_eq_true (by rw [c41]; decide)] at k; exact k
  rw [if_neg c41]
  by_cases c42 : x = 42
  · rw [if_pos c42]; rw [decide_eq_true (by rw [c42]; decide)] at k; exact k
  rw [if_neg c42]
  by_cases c43 : x = 43
  · rw [if_pos c43]; rw [decide_eq_true (by rw [c43]; decide)] at k; exact k
  rw [if_neg c43]
  by_cases c44 : x = 44
  · rw [if_pos c44]; rw [decide_eq_false (by rw [c44]; decide)] at k; exact k
  rw [if_neg c44]
  by_cases c45 : x = 45
  · rw [if_pos c45]; rw [decide_eq_true (by rw [c45]; decide)] at k; exact k
  rw [if_neg c45]
  by_cases c46 : x = 46
  · rw [if_pos c46]; rw [decide_eq_false (by rw [c46]; decide)] at k; exact k
  rw [if_neg c46]
  by_cases c47 : x = 47
  · rw [if_pos c47]; rw [decide_eq_false (by rw [c47]; decide)] at k; exact k
  rw [if_neg c47]
  by_cases c48 : x = 48
  · rw [if_pos c48]; rw [decide_eq_false (by rw [c48]; decide)] at k; exact k
  rw [if_neg c48]
  by_cases c49 : x = 49
  · rw [if_pos c49]; rw [decide_eq_false (by rw [c49]; decide)] at k; exact k
  rw [if_neg c49]
  by_cases c50 : x = 50
  · rw [if_pos c50]; rw [decide_eq_false (by rw [c50]; decide)] at k; exact k
  rw [if_neg c50]
  by_cases c51 : x = 51
  · rw [if_pos c51]; rw [decide_eq_false (by rw [c51]; decide)] at k; exact k
  rw [if_neg c51]
  by_cases c52 : x = 52
  · rw [if_pos c52]; rw [decide_eq_false (by rw [c52]; decide)] at k; exact k
  rw [if_neg c52]
  by_cases c53 : x = 53
  · rw [if_pos c53]; rw [decide_eq_false (by rw [c53]; decide)] at k; exact k
  rw [if_neg c53]
  by_cases c54 : x = 54
  · rw [if_pos c54]; rw [decide_eq_false (by rw [c54]; decide)] at k; exact k
  rw [if_neg c54]
  by_cases c55 : x = 55
  · rw [if_pos c55]; rw [decide_eq_false (by rw [c55]; decide)] at k; exact k
  rw [if_neg c55]
  by_cases c56 : x = 56
  · rw [if_pos c56]; rw [decide_eq_false (by rw [c56]; decide)] at k; exact k
  rw [if_neg c56]
  by_cases c57 : x = 57
  · rw [if_pos c57]; rw [decide_eq_false (by rw [c57]; decide)] at k; exact k
  rw [if_neg c57]
  by_cases c58 : x = 58
  · rw [if_pos c58]; rw [decide_eq_false (by rw [c58]; decide)] at k; exact k
  rw [if_neg c58]
  by_cases c59 : x = 59
  · rw [if_pos c59]; rw [decide_eq_true (by rw [c59]; decide)] at k; exact k
  rw [if_neg c59]
  by_cases c60 : x = 60
  · rw [if_pos c60]; rw [decide_eq_true (by rw [c60]; decide)] at k; exact k
  rw [if_neg c60]
  by_cases c61 : x = 61
  · rw [if_pos c61]; rw [decide_eq_true (by rw [c61]; decide)] at k; exact k
  rw [if_neg c61]
  rw [decide_eq_false (fun q => by rcases q with q | q | q | q | q | q | q | q <;> contradiction)] at k
  exact k
theorem sp_spelling {j : Nat} {S : St} {K : Nat → St → Prop} (hj : j < 12) (k : K j S) : wpX2_spelling (nI (j + 1)) S K := by
  unfold wpX2_spelling
  rcases (show j = 0 ∨ j = 1 ∨ j = 2 ∨ j = 3 ∨ j = 4 ∨ j = 5 ∨ j = 6 ∨ j = 7 ∨ j = 8 ∨ j = 9 ∨ j = 10 ∨ j = 11 by omega) with rfl | rfl | rfl | rfl | rfl | rfl | rfl | rfl | rfl | rfl | rfl | rfl
  · rw [if_pos (by decide)]; exact k
  · rw [if_neg (by decide), if_pos (by decide)]; exact k
  · rw [if_neg (by decide), if_neg (by decide), if_pos (by decide)]; exact k
  · rw [if_neg (by decide), if_neg (by decide), if_neg (by decide), if_pos (by decide)]; exact k
  · rw [if_neg (by decide), if_neg (by decide), if_neg (by decide), if_neg (by decide), if_pos (by decide)]; exact k
  · rw [if_neg (by decide), if_neg (by decide), if_neg (by decide), if_neg (by decide), if_neg (by decide), if_pos (by decide)]; exact k
  · rw [if_neg (by decide), if_neg (by decide), if_neg (by decide), if_neg (by decide), if_neg (by decide), if_neg (by decide), if_pos (by decide)]; exact k
  · rw [if_neg (by decide), if_neg (by decide), if_neg (by decide), if_neg (by decide), if_neg (by decide), if_neg (by decide), if_neg (by decide), if_pos (by decide)]; exact k
  · rw [if_neg (by decide), if_neg (by decide), if_neg (by decide), if_neg (by decide), if_neg (by decide), if_neg (by decide), if_neg (by decide), if_neg (by decide), if_pos (by decide)]; exact k
  · rw [if_neg (by decide), if_neg (by decide), if_neg (by decide), if_neg (by decide), if_neg (by decide), if_neg (by decide), if_neg (by decide), if_neg (by decide), if_neg (by decide), if_pos (by decide)]; exact k
  · rw [if_neg (by decide), if_neg (by decide), if_neg (by decide), if_neg (by decide), if_neg (by decide), if_neg (by decide), if_neg (by decide), if_neg (by decide), if_neg (by decide), if_neg (by decide), if_pos (by decide)]; exact k
  · rw [if_neg (by decide), if_neg (by decide), if_neg (by decide), if_neg (by decide), if_neg (by decide), if_neg (by decide), if_neg (by decide), if_neg (by decide), if_neg (by decide), if_neg (by decide), if_neg (by decide)]; exact k
def chV (u i : Nat) : Int32 := (((((bytJS.getD u []).getD i 0) &&& 255).toUInt32 % 65536).toInt32)
theorem chV_ok : ∀ u, u < 13 → ∀ i, i < 52 → i < (bytJS.getD u []).length → narrow .char (.int (chV u i)) = .int (chV u i) ∧ chV u i = (bytJS.getD u []).getD i 0 := by decide +kernel
theorem len_ok : ∀ u, u < 13 → lenJS.getD u 0 = (bytJS.getD u []).length ∧ (bytJS.getD u []).length ≤ 52 ∧ (Int32.ofNat (lenJS.getD u 0)) >>> ((0 : Int32) &&& 31) = nI (bytJS.getD u []).length := by decide +kernel
theorem sp_len {u : Nat} {S : St} {K : Int32 → St → Prop} (hu : u < 13) (k : K (nI (bytJS.getD u []).length) S) : wpJ0_length_8abf5 u S K := by
  unfold wpJ0_length_8abf5 wpJ0_coder_7d493
  rw [if_neg (by decide)]
  show K ((Int32.ofNat (lenJS.getD u 0)) >>> ((0 : Int32) &&& 31)) S
  rw [(len_ok u hu).2.2]
  exact k
theorem sp_chr {u i : Nat} {S : St} {K : Int32 → St → Prop} (hu : u < 13) (hi : i < (bytJS.getD u []).length) (k : K ((bytJS.getD u []).getD i 0) S) : wpJ0_charAt_5068e u (nI i) S K := by
  have l := len_ok u hu
  have c := chV_ok u hu i (by omega) hi
  unfold wpJ0_charAt_5068e wpJ0_isLatin1_aae02
  rw [if_neg (by decide), if_pos (by decide)]
  show if (1 : Int32) = 0 then False else wpJ1_charAt_3b067 u (nI i) S (fun r3 S3 => K r3 S3)
  rw [if_neg (by decide)]
  unfold wpJ1_charAt_3b067 wpJ0_checkIndex_df160
  rw [nI_clamp (by omega), l.1]
  refine ⟨nI_pos (by omega), nI_lt hi (by omega), vp_in_nI hi (by omega), c.1, ?_⟩
  show K (chV u i) S
  rw [c.2]; exact k
def Cb (z : Nat) (b : By) (S : St) : Prop := (z ≤ 160 ∧ S.1 1 0 2 = nI z) ∧ ∀ j, j < z → S.1 4 0 j = b j
def Ct (z : Nat) (b : By) (S : St) (s : Nat) : Prop := Cb z b S ∧ S.1 1 0 6 = nI s ∧ S.1 1 0 7 = tT z b s ∧ S.1 1 0 9 = -1 ∧ (tT z b s ≠ -1 → tT z b s ≠ -2 → S.1 1 0 5 = nI (tE z b s)) ∧ (tT z b s = 0 → S.1 1 0 8 = nI (tV z b s))
def fa (S S1 : St) : Prop := (∀ kd i, kd ≠ 1 → S1.1 kd i = S.1 kd i) ∧ ∀ j, (j < 5 ∨ 8 < j) → S1.1 1 0 j = S.1 1 0 j
theorem fa_rfl (S : St) : fa S S := ⟨fun _ _ _ => rfl, fun _ _ => rfl⟩
theorem fa_tr {S S1 S2 : St} (h : fa S S1) (g : fa S1 S2) : fa S S2 := ⟨fun kd i a => (g.1 kd i a).trans (h.1 kd i a), fun j a => (g.2 j a).trans (h.2 j a)⟩
theorem fa_su {S S1 : St} {j : Nat} {v : Int32} (h : fa S S1) (hj : 5 ≤ j ∧ j ≤ 8 := by omega) : fa S (su S1 1 0 j v) := fa_tr h ⟨fun kd i q => sa_ne (by omega), fun k q => su_nj (by omega)⟩
section
variable {z : Nat} {b : By}
theorem Cb_fa {S S1 : St} (h : Cb z b S) (f : fa S S1) : Cb z b S1 := by
  unfold Cb at h ⊢
  rw [f.2 2 (by omega), f.1 4 0 (by omega)]; exact h
theorem drop_gd {L : List Int32} {i : Nat} (h : i < L.length) : L.drop i = L.getD i 0 :: L.drop (i + 1) := by
  have e : L.getD i 0 = L[i] := by simp [List.getD, h]
  rw [e]
  exact List.drop_eq_getElem_cons h
theorem sp_spl {u s : Nat} {S : St} {K : Int32 → St → Prop} (hu : u < 12) (h : Cb z b S) (h6 : S.1 1 0 6 = nI s) (hs : s + (bytJS.getD u []).length ≤ z) : ∀ n i, i + n = (bytJS.getD u []).length → K (bI (eqL b (s + i) ((bytJS.getD u []).drop i))) S → wbX2_spells_20 u K (n + 1) (nI i) S
  | 0, i, e, k => by
    have l := len_ok u (by omega)
    refine sp_len (by omega) ?_
    rw [if_pos (nI_le (by omega) (by omega))]
    rw [List.drop_eq_nil_of_le (by omega)] at k
    exact k
  | n + 1, i, e, k => by
    have l := len_ok u (by omega)
    have hz := h.1.1
    refine sp_len (by omega) ?_
    rw [if_neg (nI_ge (by omega) (by omega)), h6, nI_add]
    refine ⟨vp_in_nI (by omega) (by omega), sp_chr (by omega) (by omega) ?_⟩
    rw [nI_clamp (by omega), h.2 (s + i) (by omega), nI_1]
    rw [drop_gd (by omega)] at k
    unfold eqL at k
    by_cases q : b (s + i) = (bytJS.getD u []).getD i 0
    · rw [if_pos q]
      rw [decide_eq_true q, Bool.true_and] at k
      exact sp_spl hu h h6 hs n (i + 1) (by omega) k
    · rw [if_neg q]
      rw [decide_eq_false q, Bool.false_and] at k
      exact k
theorem sp_spells {u s e : Nat} {S : St} {K : Int32 → St → Prop} (hu : u < 12) (h : Cb z b S) (h6 : S.1 1 0 6 = nI s) (h5 : S.1 1 0 5 = nI e) (hs : s ≤ e) (he : e ≤ z) (k : K (bI (spB b s e (bytJS.getD u []))) S) : wpX2_spells u S K := by
  have l := len_ok u (by omega)
  have hz := h.1.1
  unfold wpX2_spells
  refine sp_len (by omega) ?_
  rw [h5, h6, pk_sub hs]
  unfold spB at k
  by_cases q : e - s = (bytJS.getD u []).length
  · rw [if_pos (by rw [q])]
    rw [decide_eq_true q, Bool.true_and] at k
    exact ⟨_, sp_spl hu h h6 (by omega) (bytJS.getD u []).length 0 (by omega) k⟩
  · rw [if_neg (fun w => q ((nI_eq (by omega) (by omega)).mp w))]
    rw [decide_eq_false q, Bool.false_and] at k
    exact k
theorem sp_wd {s e : Nat} {K : St → Prop} (hs : s ≤ e) (he : e ≤ z) : ∀ n j (S : St), j + n = 12 → Cb z b S → S.1 1 0 6 = nI s → S.1 1 0 5 = nI e → S.1 1 0 7 = waF b s e j → (∀ S1, S1.1 1 0 7 = waF b s e 12 → S1.1 1 0 5 = nI e → S1.1 1 0 6 = nI s → fa S S1 → K S1) → wbX2_takeWord_47 K (n + 1) (nI (j + 1)) S
  | 0, j, S, e1, h, h6, h5, h7, k => by
    obtain rfl : j = 12 := by omega
    show if (12 : Int32) < nI (12 + 1) then _ else _
    rw [if_pos (by decide)]
    exact k S h7 h5 h6 (fa_rfl S)
  | n + 1, j, S, e1, h, h6, h5, h7, k => by
    show if (12 : Int32) < nI (j + 1) then _ else _
    rw [if_neg (show ¬ (12 : Int32) < nI (j + 1) from nI_nlt (a := 12) (b := j + 1) (by omega) (by omega))]
    refine sp_spelling (by omega) (sp_spells (by omega) h h6 h5 hs he ?_)
    unfold wbX2_takeWord_69
    rw [nI_1]
    refine bI_if (fun q => sp_wd hs he n (j + 1) S (by omega) h h6 h5 ?_ k) (fun q => fun S2 e2 => ?_)
    · rw [h7]
      show _ = bif spB b s e (bytJS.getD j []) then _ else _
      rw [q]; rfl
    · have f2 : fa S S2 := by rw [e2]; exact fa_su (fa_rfl S)
      refine sp_wd hs he n (j + 1) S2 (by omega) (Cb_fa h f2) (by rw [e2, su_nj (by omega)]; exact h6) (by rw [e2, su_nj (by omega)]; exact h5) ?_ (fun S3 a c d f => k S3 a c d (fa_tr f2 f))
      rw [e2, su_eq]
      show _ = bif spB b s e (bytJS.getD j []) then _ else _
      rw [q]; rfl
theorem sp_wr {s : Nat} {K : St → Prop} : ∀ n p (S : St), p + n = z → s ≤ p → Cb z b S → S.1 1 0 6 = nI s → S.1 1 0 5 = nI p → (∀ S1, S1.1 1 0 7 = waF b s (runP isLt b n p) 12 → S1.1 1 0 5 = nI (runP isLt b n p) → S1.1 1 0 6 = nI s → fa S S1 → K S1) → wbX2_takeWord_0 K (n + 1) S
  | n, p, S, e1, hs, h, h6, h5, k => by
    have hz := h.1.1
    have fin : runP isLt b n p = p → wbX2_takeWord_39 K S := by
      intro er
      rw [er] at k
      intro S2 e2
      have f2 : fa S S2 := by rw [e2]; exact fa_su (fa_rfl S)
      exact ⟨13, sp_wd hs (by omega) 12 0 S2 (by omega) (Cb_fa h f2) (by rw [e2, su_nj (by omega)]; exact h6) (by rw [e2, su_nj (by omega)]; exact h5) (by rw [e2, su_eq]; rfl) (fun S3 a c d f => k S3 a c d (fa_tr f2 f))⟩
    show if S.1 1 0 2 ≤ S.1 1 0 5 then _ else _
    rw [h5, h.1.2]
    cases n with
    | zero =>
      rw [if_pos (nI_le (by omega) (by omega))]
      exact fin rfl
    | succ n =>
      rw [if_neg (nI_ge (by omega) (by omega)), nI_clamp (by omega), h.2 p (by omega)]
      refine ⟨vp_in_nI (by omega) (by omega), sp_isLt (bI_if (fun q => fin ?_) (fun q => fun S2 e2 => ?_))⟩
      · unfold runP; rw [q]; rfl
      · have f2 : fa S S2 := by rw [e2]; exact fa_su (fa_rfl S)
        have er : runP isLt b (n + 1) p = runP isLt b n (p + 1) := by
          show (bif isLt (b p) then _ else _) = _
          rw [q]; rfl
        rw [er] at k
        exact sp_wr n (p + 1) S2 (by omega) (by omega) (Cb_fa h f2) (by rw [e2, su_nj (by omega)]; exact h6) (by rw [e2, su_eq, h5, nI_1]) (fun S3 a c d f => k S3 a c d (fa_tr f2 f))
theorem dg_n {x : Int32} (h : isDg x = true) : ∃ i, 48 ≤ i ∧ i ≤ 57 ∧ x = nI i := by
  unfold isDg at h
  rw [decide_eq_true_eq] at h
  exact in_nI (a := 48) (b := 57) (by omega) h (by omega)
theorem sp_nr {s : Nat} {K : St → Prop} : ∀ n p v (S : St), p + n = z → s ≤ p → Cb z b S → S.1 1 0 6 = nI s → S.1 1 0 5 = nI p → S.1 1 0 8 = nI v → (∀ S1, S1.1 1 0 7 = (if runP isDg b n p - s ≤ 4 then 0 else -2) → S1.1 1 0 5 = nI (runP isDg b n p) → S1.1 1 0 6 = nI s → S1.1 1 0 8 = nI (numP b (runP isDg b n p - p) p v) → fa S S1 → K S1) → wbX2_takeNumber_5 K (n + 1) S
  | n, p, v, S, e1, hs, h, h6, h5, h8, k => by
    have hz := h.1.1
    have fin : runP isDg b n p = p → wbX2_takeNumber_68 K S := by
      intro er
      rw [er, Nat.sub_self] at k
      unfold wbX2_takeNumber_68 wbX2_takeNumber_88
      rw [h5, h6, pk_sub hs]
      by_cases q : p - s ≤ 4
      · rw [if_pos (show nI (p - s) ≤ (4 : Int32) from nI_le (b := 4) q (by decide))]
        intro S2 e2
        rw [if_pos q] at k
        exact k S2 (by rw [e2, su_eq]) (by rw [e2, su_nj (by omega)]; exact h5) (by rw [e2, su_nj (by omega)]; exact h6) (by rw [e2, su_nj (by omega)]; exact h8) (by rw [e2]; exact fa_su (fa_rfl S))
      · rw [if_neg (show ¬ nI (p - s) ≤ (4 : Int32) from nI_ge (a := 4) (by omega) (by omega))]
        intro S2 e2
        rw [if_neg q] at k
        exact k S2 (by rw [e2, su_eq]) (by rw [e2, su_nj (by omega)]; exact h5) (by rw [e2, su_nj (by omega)]; exact h6) (by rw [e2, su_nj (by omega)]; exact h8) (by rw [e2]; exact fa_su (fa_rfl S))
    show if S.1 1 0 2 ≤ S.1 1 0 5 then _ else _
    rw [h5, h.1.2]
    cases n with
    | zero =>
      rw [if_pos (nI_le (by omega) (by omega))]
      exact fin rfl
    | succ n =>
      rw [if_neg (nI_ge (by omega) (by omega)), nI_clamp (by omega), h.2 p (by omega)]
      refine ⟨vp_in_nI (by omega) (by omega), sp_isDg (bI_if (fun q => fin ?_) (fun q => ?_))⟩
      · unfold runP; rw [q]; rfl
      · have er : runP isDg b (n + 1) p = runP isDg b n (p + 1) := by
          show (bif isDg (b p) then _ else _) = _
          rw [q]; rfl
        have rl := runP_le (f := isDg) (b := b) n (p + 1)
        rw [er, show runP isDg b n (p + 1) - p = (runP isDg b n (p + 1) - (p + 1)) + 1 by omega] at k
        obtain ⟨i, i1, i2, i3⟩ := dg_n q
        have vp5 : vp_in (S.1 1 0 5) 160 := by rw [h5]; exact vp_in_nI (by omega) (by omega)
        have hb5 : S.1 4 0 (S.1 1 0 5).toNatClampNeg = b p := by rw [h5, nI_clamp (by omega)]; exact h.2 p (by omega)
        refine ⟨vp5, fun S2 e2 => fun S3 e3 => ?_⟩
        rw [hb5] at e2
        have f3 : fa S S3 := by rw [e3, e2]; exact fa_su (fa_su (fa_rfl S))
        refine sp_nr n (p + 1) (10 * v + ((b p).toNatClampNeg - 48)) S3 (by omega) (by omega) (Cb_fa h f3) (by rw [e3, su_nj (by omega), e2, su_nj (by omega)]; exact h6) (by rw [e3, su_eq, e2, su_nj (by omega), h5, nI_1]) ?_ (fun S4 a c d e f => k S4 a c d e (fa_tr f3 f))
        have key : nI v * 10 + nI i - 48 = nI (10 * v + (i - 48)) := by
          rw [show (10 : Int32) = nI 10 from rfl, show (48 : Int32) = nI 48 from rfl, pk_mul, nI_add, pk_sub (by omega)]
          rw [show v * 10 + i - 48 = 10 * v + (i - 48) by omega]
        rw [e3, su_nj (by omega), e2, su_eq, h8, i3, nI_clamp (by omega)]
        exact key
theorem sp_adv2 {p : Nat} {K : St → Prop} {S : St} (h : Cb z b S) (h9 : S.1 1 0 9 = -1) (hp : p ≤ z) (h5 : S.1 1 0 5 = nI p) (k : ∀ S1, Ct z b S1 p → fa S S1 → K S1) : wbX2_advance_52 K S := by
  have hz := h.1.1
  intro S2 e2
  have f2 : fa S S2 := by rw [e2]; exact fa_su (fa_rfl S)
  have h2 := Cb_fa h f2
  have h92 : S2.1 1 0 9 = -1 := by rw [f2.2 9 (by omega)]; exact h9
  have h62 : S2.1 1 0 6 = nI p := by rw [e2, su_eq]; exact h5
  have h52 : S2.1 1 0 5 = nI p := by rw [e2, su_nj (by omega)]; exact h5
  have fin : ∀ S3, S3.1 1 0 7 = tT z b p → S3.1 1 0 6 = nI p → (tT z b p ≠ -1 → tT z b p ≠ -2 → S3.1 1 0 5 = nI (tE z b p)) → (tT z b p = 0 → S3.1 1 0 8 = nI (tV z b p)) → fa S2 S3 → K S3 := fun S3 a c d e f => k S3 ⟨Cb_fa h2 f, c, a, by rw [f.2 9 (by omega)]; exact h92, d, e⟩ (fa_tr f2 f)
  rw [h52, h2.1.2]
  by_cases q : p < z
  · rw [if_pos (nI_lt q (by omega)), nI_clamp (by omega), h2.2 p q]
    have vp : vp_in (nI p) 160 := vp_in_nI (by omega) (by omega)
    have eT : tT z b p = bif isLt (b p) then waF b p (runP isLt b (z - p) p) 12 else bif isDg (b p) then (if runP isDg b (z - p) p - p ≤ 4 then 0 else -2) else bif isSg (b p) then b p else -2 := by
      unfold tT; rw [if_neg (by omega)]
    have eE : tE z b p = bif isLt (b p) then runP isLt b (z - p) p else bif isDg (b p) then runP isDg b (z - p) p else p + 1 := by
      unfold tE; rw [if_neg (by omega)]
    have hb5 : S2.1 4 0 (S2.1 1 0 5).toNatClampNeg = b p := by rw [h52, nI_clamp (by omega)]; exact h2.2 p q
    have vp5 : vp_in (S2.1 1 0 5) 160 := by rw [h52]; exact vp
    refine ⟨vp, sp_isLt (bI_if (fun q1 => ⟨vp5, ?_⟩) (fun q1 => ?_))⟩
    rw [hb5]
    refine sp_isDg (bI_if (fun q2 => ⟨vp5, ?_⟩) (fun q2 => ?_))
    rw [hb5]
    refine sp_isSg (bI_if (fun q3 => ?_) (fun q3 => ?_))
    · rw [q1, q2, q3] at eT
      intro S3 e3 S4 e4
      exact fin S4 (by rw [e4, su_nj (by omega), e3, su_eq, eT]; rfl) (by rw [e4, su_nj (by omega), e3, su_nj (by omega)]; exact h62) (fun _ w => absurd (eT.trans rfl) w) (fun w => absurd (show (-2 : Int32) = 0 from eT.symm.trans w) (by decide)) (by rw [e4, e3]; exact fa_su (fa_su (fa_rfl S2)))
    · rw [q1, q2, q3] at eT
      rw [q1, q2] at eE
      rw [hb5]
      refine ⟨vp5, fun S3 e3 => fun S4 e4 => ?_⟩
      exact fin S4 (by rw [e4, su_nj (by omega), e3, su_eq, eT]; rfl) (by rw [e4, su_nj (by omega), e3, su_nj (by omega)]; exact h62) (fun _ _ => by rw [e4, su_eq, e3, su_nj (by omega), h52, nI_1, eE]; rfl) (fun w => by
        obtain ⟨j, j1, j2, j3⟩ := sg_13 q3
        have w : b p = 0 := eT.symm.trans w
        rw [j3] at w
        exact absurd w (nI_ne0 (by omega) (by omega))) (by rw [e4, e3]; exact fa_su (fa_su (fa_rfl S2)))
    · rw [q1, q2] at eT eE
      intro S3 e3
      have f3 : fa S2 S3 := by rw [e3]; exact fa_su (fa_rfl S2)
      exact ⟨z - p + 1, sp_nr (z - p) p 0 S3 (by omega) (by omega) (Cb_fa h2 f3) (by rw [e3, su_nj (by omega)]; exact h62) (by rw [e3, su_nj (by omega)]; exact h52) (by rw [e3, su_eq]; rfl) (fun S4 a c d e f => fin S4 (a.trans eT.symm) d (fun _ _ => c.trans (congrArg nI eE.symm)) (fun _ => e) (fa_tr f3 f))⟩
    · rw [q1] at eT eE
      exact ⟨z - p + 1, sp_wr (s := p) (z - p) p S2 (by omega) (by omega) h2 h62 h52 (fun S4 a c d f => fin S4 (a.trans eT.symm) d (fun _ _ => c.trans (congrArg nI eE.symm)) (fun w => by
        have w : waF b p (runP isLt b (z - p) p) 12 = 0 := eT.symm.trans w
        rcases waF_in (b := b) (s := p) (e := runP isLt b (z - p) p) 12 (by omega) with w2 | ⟨j, _, w2, _⟩
        · rw [w2] at w; exact absurd w (by decide)
        · rw [w2] at w; exact absurd w (nI_ne0 (by omega) (by omega))) f)⟩
  · rw [if_neg (nI_nlt (by omega) (by omega))]
    have eT : tT z b p = -1 := tT_end (by omega)
    intro S3 e3
    exact fin S3 (by rw [e3, su_eq, eT]) (by rw [e3, su_nj (by omega)]; exact h62) (fun w => absurd eT w) (fun w => absurd (eT.symm.trans w) (by decide)) (by rw [e3]; exact fa_su (fa_rfl S2))
theorem sp_adv {K : St → Prop} : ∀ n p (S : St), p + n = z → Cb z b S → S.1 1 0 9 = -1 → S.1 1 0 5 = nI p → (∀ S1, Ct z b S1 (runP isWs b n p) → fa S S1 → K S1) → wbX2_advance_0 K (n + 1) S
  | n, p, S, e1, h, h9, h5, k => by
    have hz := h.1.1
    have fin : runP isWs b n p = p → wbX2_advance_52 K S := by
      intro er
      rw [er] at k
      exact sp_adv2 h h9 (by omega) h5 k
    show if S.1 1 0 2 ≤ S.1 1 0 5 then _ else _
    rw [h5, h.1.2]
    cases n with
    | zero =>
      rw [if_pos (nI_le (by omega) (by omega))]
      exact fin rfl
    | succ n =>
      rw [if_neg (nI_ge (by omega) (by omega)), nI_clamp (by omega), h.2 p (by omega)]
      have vp : vp_in (nI p) 160 := vp_in_nI (by omega) (by omega)
      have go : isWs (b p) = true → wbX2_advance_39 (fun S9 => wbX2_advance_0 K (n + 1) S9) K S := by
        intro q
        intro S2 e2
        have f2 : fa S S2 := by rw [e2]; exact fa_su (fa_rfl S)
        have er : runP isWs b (n + 1) p = runP isWs b n (p + 1) := by
          show (bif isWs (b p) then _ else _) = _
          rw [q]; rfl
        rw [er] at k
        exact sp_adv n (p + 1) S2 (by omega) (Cb_fa h f2) (by rw [f2.2 9 (by omega)]; exact h9) (by rw [e2, su_eq, h5, nI_1]) (fun S3 a f => k S3 a (fa_tr f2 f))
      refine ⟨vp, ?_⟩
      by_cases q : b p = 32
      · rw [if_pos q]; exact go (by unfold isWs; rw [decide_eq_true q]; rfl)
      · rw [if_neg q]
        refine ⟨vp, ?_⟩
        by_cases q2 : b p = 10
        · rw [if_pos q2]; exact go (by unfold isWs; rw [decide_eq_true q2, Bool.or_true])
        · rw [if_neg q2]
          refine fin ?_
          unfold runP
          have : isWs (b p) = false := by unfold isWs; rw [decide_eq_false q, decide_eq_false q2]; rfl
          rw [this]; rfl
theorem sp_advance {p : Nat} {K : St → Prop} {S : St} (h : Cb z b S) (h9 : S.1 1 0 9 = -1) (hp : p ≤ z) (h5 : S.1 1 0 5 = nI p) (k : ∀ S1, Ct z b S1 (tkS z b p) → fa S S1 → K S1) : wpX2_advance S K := ⟨z - p + 1, sp_adv (z - p) p S (by omega) h h9 h5 k⟩
/-- past a good token -/
theorem sp_nx {s : Nat} {K : St → Prop} {S : St} (h : Ct z b S s) (h1 : tT z b s ≠ -1) (h2 : tT z b s ≠ -2) (k : ∀ S1, Ct z b S1 (nx z b s) → fa S S1 → K S1) : wpX2_advance S K :=
  sp_advance h.1 h.2.2.2.1 (tE_le (lt_of_tT h1)).2 (h.2.2.2.2.1 h1 h2) k
end
end
