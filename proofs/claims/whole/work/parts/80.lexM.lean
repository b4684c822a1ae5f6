section
/-! the reference's tokens -/
def byF (z : Nat) (b : By) (i : Nat) : Int32 := if z ≤ i then -1 else b i
def Mb (z : Nat) (b : By) (r : Nat) (S : St) : Prop := (z ≤ 160 ∧ r < 6) ∧ (S.1 40 0 23 = nI (160 * r) ∧ S.1 40 0 24 = nI z) ∧ ∀ j, j < z → S.1 41 0 (160 * r + j) = b j ∧ ∃ v, v ≤ 255 ∧ b j = nI v
def Mt (z : Nat) (b : By) (r : Nat) (S : St) (s : Nat) : Prop := Mb z b r S ∧ S.1 40 0 27 = nI s ∧ S.1 40 0 26 = tK z b s ∧ S.1 40 0 30 = 0 ∧ (tK z b s = 1 ∨ tK z b s = 2 ∨ tK z b s = 3 → S.1 40 0 25 = nI (tE z b s)) ∧ (tK z b s = 2 → S.2 = lN (tV z b s)) ∧ (tK z b s = 3 → S.2 = (tT z b s).toInt64)
def fn (S S1 : St) : Prop := (∀ kd i, kd ≠ 40 → S1.1 kd i = S.1 kd i) ∧ ∀ j, (j < 25 ∨ 27 < j) → S1.1 40 0 j = S.1 40 0 j
theorem fn_rfl (S : St) : fn S S := ⟨fun _ _ _ => rfl, fun _ _ => rfl⟩
theorem fn_tr {S S1 S2 : St} (h : fn S S1) (g : fn S1 S2) : fn S S2 := ⟨fun kd i a => (g.1 kd i a).trans (h.1 kd i a), fun j a => (g.2 j a).trans (h.2 j a)⟩
theorem fn_su {S S1 : St} {j : Nat} {v : Int32} (h : fn S S1) (hj : 25 ≤ j ∧ j ≤ 27 := by omega) : fn S (su S1 40 0 j v) := fn_tr h ⟨fun kd i q => sa_ne (by omega), fun k q => su_nj (by omega)⟩
theorem fn_sl {S S1 : St} {v : Int64} (h : fn S S1) : fn S (sl S1 v) := h
theorem sw_40 {S : St} : sw S 40 0 = S.2 := rfl
theorem su_2 {S : St} {kd i j : Nat} {v : Int32} : (su S kd i j v).2 = S.2 := rfl
theorem sl_1 {S : St} {v : Int64} : (sl S v).1 = S.1 := rfl
theorem sl_2 {S : St} {v : Int64} : (sl S v).2 = v := rfl
theorem mp_isLt {x : Int32} {S : St} {K : Int32 → St → Prop} (k : K (bI (isLt x)) S) : wpX8_in x.toInt64 97 122 S K := by
  unfold isLt at k
  by_cases h : 97 ≤ x ∧ x ≤ 122
  · rw [decide_eq_true h] at k; exact v1 (a := 97) (b := 122) h k
  · rw [decide_eq_false h] at k; exact v0 (a := 97) (b := 122) h k
theorem mp_isDg {x : Int32} {S : St} {K : Int32 → St → Prop} (k : K (bI (isDg x)) S) : wpX8_in x.toInt64 48 57 S K := by
  unfold isDg at k
  by_cases h : 48 ≤ x ∧ x ≤ 57
  · rw [decide_eq_true h] at k; exact v1 (a := 48) (b := 57) h k
  · rw [decide_eq_false h] at k; exact v0 (a := 48) (b := 57) h k
section
variable {z r : Nat} {b : By}
theorem Mb_fn {S S1 : St} (h : Mb z b r S) (f : fn S S1) : Mb z b r S1 := by
  unfold Mb at h ⊢
  rw [f.2 23 (by omega), f.2 24 (by omega), f.1 41 0 (by omega)]; exact h
theorem mp_byte {i : Nat} {S : St} {K : Int32 → St → Prop} (h : Mb z b r S) (hi : i < 1000) (k : K (byF z b i) S) : wpX8_byteAt (nI i) S K := by
  obtain ⟨⟨hz, hr⟩, ⟨h3, h4⟩, hB⟩ := h
  unfold wpX8_byteAt
  unfold byF at k
  rw [h3, h4]
  by_cases q : z ≤ i
  · rw [if_pos (nI_le q (by omega))]
    rw [if_pos q] at k; exact k
  · rw [if_neg (nI_ge (by omega) (by omega)), nI_add, nI_clamp (by omega), (hB i (by omega)).1]
    rw [if_neg q] at k
    exact ⟨vp_in_nI (by omega) (by omega), k⟩
theorem byF_lt {i : Nat} (h : i < z) : byF z b i = b i := if_neg (by omega)
theorem byF_ge {i : Nat} (h : z ≤ i) : byF z b i = -1 := if_pos h
theorem mp_wr {K : St → Prop} : ∀ n p (S : St), p + n = z → Mb z b r S → S.1 40 0 25 = nI p → (∀ S1, S1.1 40 0 25 = nI (runP isLt b n p) → (∀ j, j ≠ 25 → S1.1 40 0 j = S.1 40 0 j) → fn S S1 → K S1) → wbX8_next_100 K (n + 1) S
  | n, p, S, e1, h, h5, k => by
    have hz := h.1.1
    show wpX8_byteAt (S.1 40 0 25) S _
    rw [h5]
    refine mp_byte h (by omega) (mp_isLt ?_)
    cases n with
    | zero =>
      rw [byF_ge (by omega), show isLt (-1) = false by decide, if_pos bI_f]
      exact k S h5 (fun _ _ => rfl) (fn_rfl S)
    | succ n =>
      rw [byF_lt (by omega)]
      refine bI_if (fun q => k S ?_ (fun _ _ => rfl) (fn_rfl S)) (fun q => fun S2 e2 => ?_)
      · unfold runP; rw [q]; exact h5
      · have f2 : fn S S2 := by rw [e2]; exact fn_su (fn_rfl S)
        have er : runP isLt b (n + 1) p = runP isLt b n (p + 1) := by
          show (bif isLt (b p) then _ else _) = _
          rw [q]; rfl
        rw [er] at k
        exact mp_wr n (p + 1) S2 (by omega) (Mb_fn h f2) (by rw [e2, su_eq, h5, nI_1]) (fun S3 a c f => k S3 a (fun j hj => by rw [c j hj, e2, su_nj hj]) (fn_tr f2 f))
theorem mp_nr {s : Nat} {K : St → Prop} : ∀ n p v (S : St), p + n = z → s ≤ p → Mb z b r S → S.1 40 0 25 = nI p → (p - s ≤ 4 → S.2 = lN v) → (∀ S1, S1.1 40 0 25 = nI (runP isDg b n p) → S1.1 40 0 26 = (if runP isDg b n p - s ≤ 4 then 2 else 4) → S1.1 40 0 27 = S.1 40 0 27 → (runP isDg b n p - s ≤ 4 → S1.2 = lN (numP b (runP isDg b n p - p) p v)) → fn S S1 → K S1) → wbX8_next_160 K (n + 1) (nI (p - s)) S
  | n, p, v, S, e1, hs, h, h5, h2, k => by
    have hz := h.1.1
    have fin : runP isDg b n p = p → (if nI (p - s) ≤ 4 then (wbX8_next_246 K 2 S) else (wbX8_next_246 K 4 S)) := by
      intro er
      rw [er, Nat.sub_self] at k
      unfold wbX8_next_246
      by_cases q : p - s ≤ 4
      · rw [if_pos (show nI (p - s) ≤ (4 : Int32) from nI_le (b := 4) q (by decide))]
        intro S2 e2
        rw [if_pos q] at k
        exact k S2 (by rw [e2, su_nj (by omega)]; exact h5) (by rw [e2, su_eq]) (by rw [e2, su_nj (by omega)]) (fun _ => by rw [e2]; exact h2 q) (by rw [e2]; exact fn_su (fn_rfl S))
      · rw [if_neg (show ¬ nI (p - s) ≤ (4 : Int32) from nI_ge (a := 4) (by omega) (by omega))]
        intro S2 e2
        rw [if_neg q] at k
        exact k S2 (by rw [e2, su_nj (by omega)]; exact h5) (by rw [e2, su_eq]) (by rw [e2, su_nj (by omega)]) (fun w => absurd w q) (by rw [e2]; exact fn_su (fn_rfl S))
    show wpX8_byteAt (S.1 40 0 25) S _
    rw [h5]
    refine mp_byte h (by omega) (mp_isDg ?_)
    cases n with
    | zero =>
      rw [byF_ge (by omega), show isDg (-1) = false by decide, if_pos bI_f]
      exact fin rfl
    | succ n =>
      rw [byF_lt (by omega)]
      refine bI_if (fun q => fin ?_) (fun q => ?_)
      · unfold runP; rw [q]; rfl
      · have er : runP isDg b (n + 1) p = runP isDg b n (p + 1) := by
          show (bif isDg (b p) then _ else _) = _
          rw [q]; rfl
        have rl := runP_le (f := isDg) (b := b) n (p + 1)
        rw [er, show runP isDg b n (p + 1) - p = (runP isDg b n (p + 1) - (p + 1)) + 1 by omega] at k
        obtain ⟨i, i1, i2, i3⟩ := dg_n q
        have go : ∀ w : Int64, ((p + 1) - s ≤ 4 → w = lN (10 * v + ((b p).toNatClampNeg - 48))) → wbX8_next_216 (fun yx2 S9 => wbX8_next_160 K (n + 1) yx2 S9) K (nI (p - s)) w S := by
          intro w hw
          unfold wbX8_next_216
          rw [nI_1, show p - s + 1 = p + 1 - s by omega]
          intro S2 e2 S3 e3
          have f3 : fn S S3 := by rw [e3, e2]; exact fn_su (fn_sl (fn_rfl S))
          exact mp_nr n (p + 1) (10 * v + ((b p).toNatClampNeg - 48)) S3 (by omega) (by omega) (Mb_fn h f3) (by rw [e3, su_eq, e2, sl_1, h5, nI_1]) (fun q2 => by rw [e3, e2]; exact hw q2) (fun S4 a c d e f => k S4 a c (by rw [d, e3, su_nj (by omega), e2, sl_1]) e (fn_tr f3 f))
        by_cases q4 : 4 ≤ p - s
        · rw [if_pos (show (4 : Int32) ≤ nI (p - s) from nI_le (a := 4) q4 (by omega))]
          exact go _ (fun w => by omega)
        · rw [if_neg (show ¬ (4 : Int32) ≤ nI (p - s) from nI_ge (b := 4) (by omega) (by decide)), h5]
          refine mp_byte h (by omega) ?_
          rw [byF_lt (by omega)]
          refine go _ (fun _ => ?_)
          rw [sw_40, h2 (by omega), i3, nI_clamp (by omega), nI_l (by omega), show (10 : Int64) = lN 10 from rfl, show (48 : Int64) = lN 48 from rfl, lN_mul, lN_add, lN_sub (by omega)]
          rw [show 10 * v + i - 48 = 10 * v + (i - 48) by omega]
theorem mp_sg {K : St → Prop} {x : Int32} {S : St} (ky : isSg x = true → wbX8_next_300 K x S) (kn : isSg x = false → K S) : (if x = 40 then (wbX8_next_300 K x S) else (if x = 41 then (wbX8_next_300 K x S) else (if x = 59 then (wbX8_next_300 K x S) else (if x = 43 then (wbX8_next_300 K x S) else (if x = 45 then (wbX8_next_300 K x S) else (if x = 42 then (wbX8_next_300 K x S) else (if x = 60 then (wbX8_next_300 K x S) else (if x = 61 then (wbX8_next_300 K x S) else (K S))))))))) := by
  unfold isSg at ky kn
  by_cases c1 : x = 40
  · rw [if_pos c1]; exact ky (by rw [c1]; decide)
  rw [if_neg c1]
  by_cases c2 : x = 41
  · rw [if_pos c2]; exact ky (by rw [c2]; decide)
  rw [if_neg c2]
  by_cases c3 : x = 59
  · rw [if_pos c3]; exact ky (by rw [c3]; decide)
  rw [if_neg c3]
  by_cases c4 : x = 43
  · rw [if_pos c4]; exact ky (by rw [c4]; decide)
  rw [if_neg c4]
  by_cases c5 : x = 45
  · rw [if_pos c5]; exact ky (by rw [c5]; decide)
  rw [if_neg c5]
  by_cases c6 : x = 42
  · rw [if_pos c6]; exact ky (by rw [c6]; decide)
  rw [if_neg c6]
  by_cases c7 : x = 60
  · rw [if_pos c7]; exact ky (by rw [c7]; decide)
  rw [if_neg c7]
  by_cases c8 : x = 61
  · rw [if_pos c8]; exact ky (by rw [c8]; decide)
  rw [if_neg c8]
  exact kn (decide_eq_false (fun q => by rcases q with q | q | q | q | q | q | q | q <;> contradiction))
theorem mp_nx0 {K : St → Prop} : ∀ n p (S : St), p + n = z → Mb z b r S → S.1 40 0 30 = 0 → S.1 40 0 25 = nI p → (∀ S1, Mt z b r S1 (runP isWs b n p) → fn S S1 → K S1) → wbX8_next_0 K (n + 1) S
  | n, p, S, e1, h, h30, h5, k => by
    have hz := h.1.1
    have fin : runP isWs b n p = p → ∀ S5, S5 = su S 40 0 27 (S.1 40 0 25) → wpX8_byteAt (S5.1 40 0 25) S5 (fun r6 S6 => (∀ S7, S7 = su S6 40 0 26 4 → if 0 ≤ r6 then (wpX8_in r6.toInt64 97 122 S7 (fun r9 S9 => if r9 = 0 then (wpX8_in r6.toInt64 48 57 S9 (fun r11 S11 => if r11 = 0 then (if r6 = 40 then (wbX8_next_300 K r6 S11) else (if r6 = 41 then (wbX8_next_300 K r6 S11) else (if r6 = 59 then (wbX8_next_300 K r6 S11) else (if r6 = 43 then (wbX8_next_300 K r6 S11) else (if r6 = 45 then (wbX8_next_300 K r6 S11) else (if r6 = 42 then (wbX8_next_300 K r6 S11) else (if r6 = 60 then (wbX8_next_300 K r6 S11) else (if r6 = 61 then (wbX8_next_300 K r6 S11) else (K S11))))))))) else ((∀ S21, S21 = su S11 40 0 26 2 → (∀ S22, S22 = sl S21 0 → ∃ k, wbX8_next_160 K k 0 S22))))) else ((∀ S23, S23 = su S9 40 0 26 1 → ∃ k, wbX8_next_100 K k S23)))) else ((∀ S24, S24 = su S7 40 0 26 0 → (∀ S25, S25 = su S24 40 0 27 (S24.1 40 0 24) → K S25))))) := by
      intro er S5 e5
      rw [er] at k
      have f5 : fn S S5 := by rw [e5]; exact fn_su (fn_rfl S)
      have a5 : S5.1 40 0 25 = nI p := by rw [e5, su_nj (by omega)]; exact h5
      rw [a5]
      refine mp_byte (Mb_fn h f5) (by omega) (fun S7 e7 => ?_)
      have f7 : fn S S7 := by rw [e7]; exact fn_su f5
      have h7 := Mb_fn h f7
      have a7 : S7.1 40 0 25 = nI p := by rw [e7, su_nj (by omega)]; exact a5
      have c7 : S7.1 40 0 27 = nI p := by rw [e7, su_nj (by omega), e5, su_eq]; exact h5
      have d7 : S7.1 40 0 26 = 4 := by rw [e7, su_eq]
      have ok : ∀ S8, S8.1 40 0 27 = nI p → S8.1 40 0 26 = tK z b p → (tK z b p = 1 ∨ tK z b p = 2 ∨ tK z b p = 3 → S8.1 40 0 25 = nI (tE z b p)) → (tK z b p = 2 → S8.2 = lN (tV z b p)) → (tK z b p = 3 → S8.2 = (tT z b p).toInt64) → fn S7 S8 → K S8 := fun S8 a c d e g f => k S8 ⟨Mb_fn h7 f, a, c, by rw [f.2 30 (by omega), f7.2 30 (by omega)]; exact h30, d, e, g⟩ (fn_tr f7 f)
      by_cases q : p < z
      · obtain ⟨v, hv, ev⟩ := (h.2.2 p q).2
        rw [byF_lt q, if_pos (by rw [ev]; exact nI_pos' (by omega))]
        have eK : tK z b p = bif isLt (b p) then 1 else bif isDg (b p) then (if runP isDg b (z - p) p - p ≤ 4 then 2 else 4) else bif isSg (b p) then 3 else 4 := by
          unfold tK; rw [if_neg (by omega)]
        have eT : tT z b p = bif isLt (b p) then waF b p (runP isLt b (z - p) p) 12 else bif isDg (b p) then (if runP isDg b (z - p) p - p ≤ 4 then 0 else -2) else bif isSg (b p) then b p else -2 := by
          unfold tT; rw [if_neg (by omega)]
        have eE : tE z b p = bif isLt (b p) then runP isLt b (z - p) p else bif isDg (b p) then runP isDg b (z - p) p else p + 1 := by
          unfold tE; rw [if_neg (by omega)]
        refine mp_isLt (bI_if (fun q1 => mp_isDg (bI_if (fun q2 => mp_sg (fun q3 => ?_) (fun q3 => ?_)) (fun q2 => ?_))) (fun q1 => ?_))
        · rw [q1, q2, q3] at eK eT
          rw [q1, q2] at eE
          intro S8 e8 S9 e9 S10 e10
          refine ok S10 (by rw [e10, su_nj (by omega), e9, sl_1, e8, su_nj (by omega)]; exact c7) (by rw [e10, su_nj (by omega), e9, sl_1, e8, su_eq, eK]; rfl) (fun _ => by rw [e10, su_eq, e9, sl_1, e8, su_nj (by omega), a7, nI_1, eE]; rfl) (fun w => absurd (show (3 : Int32) = 2 from eK.symm.trans w) (by decide)) (fun _ => by rw [e10, e9, eT]; rfl) (by rw [e10, e9, e8]; exact fn_su (fn_sl (fn_su (fn_rfl S7))))
        · rw [q1, q2, q3] at eK
          refine ok S7 c7 (d7.trans eK.symm) (fun w => ?_) (fun w => absurd (show (4 : Int32) = 2 from eK.symm.trans w) (by decide)) (fun w => absurd (show (4 : Int32) = 3 from eK.symm.trans w) (by decide)) (fn_rfl S7)
          rcases w with w | w | w
          · exact absurd (show (4 : Int32) = 1 from eK.symm.trans w) (by decide)
          · exact absurd (show (4 : Int32) = 2 from eK.symm.trans w) (by decide)
          · exact absurd (show (4 : Int32) = 3 from eK.symm.trans w) (by decide)
        · rw [q1, q2] at eK eE
          intro S8 e8 S9 e9
          have f9 : fn S7 S9 := by rw [e9, e8]; exact fn_sl (fn_su (fn_rfl S7))
          have st := mp_nr (z := z) (r := r) (b := b) (s := p) (K := K) (z - p) p 0 S9 (by omega) (by omega) (Mb_fn h7 f9) (by rw [e9, sl_1, e8, su_nj (by omega)]; exact a7) (fun _ => by rw [e9]; rfl) (fun S10 a c d e f => ok S10 (by rw [d, e9, sl_1, e8, su_nj (by omega)]; exact c7) (c.trans eK.symm) (fun _ => a.trans (congrArg nI eE.symm)) (fun w => e ?_) (fun w => ?_) (fn_tr f9 f))
          · rw [Nat.sub_self] at st
            exact ⟨z - p + 1, st⟩
          · by_cases q9 : runP isDg b (z - p) p - p ≤ 4
            · exact q9
            · have w : (if runP isDg b (z - p) p - p ≤ 4 then (2 : Int32) else 4) = 2 := eK.symm.trans w
              rw [if_neg q9] at w; exact absurd w (by decide)
          · have w : (if runP isDg b (z - p) p - p ≤ 4 then (2 : Int32) else 4) = 3 := eK.symm.trans w
            by_cases q9 : runP isDg b (z - p) p - p ≤ 4
            · rw [if_pos q9] at w; exact absurd w (by decide)
            · rw [if_neg q9] at w; exact absurd w (by decide)
        · rw [q1] at eK eE
          intro S8 e8
          have f8 : fn S7 S8 := by rw [e8]; exact fn_su (fn_rfl S7)
          exact ⟨z - p + 1, mp_wr (z - p) p S8 (by omega) (Mb_fn h7 f8) (by rw [e8, su_nj (by omega)]; exact a7) (fun S9 a c f => ok S9 (by rw [c 27 (by omega), e8, su_nj (by omega)]; exact c7) (by rw [c 26 (by omega), e8, su_eq, eK]; rfl) (fun _ => a.trans (congrArg nI eE.symm)) (fun w => absurd (show (1 : Int32) = 2 from eK.symm.trans w) (by decide)) (fun w => absurd (show (1 : Int32) = 3 from eK.symm.trans w) (by decide)) (fn_tr f8 f))⟩
      · have eK : tK z b p = 0 := by unfold tK; rw [if_pos (by omega)]
        rw [byF_ge (by omega), if_neg (by decide)]
        intro S8 e8 S9 e9
        refine ok S9 (by rw [e9, su_eq, e8, su_nj (by omega), h7.2.1.2, show p = z by omega]) (by rw [e9, su_nj (by omega), e8, su_eq, eK]) (fun w => ?_) (fun w => absurd (eK.symm.trans w) (by decide)) (fun w => absurd (eK.symm.trans w) (by decide)) (by rw [e9, e8]; exact fn_su (fn_su (fn_rfl S7)))
        rcases w with w | w | w
        · exact absurd (eK.symm.trans w) (by decide)
        · exact absurd (eK.symm.trans w) (by decide)
        · exact absurd (eK.symm.trans w) (by decide)
    show wpX8_byteAt (S.1 40 0 25) S _
    have go : ∀ n', n = n' + 1 → isWs (b p) = true → wbX8_next_26 (fun S9 => wbX8_next_0 K n S9) K S := by
      intro n' en q
      subst en
      intro S2 e2
      have f2 : fn S S2 := by rw [e2]; exact fn_su (fn_rfl S)
      have er : runP isWs b (n' + 1) p = runP isWs b n' (p + 1) := by
        show (bif isWs (b p) then _ else _) = _
        rw [q]; rfl
      rw [er] at k
      exact mp_nx0 n' (p + 1) S2 (by omega) (Mb_fn h f2) (by rw [f2.2 30 (by omega)]; exact h30) (by rw [e2, su_eq, h5, nI_1]) (fun S3 a f => k S3 a (fn_tr f2 f))
    rw [h5]
    refine mp_byte h (by omega) ?_
    cases n with
    | zero =>
      rw [byF_ge (by omega), if_neg (by decide), h5]
      refine mp_byte h (by omega) ?_
      rw [byF_ge (by omega), if_neg (by decide)]
      exact fin rfl
    | succ n =>
      rw [byF_lt (by omega)]
      by_cases q : b p = 32
      · rw [if_pos q]; exact go n rfl (by unfold isWs; rw [decide_eq_true q]; rfl)
      · rw [if_neg q, h5]
        refine mp_byte h (by omega) ?_
        rw [byF_lt (by omega)]
        by_cases q2 : b p = 10
        · rw [if_pos q2]; exact go n rfl (by unfold isWs; rw [decide_eq_true q2, Bool.or_true])
        · rw [if_neg q2]
          refine fin ?_
          unfold runP
          have : isWs (b p) = false := by unfold isWs; rw [decide_eq_false q, decide_eq_false q2]; rfl
          rw [this]; rfl
theorem mp_next {p : Nat} {K : St → Prop} {S : St} (h : Mb z b r S) (h30 : S.1 40 0 30 = 0) (hp : p ≤ z) (h5 : S.1 40 0 25 = nI p) (k : ∀ S1, Mt z b r S1 (tkS z b p) → fn S S1 → K S1) : wpX8_next S K := ⟨z - p + 1, mp_nx0 (z - p) p S (by omega) h h30 h5 k⟩
theorem tK_good {s : Nat} (h1 : tT z b s ≠ -1) (h2 : tT z b s ≠ -2) : tK z b s = 1 ∨ tK z b s = 2 ∨ tK z b s = 3 := by
  rcases tk_cases (z := z) (b := b) s with c | c | c | c | c
  · exact absurd c.2.1 h1
  · exact Or.inl c.1
  · exact Or.inr (Or.inl c.1)
  · exact Or.inr (Or.inr c.1)
  · exact absurd c.2.2 h2
theorem mp_nx {s : Nat} {K : St → Prop} {S : St} (h : Mt z b r S s) (h1 : tT z b s ≠ -1) (h2 : tT z b s ≠ -2) (k : ∀ S1, Mt z b r S1 (nx z b s) → fn S S1 → K S1) : wpX8_next S K :=
  mp_next h.1 h.2.2.2.1 (tE_le (lt_of_tT h1)).2 (h.2.2.2.2.1 (tK_good h1 h2)) k
theorem mp_isSign {s v : Nat} {K : Int32 → St → Prop} {S : St} (h : Mt z b r S s) (hv : 13 ≤ v) (hv2 : v < 100) (k : K (bI (decide (tT z b s = nI v))) S) : wpX8_isSign (nI v) S K := by
  unfold wpX8_isSign
  rw [if_pos h.2.2.2.1, h.2.2.1]
  have no : ¬ tT z b s = nI v → K 0 S := fun q => by rw [decide_eq_false q] at k; exact k
  rcases tk_cases (z := z) (b := b) s with c | c | c | c | c
  · rw [c.1, if_neg (by decide)]
    exact no (by rw [c.2.1]; exact fun w => nI_nm1 (by omega) w.symm)
  · rw [c.1, if_neg (by decide)]
    refine no (fun w => ?_)
    rcases tT_w c.1 with q | ⟨j, hj, q⟩
    · rw [q] at w; exact nI_n2 (by omega) w.symm
    · rw [q, nI_eq (by omega) (by omega)] at w; omega
  · rw [c.1, if_neg (by decide)]
    exact no (by rw [c.2.2]; exact fun w => nI_ne0 (by omega) (by omega) w.symm)
  · rw [c.1, if_pos rfl, sw_40, h.2.2.2.2.2.2 c.1]
    by_cases q : tT z b s = nI v
    · rw [decide_eq_true q] at k
      rw [q, if_pos ((lg_cmp_eq _ _).mpr rfl)]; exact k
    · rw [if_neg (fun w => q ?_)]
      · exact no q
      · have := (lg_cmp_eq _ _).mp w
        obtain ⟨j, j1, j2, j3⟩ := sg_13 c.2.2.2
        rw [c.2.2.1, j3, nI_l (by omega), nI_l (by omega), lN_eq (by omega) (by omega)] at this
        rw [c.2.2.1, j3, this]
  · rw [c.1, if_neg (by decide)]
    exact no (by rw [c.2.2]; exact fun w => nI_n2 (by omega) w.symm)
end
end
