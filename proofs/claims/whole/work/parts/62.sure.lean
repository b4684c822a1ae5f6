/-! mistake, sure -/
def pick (ok : Nat → Bool) (kp : Nat → Nat → Bool) : Nat → Nat → Int32 → Int32
  | 0, _, b => b
  | d + 1, y, b => pick ok kp d (y + 1) (bif ok y then (if b = -1 then nI y else bif kp b.toNatClampNeg y then b else nI y) else b)
def isB (n : Nat) (b : Int32) : Prop := b = -1 ∨ ∃ y, y < n ∧ b = nI y
theorem pick_in {ok : Nat → Bool} {kp : Nat → Nat → Bool} {n : Nat} {Q : Nat → Prop} (hQ : ∀ y, y < n → ok y = true → Q y) : ∀ d y b, y + d = n → (b = -1 ∨ ∃ y, y < n ∧ b = nI y ∧ Q y) → (pick ok kp d y b = -1 ∨ ∃ y2, y2 < n ∧ pick ok kp d y b = nI y2 ∧ Q y2)
  | 0, _, _, _, h => h
  | d + 1, y, b, e, h => by
    unfold pick
    refine pick_in hQ d (y + 1) _ (by omega) ?_
    cases o : ok y
    · exact h
    · have hy : Q y := hQ y (by omega) o
      show (if b = -1 then nI y else bif kp b.toNatClampNeg y then b else nI y) = -1 ∨ _
      by_cases q : b = -1
      · rw [if_pos q]; exact Or.inr ⟨y, by omega, rfl, hy⟩
      · rw [if_neg q]
        cases kp b.toNatClampNeg y
        · exact Or.inr ⟨y, by omega, rfl, hy⟩
        · exact h
section
variable {t m n r : Nat} {T : Tn} {U : Rl} {x : Nat} {K : Int32 → St → Prop}
theorem pk_bst {S : St} {b : Int32} {y : Nat} (hx : x < m) (hm : m ≤ 4) (hn : n ≤ 4) (hb : isB n b) (q : ¬ b = -1) : ∃ y2, y2 < n ∧ b = nI y2 := by
  rcases hb with h | h
  · exact absurd h q
  · exact h
def misO (m : Nat) (U : Rl) (T : Tn) (x : Nat) : Nat → Bool := fun y => mayB m T x y && !noB U T x y (T 1 x)
def misK (T : Tn) (x : Nat) : Nat → Nat → Bool := fun b y => decide (T 5 (4 * x + b) ≤ T 5 (4 * x + y))
def choO (m : Nat) (U : Rl) (T : Tn) (x : Nat) : Nat → Bool := fun y => mayB m T x y && wanB U T x y
def choK (T : Tn) (x : Nat) : Nat → Nat → Bool := fun b y => decide (T 5 (4 * x + y) ≤ T 5 (4 * x + b))
theorem nx_in {y d : Nat} {b : Int32} {ok kp : Bool} (e : y + (d + 1) = n) (hb : isB n b) : isB n (bif ok then (if b = -1 then nI y else bif kp then b else nI y) else b) := by
  have hy : isB n (nI y) := Or.inr ⟨y, by omega, rfl⟩
  cases ok
  · exact hb
  · show isB n (if b = -1 then nI y else bif kp then b else nI y)
    by_cases q : b = -1
    · rw [if_pos q]; exact hy
    · rw [if_neg q]
      cases kp
      · exact hy
      · exact hb
theorem sp_mis_l (hx : x < m) : ∀ (d y : Nat) (b : Int32) (S : St), RT S 0 m n r T → RuC S r U → y + d = n → isB n b → (∀ S1, fq S S1 → K (pick (misO m U T x) (misK T x) d y b) S1) → wbX7_mistake_15 K (nI x) (d + 1) b (nI y) S
  | 0, y, b, S, hT, hU, e, hb, k => by
    obtain ⟨⟨hm, hn, hr⟩, ⟨h0, h1, _⟩, _⟩ := id hT
    show if S.1 10 0 1 ≤ nI y then _ else _
    rw [h1, if_pos (nI_le (by omega) (by omega))]
    exact k S (fq_rfl S)
  | d + 1, y, b, S, hT, hU, e, hb, k => by
    obtain ⟨⟨hm, hn, hr⟩, ⟨h0, h1, _⟩, _⟩ := id hT
    show if S.1 10 0 1 ≤ nI y then _ else _
    rw [h1, if_neg (nI_ge (by omega) (by omega))]
    unfold wbX7_mistake_86 wbX7_mistake_84 wbX7_mistake_86
    rw [nI_1]
    unfold pick at k
    have go : ∀ (b2 : Int32) (S1 : St), fq S S1 → b2 = (bif misO m U T x y then (if b = -1 then nI y else bif misK T x b.toNatClampNeg y then b else nI y) else b) → wbX7_mistake_15 K (nI x) (d + 1) b2 (nI (y + 1)) S1 := by
      intro b2 S1 f1 e2
      subst e2
      exact sp_mis_l hx d (y + 1) _ S1 (RT_fq hT f1) (RuC_fq hU f1) (by omega) (nx_in e hb) (fun S2 f2 => k S2 (fq_tr f1 f2))
    refine sp_mayAsk hT hx (by omega) (bI_if (fun w => go b S (fq_rfl S) (by simp [misO, w])) (fun w => ?_))
    refine sp_saysNo hT hU hx (by omega) (fun S1 f1 => bI_if (fun w2 => ?_) (fun w2 => go b S1 f1 (by simp [misO, w, w2])))
    by_cases q : b = -1
    · rw [if_pos q]
      exact go (nI y) S1 f1 (by simp [misO, w, w2, q])
    · rw [if_neg q]
      obtain ⟨y2, hy2, e2⟩ := pk_bst (S := S) (y := y) hx hm hn hb q
      rw [e2]
      have hB := (RT_fq hT f1).2.2.2.2
      refine sp_at ⟨vp_in_nI (by omega) (by omega), sp_at ⟨vp_in_nI (by omega) (by omega), ?_⟩⟩
      rw [nI_clamp (by omega), nI_clamp (by omega), (hB x y hx (by omega)).1, (hB x y2 hx hy2).1]
      by_cases q2 : T 5 (4 * x + y2) ≤ T 5 (4 * x + y)
      · rw [if_pos q2]
        exact go (nI y2) S1 f1 (by rw [e2] at q ⊢; simp [misO, misK, w, w2, q, nI_clamp (show y2 < 2 ^ 31 by omega), q2])
      · rw [if_neg q2]
        exact go (nI y) S1 f1 (by rw [e2] at q ⊢; simp only [misO, misK, w, w2, Bool.and_true, Bool.not_false, cond_true, if_neg q, nI_clamp (show y2 < 2 ^ 31 by omega), decide_eq_false q2, cond_false])
theorem mp_mis_l (hx : x < m) (hm : m ≤ 4) (hn : n ≤ 4) (hV : VT m n T) : ∀ (d y : Nat) (b : Int32) (S : St), RM S m n r T → RuM S r U → y + d = n → isB n b → (∀ S1, fq S S1 → K (pick (misO m U T x) (misK T x) d y b) S1) → wbX8_mistake_15 K (nI x) (d + 1) b (nI y) S
  | 0, y, b, S, hT, hU, e, hb, k => by
    show if S.1 40 0 8 ≤ nI y then _ else _
    rw [hT.1.2.1, if_pos (nI_le (by omega) (by omega))]
    exact k S (fq_rfl S)
  | d + 1, y, b, S, hT, hU, e, hb, k => by
    show if S.1 40 0 8 ≤ nI y then _ else _
    rw [hT.1.2.1, if_neg (nI_ge (by omega) (by omega))]
    unfold wbX8_mistake_51 wbX8_mistake_52 wbX8_mistake_89 wbX8_mistake_87 wbX8_mistake_89
    rw [nI_1]
    unfold pick at k
    have go : ∀ (b2 : Int32) (S1 : St), fq S S1 → b2 = (bif misO m U T x y then (if b = -1 then nI y else bif misK T x b.toNatClampNeg y then b else nI y) else b) → wbX8_mistake_15 K (nI x) (d + 1) b2 (nI (y + 1)) S1 := by
      intro b2 S1 f1 e2
      subst e2
      exact mp_mis_l hx hm hn hV d (y + 1) _ S1 (RM_fq hT f1) (RuM_fq hU f1) (by omega) (nx_in e hb) (fun S2 f2 => k S2 (fq_tr f1 f2))
    refine mp_mayAsk hT hm hn hx (by omega) (bI_if (fun w => ?_) (fun w => ⟨vp_in_nI (by omega) (by omega), ?_⟩))
    · rw [if_pos rfl]
      exact go b S (fq_rfl S) (by simp [misO, w])
    rw [nI_clamp (by omega), (hT.2.1 x hx).1]
    refine mp_saysNo hT hV hm hn hU (hV.2.1 x hx) hx (by omega) (fun S1 f1 => bI_if (fun w2 => ?_) (fun w2 => ?_))
    · rw [if_neg nfi]
      by_cases q : b = -1
      · rw [if_pos q]
        exact go (nI y) S1 f1 (by simp [misO, w, w2, q])
      · rw [if_neg q]
        obtain ⟨y2, hy2, e2⟩ := pk_bst (S := S) (y := y) hx hm hn hb q
        rw [e2, at4, at4]
        have hB := (RM_fq hT f1).2.2.2
        refine ⟨vp_in_nI (by omega) (by omega), vp_in_nI (by omega) (by omega), ?_⟩
        rw [nI_clamp (by omega), nI_clamp (by omega), (hB x y hx (by omega)).1, (hB x y2 hx hy2).1]
        by_cases q2 : T 5 (4 * x + y2) ≤ T 5 (4 * x + y)
        · rw [if_pos q2]
          exact go (nI y2) S1 f1 (by rw [e2] at q ⊢; simp [misO, misK, w, w2, q, nI_clamp (show y2 < 2 ^ 31 by omega), q2])
        · rw [if_neg q2]
          exact go (nI y) S1 f1 (by rw [e2] at q ⊢; simp only [misO, misK, w, w2, Bool.and_true, Bool.not_false, cond_true, if_neg q, nI_clamp (show y2 < 2 ^ 31 by omega), decide_eq_false q2, cond_false])
    · rw [if_pos rfl]
      exact go b S1 f1 (by simp [misO, w, w2])
/-- who refuses from now on -/
def surL (U : Rl) (T : Tn) (x y : Nat) : Nat → Nat → Bool
  | 0, _ => true
  | d + 1, h => noB U T x y (nI h) && surL U T x y d (h + 1)
def bitF (b : Bool) (y : Nat) (v : Int32) : Int32 := bif b then v ||| (1 <<< (nI y &&& 31)) else v
def surB (m : Nat) (U : Rl) (T : Tn) (x y h0 : Nat) : Bool := mayB m T x y && surL U T x y (10 - h0) h0
def surF (m : Nat) (U : Rl) (T : Tn) (x h0 : Nat) : Nat → Nat → Int32 → Int32
  | 0, _, v => v
  | d + 1, y, v => surF m U T x h0 d (y + 1) (bitF (surB m U T x y h0) y v)
theorem no_set {y : Nat} {v h : Int32} : noB U (setT T 1 x v) x y h = noB U T x y h := by
  unfold noB valF
  rw [setT_na (by omega), setT_na (by omega), setT_na (by omega), setT_na (by omega), setT_na (by omega)]
theorem sp_ref_l {y : Nat} (hx : x < m) (hy : y < n) : ∀ (d h : Nat) (v : Int32) (S : St), RT S 1 m n r (setT T 1 x v) → RuC S r U → h + d = 10 → (∀ S1 v, RT S1 1 m n r (setT T 1 x v) → (∀ kd i, ¬ (kd = 11 ∧ i = 1) → kd ≠ 9 → kd ≠ 17 → kd ≠ 40 → S1.1 kd i = S.1 kd i) → (∀ j, j < 17 ∨ 31 < j → S1.1 40 0 j = S.1 40 0 j) → K (bI (surL U T x y d h)) S1) → wbX7_refusesFromNowOn_10 K (nI x) (nI y) (d + 1) (nI h) S
  | 0, h, v, S, hT, hU, e, k => by
    show if (9 : Int32) < nI h then _ else _
    rw [if_pos (by rw [lit32 9]; exact nI_lt (by omega) (by omega))]
    exact k S v hT (fun _ _ _ _ _ _ => rfl) (fun _ _ => rfl)
  | d + 1, h, v, S, hT, hU, e, k => by
    have hm := hT.1.1
    show if (9 : Int32) < nI h then _ else _
    rw [if_neg (by rw [lit32 9]; exact nI_nlt (by omega) (by omega)), nI_clamp (by omega), nI_1]
    refine ⟨vp_in_nI (by omega) (by omega), fun S3 e3 => ?_⟩
    have t3 : RT S3 1 m n r (setT T 1 x (nI h)) := by
      have := RT_11 (x := x) (v := nI h) hT
      rw [← e3] at this
      rw [show setT T 1 x (nI h) = setT (setT T 1 x v) 1 x (nI h) from ?_]
      · exact this
      · funext c j
        unfold setT
        by_cases w : c = 1 ∧ j = x
        · rw [if_pos w, if_pos w]
        · rw [if_neg w, if_neg w, if_neg w]
    have u3 : RuC S3 r U := by rw [e3]; exact RuC_fr hU (sa_ne (by omega)) (sa_ne (by omega))
    refine sp_saysNo t3 u3 hx hy (fun S1 f1 => ?_)
    rw [setT_eq, no_set]
    unfold surL at k
    refine bI_if (fun w => ?_) (fun w => ?_)
    · rw [w] at k
      refine k S1 (nI h) (RT_fq t3 f1) (fun kd i w1 w2 w3 w4 => ?_) (fun j hj => ?_)
      · rw [f1.1 kd i w2 w3 w4, e3, sa_ne w1]
      · rw [f1.2 j hj, e3, sa_ne (by omega)]
    · rw [w] at k
      refine sp_ref_l hx hy d (h + 1) (nI h) S1 (RT_fq t3 f1) (RuC_fq u3 f1) (by omega) (fun S2 v2 a2 b2 c2 => k S2 v2 a2 (fun kd i w1 w2 w3 w4 => ?_) (fun j hj => ?_))
      · rw [b2 kd i w1 w2 w3 w4, f1.1 kd i w2 w3 w4, e3, sa_ne w1]
      · rw [c2 j hj, f1.2 j hj, e3, sa_ne (by omega)]
theorem sp_sur_l {h0 : Nat} (hx : x < m) (hh : h0 ≤ 9) (eh : T 1 x = nI h0) : ∀ (d y : Nat) (b v : Int32) (S : St), RT S 0 m n r T → RT S 1 m n r (setT T 1 x v) → RuC S r U → y + d = n → (∀ S1, fz S S1 → (∀ kd i, 41 ≤ kd → S1.1 kd i = S.1 kd i) → S1.1 40 0 16 = S.1 40 0 16 → K (surF m U T x h0 d y b) S1) → wbX7_sure_26 K (nI x) (d + 1) b (nI y) S
  | 0, y, b, v, S, hT, hT1, hU, e, k => by
    obtain ⟨⟨hm, hn, hr⟩, ⟨_, h1, _⟩, _⟩ := id hT
    show if S.1 10 0 1 ≤ nI y then _ else _
    rw [h1, if_pos (nI_le (by omega) (by omega))]
    exact k S (fz_rfl S) (fun _ _ _ => rfl) rfl
  | d + 1, y, b, v, S, hT, hT1, hU, e, k => by
    obtain ⟨⟨hm, hn, hr⟩, ⟨_, h1, _⟩, hA, _⟩ := id hT
    show if S.1 10 0 1 ≤ nI y then _ else _
    rw [h1, if_neg (nI_ge (by omega) (by omega))]
    unfold wbX7_sure_64
    rw [nI_1]
    unfold surF at k
    refine sp_mayAsk hT hx (by omega) (bI_if (fun w => ?_) (fun w => ?_))
    · refine sp_sur_l hx hh eh d (y + 1) b v S hT hT1 hU (by omega) ?_
      rw [show bitF (surB m U T x y h0) y b = b by simp [bitF, surB, w]] at k
      exact k
    · refine ⟨vp_in_nI (by omega) (by omega), 10 - h0 + 1, ?_⟩
      rw [nI_clamp (by omega), (hA x hx).1, eh]
      refine sp_ref_l hx (by omega) (10 - h0) h0 v S hT1 hU (by omega) (fun S1 v1 t1 W1 W40 => ?_)
      have f1 : fz S S1 := ⟨fun kd i w => W1 kd i (by unfold cz at w; omega) (by unfold cz at w; omega) (by unfold cz at w; omega) (by unfold cz at w; omega), fun j hj => W40 j (by omega)⟩
      have t0 : RT S1 0 m n r T := RT_fr hT (fun kd a b => W1 kd 0 (by omega) (by omega) (by omega) (by omega))
      have u1 : RuC S1 r U := RuC_fr hU (W1 7 r (by omega) (by omega) (by omega) (by omega)) (W1 8 r (by omega) (by omega) (by omega) (by omega))
      have go : ∀ b2 : Int32, b2 = bitF (surB m U T x y h0) y b → wbX7_sure_26 K (nI x) (d + 1) b2 (nI (y + 1)) S1 := by
        intro b2 e2
        subst e2
        exact sp_sur_l hx hh eh d (y + 1) _ v1 S1 t0 t1 u1 (by omega) (fun S2 f2 g2 h2 => k S2 (fz_tr f1 f2) (fun kd i w => (g2 kd i w).trans (W1 kd i (by omega) (by omega) (by omega) (by omega))) (h2.trans (W40 16 (by omega))))
      exact bI_if (fun w2 => go _ (by simp [bitF, surB, w, w2])) (fun w2 => go _ (by simp [bitF, surB, w, w2]))
theorem mp_had_l {R15 : Int32 → Int32 → St → Prop} {y : Nat} {bits : Int32} (hx : x < m) (hy : y < n) (hm : m ≤ 4) (hn : n ≤ 4) (hV : VT m n T) : ∀ (d h : Nat) (S : St), RM S m n r T → RuM S r U → h + d = 10 → (∀ S1, fq S S1 → wbX8_sure_67 R15 K (nI x) bits (nI y) (bI (surL U T x y d h)) S1) → wbX8_sure_39 R15 K (nI x) bits (nI y) (d + 2) 1 (nI h) S
  | 0, h, S, hT, hU, e, k => by
    show if (9 : Int32) < nI h then _ else _
    rw [if_pos (by rw [lit32 9]; exact nI_lt (by omega) (by omega))]
    exact k S (fq_rfl S)
  | d + 1, h, S, hT, hU, e, k => by
    show if (9 : Int32) < nI h then _ else _
    rw [if_neg (by rw [lit32 9]; exact nI_nlt (by omega) (by omega)), if_neg nfi, nI_1]
    unfold surL at k
    refine mp_saysNo hT hV hm hn hU ⟨h, by omega, rfl⟩ hx hy (fun S1 f1 => ?_)
    cases w : noB U T x y (nI h)
    · show if (9 : Int32) < nI (h + 1) then _ else _
      rw [w] at k
      by_cases q : (9 : Int32) < nI (h + 1)
      · rw [if_pos q]; exact k S1 f1
      · rw [if_neg q, if_pos (show bI false = 0 by decide)]; exact k S1 f1
    · rw [w] at k
      exact mp_had_l hx hy hm hn hV d (h + 1) S1 (RM_fq hT f1) (RuM_fq hU f1) (by omega) (fun S2 f2 => k S2 (fq_tr f1 f2))
theorem sh0 : ∀ y, y < 4 → (0 : Int32) <<< (nI y &&& 31) = 0 := by decide
theorem mp_sur_l {h0 : Nat} (hx : x < m) (hm : m ≤ 4) (hn : n ≤ 4) (hV : VT m n T) (hh : h0 ≤ 9) (eh : T 1 x = nI h0) : ∀ (d y : Nat) (b : Int32) (S : St), RM S m n r T → RuM S r U → y + d = n → (∀ S1, fq S S1 → K (surF m U T x h0 d y b) S1) → wbX8_sure_15 K (nI x) (d + 1) b (nI y) S
  | 0, y, b, S, hT, hU, e, k => by
    show if S.1 40 0 8 ≤ nI y then _ else _
    rw [hT.1.2.1, if_pos (nI_le (by omega) (by omega))]
    exact k S (fq_rfl S)
  | d + 1, y, b, S, hT, hU, e, k => by
    show if S.1 40 0 8 ≤ nI y then _ else _
    rw [hT.1.2.1, if_neg (nI_ge (by omega) (by omega))]
    unfold surF at k
    have go : ∀ (S1 : St), fq S S1 → wbX8_sure_67 (fun yx2 yx3 S9 => wbX8_sure_15 K (nI x) (d + 1) yx2 yx3 S9) K (nI x) b (nI y) (bI (surB m U T x y h0)) S1 := by
      intro S1 f1
      have go2 : ∀ b2 : Int32, b2 = bitF (surB m U T x y h0) y b → wbX8_sure_15 K (nI x) (d + 1) b2 (nI (y + 1)) S1 := by
        intro b2 e2
        subst e2
        exact mp_sur_l hx hm hn hV hh eh d (y + 1) _ S1 (RM_fq hT f1) (RuM_fq hU f1) (by omega) (fun S2 f2 => k S2 (fq_tr f1 f2))
      unfold wbX8_sure_67 wbX8_sure_78
      rw [nI_1]
      refine bI_if (fun w => go2 _ ?_) (fun w => go2 _ ?_)
      · rw [w, sh0 y (by omega)]; simp [bitF]
      · rw [w]; simp [bitF]
    refine mp_mayAsk hT hm hn hx (by omega) ⟨vp_in_nI (by omega) (by omega), 10 - h0 + 2, ?_⟩
    rw [nI_clamp (by omega), (hT.2.1 x hx).1, eh]
    cases w : mayB m T x y
    · show if (9 : Int32) < nI h0 then _ else _
      rw [if_neg (by rw [lit32 9]; exact nI_nlt (by omega) (by omega)), if_pos (show bI false = 0 by decide)]
      have := go S (fq_rfl S)
      rw [show surB m U T x y h0 = false by simp [surB, w]] at this
      exact this
    · refine mp_had_l hx (by omega) hm hn hV (10 - h0) h0 S hT hU (by omega) (fun S1 f1 => ?_)
      have := go S1 f1
      rw [show surB m U T x y h0 = surL U T x y (10 - h0) h0 by simp [surB, w]] at this
      exact this
end
section
variable {S : St} {F : Int32 → St → Prop} {K : St → Prop} {a b c d e : Int32}
theorem call_mistake (R : Rel S) (hK : ∀ S1, Rel S1 → K S1) (hF : Hm F (wpX8_mistake a) K) : wpX7_mistake a S F := by
  obtain ⟨m, n, r, T, k, V, R⟩ := R
  have hR : Rel S := ⟨m, n, r, T, k, V, R⟩
  obtain ⟨hT, hJ, hM, hV, h2, hr, h3, h4, h5⟩ := id R
  have hm := hT.1.1
  have hn := hT.1.2.1
  have e0 := hT.2.1.1
  have g0 := hM.1.1
  unfold wpX7_mistake
  by_cases c1 : ∃ i, i < m ∧ a = nI i
  · obtain ⟨x, hx, rfl⟩ := c1
    refine man1 e0 hm hx ?_
    rw [if_neg nfi]
    refine ⟨n + 1, sp_mis_l hx n 0 _ S hT (h2.2.2 r hr).1 (by omega) (Or.inl rfl) (fun S1 f1 => hF _ _ ?_)⟩
    have R1 := Rel_fq R f1
    unfold wpX8_mistake
    refine mman1 R1.2.2.1.1.1 hm hx ?_
    rw [if_neg nfi]
    exact ⟨n + 1, mp_mis_l hx hm hn hV n 0 _ S1 R1.2.2.1 (R1.2.2.2.2.1.2.2 r hr).2 (by omega) (Or.inl rfl) (fun S2 f2 => same (hK _ ⟨m, n, r, T, k, V, Rel_fq R1 f2⟩))⟩
  · refine man0 e0 hm c1 ?_
    rw [if_pos rfl]
    refine hF _ _ ?_
    unfold wpX8_mistake
    refine mman0 g0 hm c1 ?_
    rw [if_pos rfl]
    exact same (hK _ hR)
theorem setT_self {T : Tn} {a j : Nat} : setT T a j (T a j) = T := by
  funext b i
  unfold setT
  by_cases h : b = a ∧ i = j
  · rw [if_pos h, h.1, h.2]
  · rw [if_neg h]
theorem call_sure (R : Rel S) (hK : ∀ S1, Rel S1 → K S1) (hF : Hm F (wpX8_sure a) K) : wpX7_sure a S F := by
  obtain ⟨m, n, r, T, k, V, R⟩ := R
  have hR : Rel S := ⟨m, n, r, T, k, V, R⟩
  obtain ⟨hT, hJ, hM, hV, h2, hr, h3, h4, h5⟩ := id R
  have hm := hT.1.1
  have hn := hT.1.2.1
  have e0 := hT.2.1.1
  have g0 := hM.1.1
  unfold wpX7_sure
  by_cases c1 : ∃ i, i < m ∧ a = nI i
  · obtain ⟨x, hx, rfl⟩ := c1
    obtain ⟨h0, hh, eh⟩ := hV.2.1 x hx
    refine man1 e0 hm hx ?_
    rw [if_neg nfi]
    refine sp_resemble (by omega) hT (fun S1 t1 _ W1 _ _ => ?_)
    have f1 : fz S S1 := ⟨fun kd i w => W1 kd i (by unfold cz at w; omega), fun j _ => by rw [W1 40 0 (by omega)]⟩
    have m1 : RM S1 m n r T := RM_fc hM (fun kd i w => W1 kd i (by omega))
    have R1 := Rel_q R f1 m1
    refine ⟨n + 1, sp_sur_l hx hh eh n 0 _ (T 1 x) S1 R1.1 (by rw [setT_self]; exact t1) (R1.2.2.2.2.1.2.2 r hr).1 (by omega) (fun S2 f2 g2 h2 => hF _ _ ?_)⟩
    have m2 : RM S2 m n r T := (RM_eq (fun kd a b => g2 kd 0 (by omega)) (fun j hj => by rcases hj with rfl | rfl | rfl | rfl <;> first | exact h2 | exact f2.2 _ (by omega))).mpr m1
    have R2 := Rel_q R1 f2 m2
    unfold wpX8_sure
    refine mman1 m2.1.1 hm hx ?_
    rw [if_neg nfi]
    exact ⟨n + 1, mp_sur_l hx hm hn hV hh eh n 0 _ S2 m2 (R2.2.2.2.2.1.2.2 r hr).2 (by omega) (fun S3 f3 => same (hK _ ⟨m, n, r, T, k, V, Rel_fq R2 f3⟩))⟩
  · refine man0 e0 hm c1 ?_
    rw [if_pos rfl]
    refine hF _ _ ?_
    unfold wpX8_sure
    refine mman0 g0 hm c1 ?_
    rw [if_pos rfl]
    exact same (hK _ hR)
end
