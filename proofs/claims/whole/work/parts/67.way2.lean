/-! way: the reference's, and the call -/
theorem bt_y : ∀ k, k < 16 → ∀ y, y < 4 → ∀ z, z < 4 → (k ||| 2 ^ y).testBit z = (k.testBit z || decide (z = y)) ∧ (k ||| 2 ^ z) ||| 2 ^ y = (k ||| 2 ^ y) ||| 2 ^ z ∧ (k ||| 2 ^ y) < 16 := by decide +kernel
section
variable {m n r : Nat} {U : Rl} {x y : Nat} {so : Int32}
def GoM (m n r : Nat) (U : Rl) (x y : Nat) (so : Int32) (d : Nat) : Prop := ∀ (T : Tn) (p : Nat → Int32) (dp : Nat) (co : Int32) (k : Nat) (a : Ac) (S : St) (K : St → Prop), RM S m n r T → VT m n T → RuM S r U → (∀ i, i < dp → S.1 54 0 i = p i) → AM S a → k < 16 → dp + cntZ (k ||| 2 ^ y) ≤ 3 → cntZ (k ||| 2 ^ y) < d →
  (∀ S1, RM S1 m n r T → (∀ i, i < dp → S1.1 54 0 i = S.1 54 0 i) → AM S1 (goF m n U x y so d T p dp co (k ||| 2 ^ y) a) → fz S S1 → K S1) → wpG4 d 0 (nI x) (nI y) so (nI dp) co (nI k) S K
theorem mp_goL {d : Nat} {T : Tn} {p : Nat → Int32} {dp : Nat} {co : Int32} {k : Nat} {K : St → Prop} (hm : m ≤ 4) (hn : n ≤ 4) (hG : GoM m n r U x y so d) (hx : x < m) (hy : y < n) (hV : VT m n T) (hk : k < 16) (hd : dp + cntZ (k ||| 2 ^ y) ≤ 3) (hc : cntZ (k ||| 2 ^ y) < d + 1) : ∀ (e z : Nat) (a : Ac) (S : St), z + e = n → RM S m n r T → RuM S r U → (∀ i, i < dp → S.1 54 0 i = p i) → AM S a →
    (∀ S1, RM S1 m n r T → (∀ i, i < dp → S1.1 54 0 i = S.1 54 0 i) → AM S1 (foldZ (stpF m n U x y so d T p dp co (k ||| 2 ^ y)) e z a) → fz S S1 → K S1) → wbX8_lets_87 (wpG4 d) K (nI x) (nI y) so (nI dp) co (nI k) (e + 1) (nI z) S
  | 0, z, a, S, e, hT, hU, hp, hA, kk => by
    show if S.1 40 0 8 ≤ nI z then _ else _
    rw [hT.1.2.1, if_pos (nI_le (by omega) (by omega))]
    exact kk S hT (fun _ _ => rfl) hA (fz_rfl S)
  | e + 1, z, a, S, ez, hT, hU, hp, hA, kk => by
    have vx : vp_in (nI x) 4 := vp_in_nI (by omega) (by omega)
    obtain ⟨y1, y2, y3⟩ := bt_y k hk y (by omega) z (by omega)
    show if S.1 40 0 8 ≤ nI z then _ else _
    rw [hT.1.2.1, if_neg (nI_ge (by omega) (by omega)), bt_c k hk z (by omega)]
    unfold wbX8_lets_210
    rw [nI_1, nI_1]
    unfold foldZ at kk
    have skip : ∀ S1, fq S S1 → stpF m n U x y so d T p dp co (k ||| 2 ^ y) z a = a → wbX8_lets_87 (wpG4 d) K (nI x) (nI y) so (nI dp) co (nI k) (e + 1) (nI (z + 1)) S1 := by
      intro S1 f1 e1
      rw [e1] at kk
      have c54 : S1.1 54 0 = S.1 54 0 := f1.1 54 0 (by omega) (by omega) (by omega)
      exact mp_goL hm hn hG hx hy hV hk hd hc e (z + 1) a S1 (by omega) (RM_fq hT f1) (RuM_fq hU f1) (fun i hi => by rw [c54]; exact hp i hi) (AM_fr hA (f1.2 38 (by omega)) (f1.2 39 (by omega)) (f1.1 55 0 (by omega) (by omega) (by omega))) (fun S2 a2 c2 d2 e2 => kk S2 a2 (fun i hi => by rw [c2 i hi, c54]) d2 (fz_tr (fz_fq f1) e2))
    by_cases zy : nI z = nI y
    · rw [if_pos zy]
      exact skip S (fq_rfl S) (by simp [stpF, y1, (nI_eq (by omega) (by omega)).mp zy])
    rw [if_neg zy]
    have zy' : z ≠ y := fun q => zy (by rw [q])
    refine bI_if (fun w0 => ?_) (fun w0 => skip S (fq_rfl S) (by simp [stpF, y1, w0]))
    have w0y : (k ||| 2 ^ y).testBit z = false := by rw [y1, w0, decide_eq_false zy']; rfl
    refine mp_mayAsk hT hm hn hx (by omega) (bI_if (fun w => skip S (fq_rfl S) (by simp [stpF, w])) (fun w => ⟨vx, ?_⟩))
    rw [nI_clamp (n := x) (by omega), (hT.2.1 x hx).1]
    refine mp_saysNo hT hV hm hn hU (hV.2.1 x hx) hx (by omega) (fun S1 f1 => bI_if (fun w2 => skip S1 f1 (by simp [stpF, w2])) (fun w2 => ⟨vx, ?_⟩))
    have m1 := RM_fq hT f1
    have es : stpF m n U x y so d T p dp co (k ||| 2 ^ y) z a = goF m n U x y so d (endT T x z false) (upd p dp (nI z)) (dp + 1) (co + prcF (T 3 z) (T 4 z)) ((k ||| 2 ^ y) ||| 2 ^ z) a := by simp [stpF, w0y, w, w2]
    rw [es, ← y2] at kk
    obtain ⟨o1, o2, _⟩ := bt_or k hk z (by omega)
    obtain ⟨_, _, o3⟩ := bt_or (k ||| 2 ^ y) y3 z (by omega)
    have o3 := o3 w0y
    rw [← y2] at o3
    rw [o1, (m1.2.1 x hx).1, m1.1.2.2.1, show (1 : Int32) = bI (!false) from rfl]
    refine mp_end (b := false) m1 hV hm hn hx (by omega) (fun q => by cases q) (fun S2 m2 W2 W40 => ?_)
    rw [nI_clamp (n := dp) (by omega)]
    refine ⟨vp_in_nI (by omega) (by omega), fun S3 e3 => ?_⟩
    have V2 : VT m n (endT T x z false) := VT_end hV hx hn (fun q => by cases q)
    have m3 : RM S3 m n r (endT T x z false) := by rw [e3]; exact (RM_eq (fun kd a b => sa_ne (by omega)) (fun j hj => by rw [sa_ne (by omega)])).mpr m2
    refine mp_price m3 V2 hn (by omega) ?_
    rw [endT_na (by omega), endT_na (by omega)]
    have g3 : fz S S3 := by
      rw [e3]
      exact fz_sa (fz_tr (fz_fq f1) ⟨fun kd i w => W2 kd i (by unfold cz at w; omega) (by unfold cz at w; omega), fun j hj => W40 j (by omega)⟩)
    have p3 : ∀ i, S3.1 54 0 i = if i = dp then nI z else S.1 54 0 i := by
      intro i
      rw [e3, sa_eq, upd_rd, W2 54 0 (by omega) (by omega), f1.1 54 0 (by omega) (by omega) (by omega)]
    have A3 : AM S3 a := AM_fr hA (by rw [e3, sa_ne (by omega), W40 38 (by omega), f1.2 38 (by omega)]) (by rw [e3, sa_ne (by omega), W40 39 (by omega), f1.2 39 (by omega)]) (by rw [e3, sa_ne (by omega), W2 55 0 (by omega) (by omega), f1.1 55 0 (by omega) (by omega) (by omega)])
    refine hG _ (upd p dp (nI z)) (dp + 1) _ (k ||| 2 ^ z) a S3 _ m3 V2 (RuM_fz hU g3) (fun i hi => ?_) A3 o2 (by omega) (by omega) (fun S4 m4 p4 A4 f4 => ⟨vx, fun S5 e5 S6 e6 => ?_⟩)
    · rw [p3, upd_rd]
      by_cases q : i = dp
      · rw [if_pos q, if_pos q]
      · rw [if_neg q, if_neg q]; exact hp i (by omega)
    · have m6 : RM S6 m n r T := by
        rw [e6, e5]
        have := RM_m (v := T 0 0) (RM_46 (x := x) (v := T 1 x) m4)
        rw [endT_bk] at this
        exact this
      have g6 : fz S S6 := fz_tr g3 (fz_tr f4 (by rw [e6, e5]; exact fz_40 (fz_sa (fz_rfl _))))
      have p6 : ∀ i, i < dp → S6.1 54 0 i = S.1 54 0 i := fun i hi => by
        rw [e6, e5, sa_ne (by omega), sa_ne (by omega), p4 i (by omega), p3, if_neg (by omega)]
      have A6 : AM S6 _ := AM_fr A4 (by rw [e6, su_nj (by omega), e5, sa_ne (by omega)]) (by rw [e6, su_nj (by omega), e5, sa_ne (by omega)]) (by rw [e6, e5, sa_ne (by omega), sa_ne (by omega)])
      exact mp_goL hm hn hG hx hy hV hk hd hc e (z + 1) _ S6 (by omega) m6 (RuM_fz hU g6) (fun i hi => by rw [p6 i hi]; exact hp i hi) A6 (fun S8 a8 c8 d8 f8 => kk S8 a8 (fun i hi => by rw [c8 i hi, p6 i hi]) d8 (fz_tr g6 f8))
theorem mp_bst_l {G : Nat → Int32 → Int32 → Int32 → Int32 → Int32 → Int32 → St → (St → Prop) → Prop} {K : St → Prop} {x1 x2 x3 x5 x6 : Int32} {dp : Nat} (hd : dp ≤ 3) : ∀ (e i : Nat) (S : St), i + e = dp → (∀ S1, (∀ kd i2, kd ≠ 55 → S1.1 kd i2 = S.1 kd i2) → (∀ j, S1.1 55 0 j = if i ≤ j ∧ j < dp then S.1 54 0 j else S.1 55 0 j) → wbX8_lets_84 G K x1 x2 x3 (nI dp) x5 x6 S1) → wbX8_lets_57 G K x1 x2 x3 (nI dp) x5 x6 (e + 1) (nI i) S
  | 0, i, S, e, k => by
    show if nI dp ≤ nI i then _ else _
    rw [if_pos (nI_le (by omega) (by omega))]
    exact k S (fun _ _ _ => rfl) (fun j => by rw [if_neg (by omega)])
  | e + 1, i, S, ee, k => by
    show if nI dp ≤ nI i then _ else _
    have vi : vp_in (nI i) 4 := vp_in_nI (by omega) (by omega)
    rw [if_neg (nI_ge (by omega) (by omega)), nI_clamp (by omega), nI_1]
    refine ⟨vi, vi, fun S2 e2 => mp_bst_l hd e (i + 1) S2 (by omega) (fun S3 a b => k S3 (fun kd i2 w => ?_) (fun j => ?_))⟩
    · rw [a kd i2 w, e2, sa_ne (by omega)]
    · rw [b j, e2, sa_ne (by omega), sa_eq, upd_rd]
      by_cases c1 : i + 1 ≤ j ∧ j < dp
      · rw [if_pos c1, if_pos (by omega)]
      · rw [if_neg c1]
        by_cases c2 : j = i
        · subst c2; rw [if_pos rfl, if_pos (by omega)]
        · rw [if_neg c2, if_neg (by omega)]
theorem mp_go (hm : m ≤ 4) (hn : n ≤ 4) (hx : x < m) (hy : y < n) : ∀ d, GoM m n r U x y so d
  | 0 => fun T p dp co k a S K _ _ _ _ _ _ _ h _ => by omega
  | d + 1 => fun T p dp co k a S K hT hV hU hp hA hk hd hc kk => by
    show wpX8_lets (wpG4 d) (nI x) (nI y) so (nI dp) co (nI k) S K
    unfold wpX8_lets
    rw [goF_s] at kk
    have rest : ∀ (a1 : Ac) (S1 : St), a1 = (bif mayB m T x y && betB so dp co a then (nI dp, co, p) else a) → fz S S1 → RM S1 m n r T → S1.1 54 0 = S.1 54 0 → AM S1 a1 → wbX8_lets_84 (wpG4 d) K (nI x) (nI y) so (nI dp) co (nI k) S1 := by
      intro a1 S1 e1 f1 t1 c54 A1
      subst e1
      exact ⟨n + 1, mp_goL hm hn (mp_go hm hn hx hy d) hx hy hV hk hd (by omega) n 0 _ S1 (by omega) t1 (RuM_fz hU f1) (fun i hi => by rw [c54]; exact hp i hi) A1 (fun S2 a2 c2 d2 f2 => kk S2 a2 (fun i hi => by rw [c2 i hi, c54]) d2 (fz_tr f1 f2))⟩
    refine mp_mayAsk hT hm hn hx hy (bI_if (fun w => rest a S (by simp [w]) (fz_rfl S) hT rfl hA) (fun w => ?_))
    have keep : betB so dp co a = true → wbX8_lets_42 (wpG4 d) K (nI x) (nI y) so (nI dp) co (nI k) S := by
      intro wb S7 e7 S8 e8
      refine ⟨dp + 1, mp_bst_l (by omega) dp 0 S8 (by omega) (fun S9 a9 b9 => ?_)⟩
      have f9 : fz S S9 := fz_tr (S1 := S8) (by rw [e8, e7]; exact fz_40 (fz_40 (fz_rfl _))) ⟨fun kd i w => a9 kd i (by unfold cz at w; omega), fun j _ => by rw [a9 40 0 (by omega)]⟩
      refine rest (nI dp, co, p) S9 (by simp [w, wb]) f9 ?_ ?_ ?_
      · refine (RM_eq (fun kd a b => ?_) (fun j hj => ?_)).mpr hT
        · rw [a9 kd 0 (by omega), e8, e7, sa_ne (by omega), sa_ne (by omega)]
        · rw [a9 40 0 (by omega), e8, su_nj (by omega), e7, su_nj (by omega)]
      · rw [a9 54 0 (by omega), e8, e7, sa_ne (by omega), sa_ne (by omega)]
      · refine ⟨?_, Or.inr ⟨dp, by omega, rfl, ?_, fun i hi => ?_⟩⟩
        · rw [a9 40 0 (by omega), e8, su_nj (by omega), e7, su_eq]
        · rw [a9 40 0 (by omega), e8, su_eq]
        · rw [b9, if_pos (by omega), e8, e7, sa_ne (by omega), sa_ne (by omega)]
          exact hp i hi
    obtain ⟨A38, hA2⟩ := id hA
    rw [A38]
    by_cases n1 : a.1 = -1
    · rw [if_pos n1]
      exact keep (by simp [betB, n1])
    · rw [if_neg n1]
      obtain ⟨q, hq, a1, a4, a5⟩ := hA2.resolve_left n1
      rw [a4]
      by_cases s0 : so = 0
      · rw [if_pos s0]
        by_cases c1 : a.1 ≤ nI dp
        · rw [if_pos c1]
          exact rest a S (by simp [betB, n1, s0, c1]) (fz_rfl S) hT rfl hA
        · rw [if_neg c1]
          exact keep (by unfold betB; rw [if_pos s0, decide_eq_false c1, decide_eq_false n1]; rfl)
      · rw [if_neg s0]
        by_cases c1 : a.2.1 ≤ co
        · rw [if_pos c1]
          exact rest a S (by simp [betB, n1, s0, c1]) (fz_rfl S) hT rfl hA
        · rw [if_neg c1]
          exact keep (by unfold betB; rw [if_neg s0, decide_eq_false c1, decide_eq_false n1]; rfl)
theorem fold_id {A : Type} {g : Nat → A → A} {a : A} (h : ∀ z, g z a = a) : ∀ d z, foldZ g d z a = a
  | 0, _ => rfl
  | d + 1, z => by unfold foldZ; rw [h z]; exact fold_id h d (z + 1)
theorem goF_no : ∀ (d : Nat) (T : Tn) (p : Nat → Int32) (dp : Nat) (co : Int32) (k : Nat) (a : Ac), ¬ (T 2 x = -1 ∧ husU (T 2) (nI y) m 0 = -1) → goF m n U x y so d T p dp co k a = a
  | 0, _, _, _, _, _, _, _ => rfl
  | d + 1, T, p, dp, co, k, a, h => by
    have hm : mayB m T x y = false := by
      unfold mayB
      by_cases q : T 2 x = -1
      · have q2 : ¬ husU (T 2) (nI y) m 0 = -1 := fun w => h ⟨q, w⟩
        simp [q2]
      · simp [q]
    rw [goF_s, hm]
    refine fold_id (fun z => ?_) n 0
    have e2 : endT T x z false 2 = T 2 := by
      funext j
      unfold endT
      rw [setT_na (by omega)]
      exact setT_na (by omega)
    have := goF_no d (endT T x z false) (upd p dp (nI z)) (dp + 1) (co + prcF (T 3 z) (T 4 z)) (k ||| 2 ^ z) a (by rw [e2]; exact h)
    show (bif _ then goF m n U x y so d _ _ _ _ _ a else a) = a
    rw [this]
    cases !k.testBit z && mayB m T x z && noB U T x z (T 1 x) <;> rfl
end
def wayA (a : Ac) (i : Nat) : Int32 := if a.1 = -1 then -1 else if i = 0 then a.1 else if i = 1 then a.2.1 else if a.1 ≤ nI (i - 2) then -1 else a.2.2 (i - 2)
section
variable {S : St} {F : Int32 → St → Prop} {K : St → Prop} {a b c d e : Int32}
theorem call_way (R : Rel S) (hK : ∀ S1, Rel S1 → K S1) (hF : Hm F (wpX8_way a b c d) K) : wpX7_way a b c d S F := by
  obtain ⟨m, n, r, T, k, V, R⟩ := R
  have hR : Rel S := ⟨m, n, r, T, k, V, R⟩
  obtain ⟨hT, hJ, hM, hV, h2, hr, h3, h4, h5⟩ := id R
  obtain ⟨⟨hm, hn, _⟩, ⟨e0, e1, e2, e3⟩, fA, fC, fB⟩ := id hT
  obtain ⟨⟨g0, g1, g2, g3⟩, gA, gC, gB⟩ := id hM
  unfold wpX7_way
  by_cases c1 : (∃ i, i < m ∧ a = nI i) ∧ ∃ i, i < n ∧ b = nI i
  · obtain ⟨⟨x, hx, rfl⟩, y, hy, rfl⟩ := id c1
    refine pair1 e0 e1 hm hn hx hy ?_
    rw [if_neg nfi]
    by_cases cc : 0 ≤ c ∧ c ≤ 1
    · refine w1 cc ?_
      rw [if_neg nfi]
      by_cases cd : 0 ≤ d ∧ d ≤ 5
      · refine w1 cd ?_
        rw [if_neg nfi]
        obtain ⟨i, _, hi, rfl⟩ := in_nI (a := 0) (b := 5) (by omega) cd (by omega)
        refine sp_resemble (by omega) hT (fun S1 t1 _ W1 z4 z5 S2 e2' => ?_)
        obtain ⟨b1, b2, b3⟩ := bt_1 y (by omega)
        rw [b1]
        have f1 : fk S S1 := ⟨⟨fun kd i w => W1 kd i (by unfold cz at w; omega), fun j _ => by rw [W1 40 0 (by omega)]⟩, fun kd i w => W1 kd i (by omega), by rw [W1 40 0 (by omega)]⟩
        have f2 : fk S S2 := by rw [e2']; exact fk_sa f1
        have t2 : RT S2 1 m n r T := by rw [e2']; exact RT_fr t1 (fun kd a b => sa_ne (by omega))
        refine sp_go (U := V r) hx hy 8 T (fun _ => 0) 0 0 (2 ^ y) (-1, 0, fun _ => 0) S2 _ t2 hV (RuC_fz (h2.2.2 r hr).1 f2.1) (by rw [e2', sa_ne (by omega)]; exact z5) (fun i hi => by omega) (Or.inl ⟨rfl, by rw [e2', su_eq]⟩) b3 (by omega) (by omega) (fun S3 t3 _ _ A3 f3 => ?_)
        have f23 := fk_tr f2 f3
        have m3 := RM_fk hM f23
        have R3 := Rel_q R f23.1 m3
        have md : wpX8_way (nI x) (nI y) c (nI i) S3 (fun r2 S4 => if wayA (goF m n (V r) x y c 8 T (fun _ => 0) 0 0 (2 ^ y) (-1, 0, fun _ => 0)) i = r2 then K S4 else False) := by
          unfold wpX8_way
          refine mman1 m3.1.1 hm hx ?_
          rw [if_neg nfi]
          refine mmaid1 m3.1.2.1 hn hy ?_
          rw [if_neg nfi]
          refine v1 cc ?_
          rw [if_neg nfi]
          refine v1 cd ?_
          rw [if_neg nfi]
          intro S4 e4
          have m4 : RM S4 m n r T := by rw [e4]; exact (RM_eq (fun kd a b => sa_ne (by omega)) (fun j hj => by rw [su_nj (by omega)])).mpr m3
          have f4 : fz S3 S4 := by rw [e4]; exact fz_40 (fz_rfl _)
          have fin : ∀ S5, RM S5 m n r T → fz S4 S5 → AM S5 (goF m n (V r) x y c 8 T (fun _ => 0) 0 0 (2 ^ y) (-1, 0, fun _ => 0)) → wbX8_way_77 (fun r2 S4 => if wayA (goF m n (V r) x y c 8 T (fun _ => 0) 0 0 (2 ^ y) (-1, 0, fun _ => 0)) i = r2 then K S4 else False) (nI i) S5 := by
            intro S5 m5 f5 A5
            have kR : K S5 := hK _ ⟨m, n, r, T, k, V, Rel_q R3 (fz_tr f4 f5) m5⟩
            generalize goF m n (V r) x y c 8 T (fun _ => 0) 0 0 (2 ^ y) (-1, 0, fun _ => 0) = ac at A5 ⊢
            unfold wbX8_way_77 wbX8_way_90
            obtain ⟨A1, A2⟩ := A5
            rw [A1]
            by_cases n1 : ac.1 = -1
            · rw [if_pos n1, show wayA ac i = -1 by unfold wayA; rw [if_pos n1], n1]; exact same kR
            rw [if_neg n1]
            obtain ⟨q, hq, q1, q2, q3⟩ := A2.resolve_left n1
            rcases (show i = 0 ∨ i = 1 ∨ 2 ≤ i by omega) with rfl | rfl | hi2
            · rw [if_pos (by decide), show wayA ac 0 = ac.1 by unfold wayA; rw [if_neg n1, if_pos rfl]]; exact same kR
            · rw [if_neg (by decide), if_pos (by decide), q2, show wayA ac 1 = ac.2.1 by unfold wayA; rw [if_neg n1, if_neg (by omega), if_pos rfl]]; exact same kR
            · have q0 : ∀ z : Nat, z < 2 → ¬ nI i = nI z := fun z hz w => by have := (nI_eq (by omega) (by omega)).mp w; omega
              rw [if_neg (show ¬ nI i = 0 from q0 0 (by omega)), if_neg (show ¬ nI i = 1 from q0 1 (by omega)), show nI i - 2 = nI (i - 2) from pk_sub (b := 2) hi2]
              by_cases q4 : ac.1 ≤ nI (i - 2)
              · rw [if_pos q4, show wayA ac i = -1 by unfold wayA; rw [if_neg n1, if_neg (by omega), if_neg (by omega), if_pos q4]]; exact same kR
              · rw [if_neg q4, show wayA ac i = ac.2.2 (i - 2) by unfold wayA; rw [if_neg n1, if_neg (by omega), if_neg (by omega), if_neg q4], nI_clamp (by omega)]
                refine ⟨vp_in_nI (by omega) (by omega), ?_⟩
                rw [q1, nI_leI (by omega) (by omega)] at q4
                rw [q3 _ (by omega)]; exact same kR
          have none : ¬ (T 2 x = -1 ∧ husU (T 2) (nI y) m 0 = -1) → wbX8_way_77 (fun r2 S4 => if wayA (goF m n (V r) x y c 8 T (fun _ => 0) 0 0 (2 ^ y) (-1, 0, fun _ => 0)) i = r2 then K S4 else False) (nI i) S4 := by
            intro hno
            refine fin S4 m4 (fz_rfl _) ?_
            rw [goF_no 8 T _ _ _ _ _ hno]
            exact ⟨by rw [e4, su_eq], Or.inl rfl⟩
          rw [nI_clamp (by omega), nI_clamp (by omega), (m4.2.1 x hx).2, (m4.2.2.1 y hy).2.2]
          refine ⟨vp_in_nI (by omega) (by omega), ?_⟩
          by_cases w1 : T 2 x = -1
          · rw [if_pos w1]
            refine ⟨vp_in_nI (by omega) (by omega), ?_⟩
            by_cases w2 : husU (T 2) (nI y) m 0 = -1
            · rw [if_pos w2]
              refine mp_go (U := V r) (so := c) hm hn hx hy 8 T (fun _ => 0) 0 0 0 (-1, 0, fun _ => 0) S4 _ m4 hV (RuM_fz (R3.2.2.2.2.1.2.2 r hr).2 f4) (fun i hi => by omega) ⟨by rw [e4, su_eq], Or.inl rfl⟩ (by omega) (by rw [Nat.zero_or]; omega) (by rw [Nat.zero_or]; omega) (fun S5 m5 _ A5 f5 => ?_)
              rw [Nat.zero_or] at A5
              exact fin S5 m5 f5 A5
            · rw [if_neg w2]; exact none (fun q => w2 q.2)
          · rw [if_neg w1]; exact none (fun q => w1 q.1)
        have hFv : ∀ v, v = wayA (goF m n (V r) x y c 8 T (fun _ => 0) 0 0 (2 ^ y) (-1, 0, fun _ => 0)) i → F v S3 := fun v ev => hF _ _ (by rw [ev]; exact md)
        generalize goF m n (V r) x y c 8 T (fun _ => 0) 0 0 (2 ^ y) (-1, 0, fun _ => 0) = ac at A3 hFv
        show if S3.1 26 0 1 = 0 then _ else _
        rcases A3 with ⟨a1, a2⟩ | ⟨q, hq, a1, a2, a3, a4, a5⟩
        · rw [a2, if_pos rfl]
          exact hFv _ (by unfold wayA; rw [if_pos a1])
        · have n1 : ¬ ac.1 = -1 := by rw [a1]; exact nI_nm1 (by omega)
          rw [a2, if_neg nfi, a3, a4]
          rcases (show i = 0 ∨ i = 1 ∨ 2 ≤ i by omega) with rfl | rfl | hi2
          · rw [if_pos (by decide)]
            exact hFv _ (by unfold wayA; rw [if_neg n1, if_pos rfl, a1])
          · rw [if_neg (by decide), if_pos (by decide)]
            exact hFv _ (by unfold wayA; rw [if_neg n1, if_neg (by omega), if_pos rfl])
          · have q0 : ∀ z : Nat, z < 2 → ¬ nI i = nI z := fun z hz w => by have := (nI_eq (by omega) (by omega)).mp w; omega
            rw [if_neg (show ¬ nI i = 0 from q0 0 (by omega)), if_neg (show ¬ nI i = 1 from q0 1 (by omega)), show nI i - 2 = nI (i - 2) from pk_sub (b := 2) hi2]
            by_cases q4 : nI q ≤ nI (i - 2)
            · rw [if_pos q4]
              exact hFv _ (by unfold wayA; rw [if_neg n1, if_neg (by omega), if_neg (by omega), a1, if_pos q4])
            · rw [if_neg q4, nI_clamp (by omega)]
              refine ⟨vp_in_nI (by omega) (by omega), hFv _ ?_⟩
              unfold wayA
              rw [if_neg n1, if_neg (by omega), if_neg (by omega), a1, if_neg q4]
              rw [nI_leI (by omega) (by omega)] at q4
              exact a5 _ (by omega)
      · refine w0 cd ?_
        rw [if_pos rfl]
        refine hF _ _ ?_
        unfold wpX8_way
        refine mman1 g0 hm hx ?_
        rw [if_neg nfi]
        refine mmaid1 g1 hn hy ?_
        rw [if_neg nfi]
        refine v1 cc ?_
        rw [if_neg nfi]
        refine v0 cd ?_
        rw [if_pos rfl]
        exact same (hK _ hR)
    · refine w0 cc ?_
      rw [if_pos rfl]
      refine hF _ _ ?_
      unfold wpX8_way
      refine mman1 g0 hm hx ?_
      rw [if_neg nfi]
      refine mmaid1 g1 hn hy ?_
      rw [if_neg nfi]
      refine v0 cc ?_
      rw [if_pos rfl]
      exact same (hK _ hR)
  · refine pair0 e0 e1 hm hn c1 ?_
    rw [if_pos rfl]
    refine hF _ _ ?_
    unfold wpX8_way
    by_cases c0 : ∃ i, i < m ∧ a = nI i
    · obtain ⟨x, hx, rfl⟩ := id c0
      refine mman1 g0 hm hx ?_
      rw [if_neg nfi]
      refine mmaid0 g1 hn (fun q => c1 ⟨c0, q⟩) ?_
      rw [if_pos rfl]
      exact same (hK _ hR)
    · refine mman0 g0 hm c0 ?_
      rw [if_pos rfl]
      exact same (hK _ hR)
end
