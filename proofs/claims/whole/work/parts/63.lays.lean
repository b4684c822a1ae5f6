/-! frames of longer questions; what the reference lays aside, and lays back; the end of an asking in thought -/
def fk (S S1 : St) : Prop := fz S S1 ∧ (∀ kd i, 41 ≤ kd → S1.1 kd i = S.1 kd i) ∧ S1.1 40 0 16 = S.1 40 0 16
def fl (S S1 : St) : Prop := fz S S1 ∧ (∀ kd, kd = 44 ∨ kd = 45 ∨ (49 ≤ kd ∧ kd ≤ 53) → S1.1 kd 0 = S.1 kd 0) ∧ S1.1 40 0 35 = S.1 40 0 35
theorem fk_rfl (S : St) : fk S S := ⟨fz_rfl S, fun _ _ _ => rfl, rfl⟩
theorem fl_rfl (S : St) : fl S S := ⟨fz_rfl S, fun _ _ => rfl, rfl⟩
theorem fk_tr {S S1 S2 : St} (h : fk S S1) (g : fk S1 S2) : fk S S2 := ⟨fz_tr h.1 g.1, fun kd i w => (g.2.1 kd i w).trans (h.2.1 kd i w), g.2.2.trans h.2.2⟩
theorem fl_tr {S S1 S2 : St} (h : fl S S1) (g : fl S1 S2) : fl S S2 := ⟨fz_tr h.1 g.1, fun kd w => (g.2.1 kd w).trans (h.2.1 kd w), g.2.2.trans h.2.2⟩
theorem fk_fq {S S1 : St} (h : fq S S1) : fk S S1 := ⟨fz_fq h, fun kd i w => h.1 kd i (by omega) (by omega) (by omega), h.2 16 (by omega)⟩
theorem fl_fq {S S1 : St} (h : fq S S1) : fl S S1 := ⟨fz_fq h, fun kd w => h.1 kd 0 (by omega) (by omega) (by omega), h.2 35 (by omega)⟩
theorem fk_sa {S S1 : St} {kd i : Nat} {f : Nat → Int32} (h : fk S S1) (hk : ¬ cz kd i := by unfold cz; omega) (h40 : kd < 40 := by omega) : fk S (sa S1 kd i f) := ⟨fz_sa h.1 hk (by omega), fun kd2 i2 w => by rw [sa_ne (by omega)]; exact h.2.1 kd2 i2 w, by rw [sa_ne (by omega)]; exact h.2.2⟩
theorem RM_fk {S S1 : St} {m n r : Nat} {T : Tn} (h : RM S m n r T) (f : fk S S1) : RM S1 m n r T := (RM_eq (fun kd a b => f.2.1 kd 0 (by omega)) (fun j hj => by rcases hj with rfl | rfl | rfl | rfl <;> first | exact f.2.2 | exact f.1.2 _ (by omega))).mpr h
theorem RuC_fz {S S1 : St} {r : Nat} {U : Rl} (h : RuC S r U) (g : fz S S1) : RuC S1 r U := RuC_fr h (g.1 7 r (by unfold cz; omega)) (g.1 8 r (by unfold cz; omega))
theorem RuM_fz {S S1 : St} {r : Nat} {U : Rl} (h : RuM S r U) (g : fz S S1) : RuM S1 r U := RuM_fr h (fun j _ => by rw [g.1 41 0 (by unfold cz; omega)]) (by rw [g.1 42 0 (by unfold cz; omega)])
theorem RT0_fz {S S1 : St} {m n r : Nat} {T : Tn} (h : RT S 0 m n r T) (g : fz S S1) : RT S1 0 m n r T := RT_fr h (fun kd a b => g.1 kd 0 (by unfold cz; omega))
theorem RM_pl {S S1 : St} {m n r : Nat} {T : Tn} (hm : m ≤ 4) (hn : n ≤ 4) (h : RM S m n r T) (g : ∀ kd j, 46 ≤ kd → kd ≤ 50 → j < 4 → S1.1 kd 0 j = S.1 kd 0 j) (f : ∀ kd j, 44 ≤ kd → kd ≤ 45 → j < 16 → S1.1 kd 0 j = S.1 kd 0 j) (e : ∀ j, (j = 4 ∨ j = 7 ∨ j = 8 ∨ j = 16) → S1.1 40 0 j = S.1 40 0 j) : RM S1 m n r T := by
  obtain ⟨⟨g0, g1, g2, g3⟩, gA, gC, gB⟩ := h
  refine ⟨⟨(e 7 (by omega)).trans g0, (e 8 (by omega)).trans g1, (e 16 (by omega)).trans g2, (e 4 (by omega)).trans g3⟩, fun x hx => ?_, fun y hy => ?_, fun x y hx hy => ?_⟩
  · rw [g 46 x (by omega) (by omega) (by omega), g 47 x (by omega) (by omega) (by omega)]; exact gA x hx
  · rw [g 48 y (by omega) (by omega) (by omega), g 49 y (by omega) (by omega) (by omega), g 50 y (by omega) (by omega) (by omega)]; exact gC y hy
  · rw [f 44 _ (by omega) (by omega) (by omega), f 45 _ (by omega) (by omega) (by omega)]; exact gB x y hx hy
theorem mp_asd_l {K : St → Prop} : ∀ (d i : Nat) (S : St), i + d = 4 → (∀ S1, (∀ kd i, kd ≠ 40 → ¬ (51 ≤ kd ∧ kd ≤ 53) → S1.1 kd i = S.1 kd i) → (∀ j, j ≠ 35 → S1.1 40 0 j = S.1 40 0 j) → S1.1 40 0 35 = S.1 40 0 16 → (∀ j, S1.1 51 0 j = (if i ≤ j ∧ j < 4 then S.1 46 0 j else S.1 51 0 j) ∧ S1.1 52 0 j = (if i ≤ j ∧ j < 4 then S.1 47 0 j else S.1 52 0 j) ∧ S1.1 53 0 j = (if i ≤ j ∧ j < 4 then S.1 48 0 j else S.1 53 0 j)) → K S1) → wbX8_laysAside_2 K (d + 1) (nI i) S
  | 0, i, S, e, k => by
    show if (4 : Int32) ≤ nI i then _ else _
    rw [if_pos (by rw [lit32 4]; exact nI_le (by omega) (by omega))]
    intro S2 e2
    refine k S2 (fun kd i w _ => by rw [e2, sa_ne (by omega)]) (fun j hj => by rw [e2, su_nj hj]) (by rw [e2, su_eq]) (fun j => ?_)
    rw [if_neg (by omega), if_neg (by omega), if_neg (by omega), e2, sa_ne (by omega), sa_ne (by omega), sa_ne (by omega)]
    exact ⟨rfl, rfl, rfl⟩
  | d + 1, i, S, e, k => by
    show if (4 : Int32) ≤ nI i then _ else _
    have vi : vp_in (nI i) 4 := vp_in_nI (by omega) (by omega)
    rw [if_neg (by rw [lit32 4]; exact nI_ge (by omega) (by omega)), nI_clamp (by omega), nI_1]
    refine ⟨vi, vi, fun S4 e4 => ⟨vi, vi, fun S6 e6 => ⟨vi, vi, fun S8 e8 => mp_asd_l d (i + 1) S8 (by omega) (fun S1 a b c p => ?_)⟩⟩⟩
    have W : ∀ kd i, ¬ (51 ≤ kd ∧ kd ≤ 53) → S8.1 kd i = S.1 kd i := fun kd i w => by rw [e8, e6, e4, sa_ne (by omega), sa_ne (by omega), sa_ne (by omega)]
    refine k S1 (fun kd i w w2 => by rw [a kd i w w2, W kd i w2]) (fun j hj => by rw [b j hj, W 40 0 (by omega)]) (by rw [c, W 40 0 (by omega)]) (fun j => ?_)
    obtain ⟨p1, p2, p3⟩ := p j
    rw [p1, p2, p3]
    by_cases c1 : i + 1 ≤ j ∧ j < 4
    · simp only [if_pos c1, if_pos (show i ≤ j ∧ j < 4 by omega)]
      rw [W 46 0 (by omega), W 47 0 (by omega), W 48 0 (by omega)]
      exact ⟨rfl, rfl, rfl⟩
    · simp only [if_neg c1]
      by_cases c2 : j = i
      · subst c2
        simp only [if_pos (show j ≤ j ∧ j < 4 by omega)]
        rw [e8, e6, e4]
        simp [sa_rd, upd_rd]
      · simp only [if_neg (show ¬ (i ≤ j ∧ j < 4) by omega)]
        rw [e8, e6, e4]
        simp [sa_rd, upd_rd, c2]
theorem mp_bk_l {K : St → Prop} : ∀ (d i : Nat) (S : St), i + d = 4 → (∀ S1, (∀ kd i, kd ≠ 40 → ¬ (46 ≤ kd ∧ kd ≤ 48) → S1.1 kd i = S.1 kd i) → (∀ j, j ≠ 16 → S1.1 40 0 j = S.1 40 0 j) → S1.1 40 0 16 = S.1 40 0 35 → (∀ j, S1.1 46 0 j = (if i ≤ j ∧ j < 4 then S.1 51 0 j else S.1 46 0 j) ∧ S1.1 47 0 j = (if i ≤ j ∧ j < 4 then S.1 52 0 j else S.1 47 0 j) ∧ S1.1 48 0 j = (if i ≤ j ∧ j < 4 then S.1 53 0 j else S.1 48 0 j)) → K S1) → wbX8_laysBack_2 K (d + 1) (nI i) S
  | 0, i, S, e, k => by
    show if (4 : Int32) ≤ nI i then _ else _
    rw [if_pos (by rw [lit32 4]; exact nI_le (by omega) (by omega))]
    intro S2 e2
    refine k S2 (fun kd i w _ => by rw [e2, sa_ne (by omega)]) (fun j hj => by rw [e2, su_nj hj]) (by rw [e2, su_eq]) (fun j => ?_)
    rw [if_neg (by omega), if_neg (by omega), if_neg (by omega), e2, sa_ne (by omega), sa_ne (by omega), sa_ne (by omega)]
    exact ⟨rfl, rfl, rfl⟩
  | d + 1, i, S, e, k => by
    show if (4 : Int32) ≤ nI i then _ else _
    have vi : vp_in (nI i) 4 := vp_in_nI (by omega) (by omega)
    rw [if_neg (by rw [lit32 4]; exact nI_ge (by omega) (by omega)), nI_clamp (by omega), nI_1]
    refine ⟨vi, vi, fun S4 e4 => ⟨vi, vi, fun S6 e6 => ⟨vi, vi, fun S8 e8 => mp_bk_l d (i + 1) S8 (by omega) (fun S1 a b c p => ?_)⟩⟩⟩
    have W : ∀ kd i, ¬ (46 ≤ kd ∧ kd ≤ 48) → S8.1 kd i = S.1 kd i := fun kd i w => by rw [e8, e6, e4, sa_ne (by omega), sa_ne (by omega), sa_ne (by omega)]
    refine k S1 (fun kd i w w2 => by rw [a kd i w w2, W kd i w2]) (fun j hj => by rw [b j hj, W 40 0 (by omega)]) (by rw [c, W 40 0 (by omega)]) (fun j => ?_)
    obtain ⟨p1, p2, p3⟩ := p j
    rw [p1, p2, p3]
    by_cases c1 : i + 1 ≤ j ∧ j < 4
    · simp only [if_pos c1, if_pos (show i ≤ j ∧ j < 4 by omega)]
      rw [W 51 0 (by omega), W 52 0 (by omega), W 53 0 (by omega)]
      exact ⟨rfl, rfl, rfl⟩
    · simp only [if_neg c1]
      by_cases c2 : j = i
      · subst c2
        simp only [if_pos (show j ≤ j ∧ j < 4 by omega)]
        rw [e8, e6, e4]
        simp [sa_rd, upd_rd]
      · simp only [if_neg (show ¬ (i ≤ j ∧ j < 4) by omega)]
        rw [e8, e6, e4]
        simp [sa_rd, upd_rd, c2]
/-- laid aside: what comes back -/
def aside (S S1 : St) : Prop := (∀ j, j < 4 → S1.1 51 0 j = S.1 46 0 j ∧ S1.1 52 0 j = S.1 47 0 j ∧ S1.1 53 0 j = S.1 48 0 j) ∧ S1.1 40 0 35 = S.1 40 0 16 ∧ (∀ kd, kd = 44 ∨ kd = 45 ∨ kd = 49 ∨ kd = 50 → S1.1 kd 0 = S.1 kd 0) ∧ ∀ j, j < 16 → S1.1 40 0 j = S.1 40 0 j
theorem aside_fl {S S1 S2 : St} (h : aside S S1) (f : fl S1 S2) : aside S S2 := by
  obtain ⟨a, b, c, d⟩ := h
  refine ⟨fun j hj => ?_, by rw [f.2.2, b], fun kd w => (f.2.1 kd (by omega)).trans (c kd w), fun j hj => (f.1.2 j (by omega)).trans (d j hj)⟩
  rw [f.2.1 51 (by omega), f.2.1 52 (by omega), f.2.1 53 (by omega)]
  exact a j hj
theorem mp_aside {S : St} {K : St → Prop} (k : ∀ S1, aside S S1 → fz S S1 → (∀ kd, 44 ≤ kd → kd ≤ 50 → S1.1 kd 0 = S.1 kd 0) → S1.1 40 0 16 = S.1 40 0 16 → K S1) : wpX8_laysAside S K :=
  ⟨5, mp_asd_l 4 0 S (by omega) (fun S1 a b c p => k S1 ⟨fun j hj => by have := p j; rwa [if_pos (by omega), if_pos (by omega), if_pos (by omega)] at this, c, fun kd w => a kd 0 (by omega) (by omega), fun j hj => b j (by omega)⟩ ⟨fun kd i w => a kd i (by unfold cz at w; omega) (by unfold cz at w; omega), fun j hj => b j (by omega)⟩ (fun kd w1 w2 => a kd 0 (by omega) (by omega)) (b 16 (by omega)))⟩
theorem mp_lback {S S0 : St} {m n r : Nat} {T : Tn} {K : St → Prop} (hm : m ≤ 4) (hn : n ≤ 4) (h : RM S0 m n r T) (ha : aside S0 S) (k : ∀ S1, RM S1 m n r T → fz S S1 → K S1) : wpX8_laysBack S K :=
  ⟨5, mp_bk_l 4 0 S (by omega) (fun S1 a b c p => k S1 (RM_pl hm hn h (fun kd j w1 w2 hj => by
      obtain ⟨p1, p2, p3⟩ := p j
      rw [if_pos (by omega)] at p1 p2 p3
      obtain ⟨q1, q2, q3⟩ := ha.1 j hj
      rcases (show kd = 46 ∨ kd = 47 ∨ kd = 48 ∨ kd = 49 ∨ kd = 50 by omega) with rfl | rfl | rfl | rfl | rfl
      · exact p1.trans q1
      · exact p2.trans q2
      · exact p3.trans q3
      · rw [a 49 0 (by omega) (by omega), ha.2.2.1 49 (by omega)]
      · rw [a 50 0 (by omega) (by omega), ha.2.2.1 50 (by omega)]) (fun kd j w1 w2 _ => by rw [a kd 0 (by omega) (by omega), ha.2.2.1 kd (by omega)]) (fun j hj => by
      rcases hj with rfl | rfl | rfl | rfl
      · rw [b 4 (by omega), ha.2.2.2 4 (by omega)]
      · rw [b 7 (by omega), ha.2.2.2 7 (by omega)]
      · rw [b 8 (by omega), ha.2.2.2 8 (by omega)]
      · rw [c, ha.2.1])) ⟨fun kd i w => a kd i (by unfold cz at w; omega) (by unfold cz at w; omega), fun j hj => b j (by omega)⟩)⟩
section
variable {t m n r : Nat} {T : Tn} {U : Rl} {x y : Nat}
theorem sp_asking {S : St} {K : Int32 → St → Prop} (h : RT S 1 m n r T) (hU : RuC S r U) (hx : x < m) (hy : y < n) (k : ∀ S1, RT S1 1 m n r (endT T x y (!noB U T x y (T 1 x))) → fk S S1 → S1.1 10 1 4 = S.1 10 1 4 + 1 → S1.1 10 1 5 = (bif !noB U T x y (T 1 x) then S.1 10 1 5 else S.1 10 1 5 + prcF (T 3 y) (T 4 y)) → K (bI (!noB U T x y (T 1 x))) S1) : wpX5_asking 1 (nI x) (nI y) S K := by
  unfold wpX5_asking
  refine sp_saysNo h hU hx hy (fun S1 f1 => ?_)
  have fin : ∀ v : Bool, v = (!noB U T x y (T 1 x)) → wbX5_asking_14 1 K (nI x) (nI y) (bI v) S1 := by
    intro v ev
    rw [← ev] at k
    unfold wbX5_asking_14
    refine sp_end (RT_fq h f1) hx hy (fun S2 t2 W2 _ a2 b2 => ⟨by cases v <;> decide, k S2 t2 (fk_tr (fk_fq f1) ⟨⟨fun kd i w => W2 kd i (by unfold cz at w; omega), fun j _ => by rw [W2 40 0 (by omega)]⟩, fun kd i w => W2 kd i (by omega), by rw [W2 40 0 (by omega)]⟩) (by rw [a2, f1.1 10 1 (by omega) (by omega) (by omega)]) (by rw [b2, f1.1 10 1 (by omega) (by omega) (by omega)])⟩)
  cases w3 : noB U T x y (T 1 x)
  · exact fin true (by rw [w3]; rfl)
  · exact fin false (by rw [w3]; rfl)
theorem mp_end_l {S : St} {b : Bool} {K : St → Prop} (h : RM S m n r T) (hV : VT m n T) (hm : m ≤ 4) (hn : n ≤ 4) (hx : x < m) (hy : y < n) (hb : mayB m T x y = true) (k : ∀ S1, RM S1 m n r (endT T x y b) → fl S S1 → K S1) : wpX8_answers (nI x) (nI y) (bI (!b)) S K :=
  mp_end h hV hm hn hx hy (fun _ => may_no hb hm) (fun S1 m1 W1 W40 => k S1 m1 ⟨⟨fun kd i w => W1 kd i (by unfold cz at w; omega) (by unfold cz at w; omega), fun j hj => W40 j (by omega)⟩, fun kd w => W1 kd 0 (by omega) (by omega), W40 35 (by omega)⟩)
end
