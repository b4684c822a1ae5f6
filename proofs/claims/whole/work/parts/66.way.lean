/-! way -/
def cntZ (k : Nat) : Nat := (bif k.testBit 0 then 0 else 1) + (bif k.testBit 1 then 0 else 1) + (bif k.testBit 2 then 0 else 1) + (bif k.testBit 3 then 0 else 1)
theorem bt_c : ∀ k, k < 16 → ∀ z, z < 4 → ((nI k >>> (nI z &&& 31)) &&& 1) = bI (k.testBit z) := by decide +kernel
theorem bt_or : ∀ k, k < 16 → ∀ z, z < 4 → nI k ||| ((1 : Int32) <<< (nI z &&& 31)) = nI (k ||| 2 ^ z) ∧ (k ||| 2 ^ z) < 16 ∧ (k.testBit z = false → cntZ (k ||| 2 ^ z) + 1 = cntZ k) := by decide +kernel
theorem bt_1 : ∀ z, z < 4 → (1 : Int32) <<< (nI z &&& 31) = nI (2 ^ z) ∧ cntZ (2 ^ z) = 3 ∧ 2 ^ z < 16 := by decide +kernel
def foldZ {A : Type} (g : Nat → A → A) : Nat → Nat → A → A
  | 0, _, a => a
  | d + 1, z, a => foldZ g d (z + 1) (g z a)
abbrev Ac := Int32 × Int32 × (Nat → Int32)
def betB (so : Int32) (dp : Nat) (co : Int32) (a : Ac) : Bool := decide (a.1 = -1) || (if so = 0 then !decide (a.1 ≤ nI dp) else !decide (a.2.1 ≤ co))
def goF (m n : Nat) (U : Rl) (x y : Nat) (so : Int32) : Nat → Tn → (Nat → Int32) → Nat → Int32 → Nat → Ac → Ac
  | 0, _, _, _, _, _, a => a
  | d + 1, T, p, dp, co, k, a => foldZ (fun z a => bif !k.testBit z && mayB m T x z && noB U T x z (T 1 x) then goF m n U x y so d (endT T x z false) (upd p dp (nI z)) (dp + 1) (co + prcF (T 3 z) (T 4 z)) (k ||| 2 ^ z) a else a) n 0 (bif mayB m T x y && betB so dp co a then (nI dp, co, p) else a)
def stpF (m n : Nat) (U : Rl) (x y : Nat) (so : Int32) (d : Nat) (T : Tn) (p : Nat → Int32) (dp : Nat) (co : Int32) (k : Nat) : Nat → Ac → Ac := fun z a => bif !k.testBit z && mayB m T x z && noB U T x z (T 1 x) then goF m n U x y so d (endT T x z false) (upd p dp (nI z)) (dp + 1) (co + prcF (T 3 z) (T 4 z)) (k ||| 2 ^ z) a else a
theorem goF_s {m n : Nat} {U : Rl} {x y : Nat} {so : Int32} {d : Nat} {T : Tn} {p : Nat → Int32} {dp : Nat} {co : Int32} {k : Nat} {a : Ac} : goF m n U x y so (d + 1) T p dp co k a = foldZ (stpF m n U x y so d T p dp co k) n 0 (bif mayB m T x y && betB so dp co a then (nI dp, co, p) else a) := rfl
def AC (S : St) (a : Ac) : Prop := (a.1 = -1 ∧ S.1 26 0 1 = 0) ∨ ∃ q, q < 4 ∧ a.1 = nI q ∧ S.1 26 0 1 = 1 ∧ S.1 26 0 2 = nI q ∧ S.1 26 0 3 = a.2.1 ∧ ∀ i, i < q → S.1 27 0 i = a.2.2 i
def AM (S : St) (a : Ac) : Prop := S.1 40 0 38 = a.1 ∧ (a.1 = -1 ∨ ∃ q, q < 4 ∧ a.1 = nI q ∧ S.1 40 0 39 = a.2.1 ∧ ∀ i, i < q → S.1 55 0 i = a.2.2 i)
theorem AC_fr {S S1 : St} {a : Ac} (h : AC S a) (g : S1.1 26 0 = S.1 26 0) (f : S1.1 27 0 = S.1 27 0) : AC S1 a := by unfold AC at h ⊢; rw [g, f]; exact h
theorem AM_fr {S S1 : St} {a : Ac} (h : AM S a) (g : S1.1 40 0 38 = S.1 40 0 38) (f : S1.1 40 0 39 = S.1 40 0 39) (e : S1.1 55 0 = S.1 55 0) : AM S1 a := by unfold AM at h ⊢; rw [g, f, e]; exact h
theorem setT_set {T : Tn} {a j : Nat} {v w : Int32} : setT (setT T a j v) a j w = setT T a j w := by
  funext b i
  unfold setT
  by_cases h : b = a ∧ i = j
  · rw [if_pos h, if_pos h]
  · rw [if_neg h, if_neg h, if_neg h]
theorem endT_bk {T : Tn} {x y : Nat} : setT (setT (endT T x y false) 1 x (T 1 x)) 0 0 (T 0 0) = T := by
  unfold endT
  show setT (setT (setT (setT T 1 x _) 0 0 _) 1 x _) 0 0 _ = _
  rw [setT_comm (a := 0) (b := 1) (by omega), setT_set, setT_set, setT_self, setT_self]
section
variable {m n r : Nat} {U : Rl} {x y : Nat} {so : Int32}
def GoC (m n r : Nat) (U : Rl) (x y : Nat) (so : Int32) (d : Nat) : Prop := ∀ (T : Tn) (p : Nat → Int32) (dp : Nat) (co : Int32) (k : Nat) (a : Ac) (S : St) (K : St → Prop), RT S 1 m n r T → VT m n T → RuC S r U → S.1 10 1 5 = co → (∀ i, i < dp → S.1 28 0 i = p i) → AC S a → k < 16 → dp + cntZ k ≤ 3 → cntZ k < d →
  (∀ S1, RT S1 1 m n r T → S1.1 10 1 5 = co → (∀ i, i < dp → S1.1 28 0 i = S.1 28 0 i) → AC S1 (goF m n U x y so d T p dp co k a) → fk S S1 → K S1) → wpG1 d 0 1 (nI x) (nI y) so (nI dp) (nI k) S K
theorem sp_goL {d : Nat} {T : Tn} {p : Nat → Int32} {dp : Nat} {co : Int32} {k : Nat} {K : St → Prop} (hG : GoC m n r U x y so d) (hx : x < m) (hV : VT m n T) (hk : k < 16) (hd : dp + cntZ k ≤ 3) (hc : cntZ k < d + 1) : ∀ (e z : Nat) (a : Ac) (S : St), z + e = n → RT S 1 m n r T → RuC S r U → S.1 10 1 5 = co → (∀ i, i < dp → S.1 28 0 i = p i) → AC S a →
    (∀ S1, RT S1 1 m n r T → S1.1 10 1 5 = co → (∀ i, i < dp → S1.1 28 0 i = S.1 28 0 i) → AC S1 (foldZ (stpF m n U x y so d T p dp co k) e z a) → fk S S1 → K S1) → wbX6_goOn_64 (wpG1 d) 1 K (nI x) (nI y) so (nI dp) (nI k) (T 1 x) (T 0 0) co (e + 1) (nI z) S
  | 0, z, a, S, e, hT, hU, h5, hp, hA, kk => by
    have hn := hT.1.2.1
    show if S.1 10 1 1 ≤ nI z then _ else _
    rw [hT.2.1.2.1, if_pos (nI_le (by omega) (by omega))]
    exact kk S hT h5 (fun _ _ => rfl) hA (fk_rfl S)
  | e + 1, z, a, S, ez, hT, hU, h5, hp, hA, kk => by
    have hm := hT.1.1
    have hn := hT.1.2.1
    have vx : vp_in (nI x) 4 := vp_in_nI (by omega) (by omega)
    show if S.1 10 1 1 ≤ nI z then _ else _
    rw [hT.2.1.2.1, if_neg (nI_ge (by omega) (by omega)), bt_c k hk z (by omega)]
    unfold wbX6_goOn_160
    rw [nI_1, nI_1]
    unfold foldZ at kk
    have skip : ∀ S1, fq S S1 → stpF m n U x y so d T p dp co k z a = a → wbX6_goOn_64 (wpG1 d) 1 K (nI x) (nI y) so (nI dp) (nI k) (T 1 x) (T 0 0) co (e + 1) (nI (z + 1)) S1 := by
      intro S1 f1 e1
      rw [e1] at kk
      have c10 : S1.1 10 1 = S.1 10 1 := f1.1 10 1 (by omega) (by omega) (by omega)
      have c28 : S1.1 28 0 = S.1 28 0 := f1.1 28 0 (by omega) (by omega) (by omega)
      exact sp_goL hG hx hV hk hd hc e (z + 1) a S1 (by omega) (RT_fq hT f1) (RuC_fq hU f1) (by rw [c10, h5]) (fun i hi => by rw [c28]; exact hp i hi) (AC_fr hA (f1.1 26 0 (by omega) (by omega) (by omega)) (f1.1 27 0 (by omega) (by omega) (by omega))) (fun S2 a2 b2 c2 d2 e2 => kk S2 a2 b2 (fun i hi => by rw [c2 i hi, c28]) d2 (fk_tr (fk_fq f1) e2))
    refine bI_if (fun w0 => ?_) (fun w0 => skip S (fq_rfl S) (by simp [stpF, w0]))
    refine sp_mayAsk hT hx (by omega) (bI_if (fun w => skip S (fq_rfl S) (by simp [stpF, w])) (fun w => ?_))
    refine sp_saysNo hT hU hx (by omega) (fun S1 f1 => bI_if (fun w2 => skip S1 f1 (by simp [stpF, w2])) (fun w2 => ?_))
    rw [nI_clamp (by omega), nI_clamp (by omega)]
    refine ⟨vp_in_nI (by omega) (by omega), fun S2 e2 => ?_⟩
    have es : stpF m n U x y so d T p dp co k z a = goF m n U x y so d (endT T x z false) (upd p dp (nI z)) (dp + 1) (co + prcF (T 3 z) (T 4 z)) (k ||| 2 ^ z) a := by simp [stpF, w0, w, w2]
    rw [es] at kk
    have g2 : fk S S2 := by rw [e2]; exact fk_sa (fk_fq f1)
    have t2 : RT S2 1 m n r T := by rw [e2]; exact RT_fr (RT_fq hT f1) (fun kd a b => sa_ne (by omega))
    obtain ⟨o1, o2, o3⟩ := bt_or k hk z (by omega)
    have o3 := o3 w0
    rw [o1]
    refine sp_end (b := false) t2 hx (by omega) (fun S3 t3 W3 _ _ q5 => ?_)
    have g3 : fk S S3 := fk_tr g2 ⟨⟨fun kd i w => W3 kd i (by unfold cz at w; omega), fun j _ => by rw [W3 40 0 (by omega)]⟩, fun kd i w => W3 kd i (by omega), by rw [W3 40 0 (by omega)]⟩
    have p3 : ∀ i, S3.1 28 0 i = if i = dp then nI z else S.1 28 0 i := by
      intro i
      rw [W3 28 0 (by omega), e2, sa_eq, upd_rd, f1.1 28 0 (by omega) (by omega) (by omega)]
    have h53 : S3.1 10 1 5 = co + prcF (T 3 z) (T 4 z) := by
      rw [q5]
      show S2.1 10 1 5 + _ = _
      rw [e2, sa_ne (by omega), f1.1 10 1 (by omega) (by omega) (by omega), h5]
    have A3 : AC S3 a := AC_fr hA (by rw [W3 26 0 (by omega), e2, sa_ne (by omega), f1.1 26 0 (by omega) (by omega) (by omega)]) (by rw [W3 27 0 (by omega), e2, sa_ne (by omega), f1.1 27 0 (by omega) (by omega) (by omega)])
    refine hG _ (upd p dp (nI z)) (dp + 1) _ (k ||| 2 ^ z) a S3 _ t3 (VT_end hV hx hn (fun q => by cases q)) (RuC_fz hU g3.1) h53 (fun i hi => ?_) A3 o2 (by omega) (by omega) (fun S4 t4 h54 p4 A4 f4 => ⟨vx, fun S5 e5 S6 e6 S7 e7 => ?_⟩)
    · rw [p3, upd_rd]
      by_cases q : i = dp
      · rw [if_pos q, if_pos q]
      · rw [if_neg q, if_neg q]; exact hp i (by omega)
    · have g7 : fk S4 S7 := by rw [e7, e6, e5]; exact fk_sa (fk_sa (fk_sa (fk_rfl _)))
      have t7 : RT S7 1 m n r T := by
        rw [e7, e6, e5]
        have := RT_s5 (v := co) (RT_10 (v := T 0 0) (RT_11 (x := x) (v := T 1 x) t4))
        rw [endT_bk] at this
        exact this
      have gS7 : fk S S7 := fk_tr g3 (fk_tr f4 g7)
      have p7 : ∀ i, i < dp → S7.1 28 0 i = S.1 28 0 i := fun i hi => by
        rw [e7, e6, e5, sa_ne (by omega), sa_ne (by omega), sa_ne (by omega), p4 i (by omega), p3, if_neg (by omega)]
      exact sp_goL hG hx hV hk hd hc e (z + 1) _ S7 (by omega) t7 (RuC_fz hU gS7.1) (by rw [e7, su_eq]) (fun i hi => by rw [p7 i hi]; exact hp i hi) (AC_fr A4 (by rw [e7, e6, e5, sa_ne (by omega), sa_ne (by omega), sa_ne (by omega)]) (by rw [e7, e6, e5, sa_ne (by omega), sa_ne (by omega), sa_ne (by omega)])) (fun S8 a8 b8 c8 d8 f8 => kk S8 a8 b8 (fun i hi => by rw [c8 i hi, p7 i hi]) d8 (fk_tr gS7 f8))
theorem sp_go (hx : x < m) (hy : y < n) : ∀ d, GoC m n r U x y so d
  | 0 => fun T p dp co k a S K _ _ _ _ _ _ _ _ h _ => by omega
  | d + 1 => fun T p dp co k a S K hT hV hU h5 hp hA hk hd hc kk => by
    have hm := hT.1.1
    have hn := hT.1.2.1
    show wpX6_goOn (wpG1 d) 1 (nI x) (nI y) so (nI dp) (nI k) S K
    unfold wpX6_goOn
    rw [goF_s] at kk
    have rest : ∀ (a1 : Ac) (S1 : St), a1 = (bif mayB m T x y && betB so dp co a then (nI dp, co, p) else a) → fk S S1 → RT S1 1 m n r T → S1.1 10 1 5 = co → S1.1 28 0 = S.1 28 0 → AC S1 a1 → wbX6_goOn_34 (wpG1 d) 1 K (nI x) (nI y) so (nI dp) (nI k) S1 := by
      intro a1 S1 e1 f1 t1 h51 c28 A1
      subst e1
      unfold wbX6_goOn_34
      rw [if_pos (by rw [show (4 : Int32) = nI 4 from rfl]; exact nI_lt (by omega) (by omega)), nI_clamp (by omega), (t1.2.2.1 x hx).1, t1.2.1.2.2.1, h51]
      exact ⟨vp_in_nI (by omega) (by omega), n + 1, sp_goL (sp_go hx hy d) hx hV hk hd (by omega) n 0 _ S1 (by omega) t1 (RuC_fz hU f1.1) h51 (fun i hi => by rw [c28]; exact hp i hi) A1 (fun S2 a2 b2 c2 d2 f2 => kk S2 a2 b2 (fun i hi => by rw [c2 i hi, c28]) d2 (fk_tr f1 f2))⟩
    refine sp_mayAsk hT hx hy (bI_if (fun w => rest a S (by simp [w]) (fk_rfl S) hT h5 rfl hA) (fun w => ?_))
    have keep : betB so dp co a = true → wpX6_keep (nI dp) co S (fun S5 => wbX6_goOn_34 (wpG1 d) 1 K (nI x) (nI y) so (nI dp) (nI k) S5) := by
      intro wb
      unfold wpX6_keep
      rw [show ((0 : Int32).toNatClampNeg) = 0 by decide, show ((4 : Int32).toNatClampNeg) = 4 by decide]
      refine fun S1 e1 S2 e2 S3 e3 => ⟨⟨by decide, by decide, by decide, by decide, by decide⟩, fun S4 e4 => ?_⟩
      have f4 : fk S S4 := by rw [e4, e3, e2, e1]; exact fk_sa (fk_sa (fk_sa (fk_sa (fk_rfl _))))
      refine rest (nI dp, co, p) S4 (by simp [w, wb]) f4 ?_ ?_ ?_ ?_
      · rw [e4, e3, e2, e1]; exact RT_fr hT (fun kd a b => by rw [sa_ne (by omega), sa_ne (by omega), sa_ne (by omega), sa_ne (by omega)])
      · rw [e4, e3, e2, e1, sa_ne (by omega), sa_ne (by omega), sa_ne (by omega), sa_ne (by omega), h5]
      · rw [e4, e3, e2, e1, sa_ne (by omega), sa_ne (by omega), sa_ne (by omega), sa_ne (by omega)]
      · refine Or.inr ⟨dp, by omega, rfl, ?_, ?_, ?_, fun i hi => ?_⟩
        · rw [e4, e3, e2, e1]; simp [sa_rd, upd_rd]
        · rw [e4, e3, e2, e1]; simp [sa_rd, upd_rd]
        · rw [e4, e3, e2, e1]; simp [sa_rd, upd_rd]
        · rw [e4, sa_eq, pk_cpy_in (by omega) (by omega), e3, e2, e1, sa_ne (by omega), sa_ne (by omega), sa_ne (by omega), Nat.zero_add, Nat.sub_zero]
          exact hp i hi
    unfold wpX6_isBetter wbX6_isBetter_30
    rw [h5]
    rcases hA with ⟨a1, a2⟩ | ⟨q, hq, a1, a2, a3, a4, a5⟩
    · rw [a2, if_pos rfl]
      show if (1 : Int32) = 0 then _ else _
      rw [if_neg nfi, h5]
      exact keep (by simp [betB, a1])
    · have n1 : ¬ a.1 = -1 := by rw [a1]; exact nI_nm1 (by omega)
      have hA : AC S a := Or.inr ⟨q, hq, a1, a2, a3, a4, a5⟩
      rw [a2, if_neg nfi, a3, a4, ← a1]
      by_cases s0 : so = 0
      · rw [if_pos s0]
        by_cases c1 : a.1 ≤ nI dp
        · rw [if_pos c1]
          show if (0 : Int32) = 0 then _ else _
          rw [if_pos rfl]
          exact rest a S (by simp [betB, n1, s0, c1]) (fk_rfl S) hT h5 rfl hA
        · rw [if_neg c1]
          show if (1 : Int32) = 0 then _ else _
          rw [if_neg nfi, h5]
          exact keep (by unfold betB; rw [if_pos s0, decide_eq_false c1, decide_eq_false n1]; rfl)
      · rw [if_neg s0]
        by_cases c1 : a.2.1 ≤ co
        · rw [if_pos c1]
          show if (0 : Int32) = 0 then _ else _
          rw [if_pos rfl]
          exact rest a S (by simp [betB, n1, s0, c1]) (fk_rfl S) hT h5 rfl hA
        · rw [if_neg c1]
          show if (1 : Int32) = 0 then _ else _
          rw [if_neg nfi, h5]
          exact keep (by unfold betB; rw [if_neg s0, decide_eq_false c1, decide_eq_false n1]; rfl)
end
