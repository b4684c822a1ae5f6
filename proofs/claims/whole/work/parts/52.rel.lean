/-! THE RELATION, and what leaves it as it is -/
def R2 (S : St) (k : Nat) (V : Nat → Rl) : Prop := (1 ≤ k ∧ k ≤ 6) ∧ (S.1 0 0 2 = nI k ∧ S.1 40 0 3 = nI k) ∧ ∀ q, q < k → RuC S q (V q) ∧ RuM S q (V q)
def Rel' (S : St) (m n r : Nat) (T : Tn) (k : Nat) (V : Nat → Rl) : Prop := RT S 0 m n r T ∧ RJ S 0 m n ∧ RM S m n r T ∧ VT m n T ∧ R2 S k V ∧ r < k ∧ R3 S ∧ R4 S n k T ∧ R5 S
def Rel (S : St) : Prop := ∃ (m n r : Nat) (T : Tn) (k : Nat) (V : Nat → Rl), Rel' S m n r T k V
/-- frames: fc the class's steps, fm the reference's, ft all but the town, fz questions -/
def fc (S S1 : St) : Prop := ∀ kd i, 40 ≤ kd → S1.1 kd i = S.1 kd i
def fm (S S1 : St) : Prop := ∀ kd i, kd < 40 → S1.1 kd i = S.1 kd i
def ct (kd i : Nat) : Prop := kd ≤ 8 ∨ (10 ≤ kd ∧ kd ≤ 16 ∧ i = 2) ∨ (30 ≤ kd ∧ kd ≤ 31) ∨ (41 ≤ kd ∧ kd ≤ 43) ∨ 61 ≤ kd
def cz (kd i : Nat) : Prop := kd ≤ 8 ∨ (10 ≤ kd ∧ kd ≤ 16 ∧ i ≠ 1) ∨ (30 ≤ kd ∧ kd ≤ 31) ∨ (41 ≤ kd ∧ kd ≤ 43) ∨ 61 ≤ kd
def ft (S S1 : St) : Prop := (∀ kd i, ct kd i → S1.1 kd i = S.1 kd i) ∧ ∀ j, (j = 3 ∨ j = 6 ∨ 50 ≤ j) → S1.1 40 0 j = S.1 40 0 j
def fz (S S1 : St) : Prop := (∀ kd i, cz kd i → S1.1 kd i = S.1 kd i) ∧ ∀ j, (j < 16 ∨ 50 ≤ j) → S1.1 40 0 j = S.1 40 0 j
theorem fc_rfl (S : St) : fc S S := fun _ _ _ => rfl
theorem fm_rfl (S : St) : fm S S := fun _ _ _ => rfl
theorem ft_rfl (S : St) : ft S S := ⟨fun _ _ _ => rfl, fun _ _ => rfl⟩
theorem fz_rfl (S : St) : fz S S := ⟨fun _ _ _ => rfl, fun _ _ => rfl⟩
theorem fc_tr {S S1 S2 : St} (h : fc S S1) (g : fc S1 S2) : fc S S2 := fun kd i a => (g kd i a).trans (h kd i a)
theorem fm_tr {S S1 S2 : St} (h : fm S S1) (g : fm S1 S2) : fm S S2 := fun kd i a => (g kd i a).trans (h kd i a)
theorem ft_tr {S S1 S2 : St} (h : ft S S1) (g : ft S1 S2) : ft S S2 := ⟨fun kd i a => (g.1 kd i a).trans (h.1 kd i a), fun j a => (g.2 j a).trans (h.2 j a)⟩
theorem fz_tr {S S1 S2 : St} (h : fz S S1) (g : fz S1 S2) : fz S S2 := ⟨fun kd i a => (g.1 kd i a).trans (h.1 kd i a), fun j a => (g.2 j a).trans (h.2 j a)⟩
theorem fc_sa {S S1 : St} {kd i : Nat} {f : Nat → Int32} (h : fc S S1) (hk : kd < 40 := by omega) : fc S (sa S1 kd i f) := fc_tr h (fun kd2 i2 a => sa_ne (by omega))
theorem fm_sa {S S1 : St} {kd i : Nat} {f : Nat → Int32} (h : fm S S1) (hk : 40 ≤ kd := by omega) : fm S (sa S1 kd i f) := fm_tr h (fun kd2 i2 a => sa_ne (by omega))
theorem fm_l {S S1 : St} {v : Int64} (h : fm S S1) : fm S (sl S1 v) := h
theorem ft_sa {S S1 : St} {kd i : Nat} {f : Nat → Int32} (h : ft S S1) (hk : ¬ ct kd i := by unfold ct; omega) (h40 : kd ≠ 40 := by omega) : ft S (sa S1 kd i f) := ft_tr h ⟨fun kd2 i2 a => sa_ne (fun q => hk (q.1 ▸ q.2 ▸ a)), fun j _ => by rw [sa_ne (fun q => h40 q.1.symm)]⟩
theorem ft_40 {S S1 : St} {j : Nat} {v : Int32} (h : ft S S1) (hj : ¬ (j = 3 ∨ j = 6 ∨ 50 ≤ j) := by omega) : ft S (su S1 40 0 j v) := ft_tr h ⟨fun kd2 i2 a => sa_ne (fun q => by unfold ct at a; omega), fun k hk => su_nj (fun q => hj (q ▸ hk))⟩
theorem fz_sa {S S1 : St} {kd i : Nat} {f : Nat → Int32} (h : fz S S1) (hk : ¬ cz kd i := by unfold cz; omega) (h40 : kd ≠ 40 := by omega) : fz S (sa S1 kd i f) := fz_tr h ⟨fun kd2 i2 a => sa_ne (fun q => hk (q.1 ▸ q.2 ▸ a)), fun j _ => by rw [sa_ne (fun q => h40 q.1.symm)]⟩
theorem fz_40 {S S1 : St} {j : Nat} {v : Int32} (h : fz S S1) (hj : ¬ (j < 16 ∨ 50 ≤ j) := by omega) : fz S (su S1 40 0 j v) := fz_tr h ⟨fun kd2 i2 a => sa_ne (fun q => by unfold cz at a; omega), fun k hk => su_nj (fun q => hj (q ▸ hk))⟩
theorem fz_fq {S S1 : St} (h : fq S S1) : fz S S1 := ⟨fun kd i a => h.1 kd i (by unfold cz at a; omega) (by unfold cz at a; omega) (by unfold cz at a; omega), fun j hj => h.2 j (by omega)⟩
theorem ft_fz {S S1 : St} (h : fz S S1) : ft S S1 := ⟨fun kd i a => h.1 kd i (by unfold ct at a; unfold cz; omega), fun j hj => h.2 j (by omega)⟩
/-- what each part of it rests on -/
theorem RT_eq {S S1 : St} {t m n r : Nat} {T : Tn} (g : ∀ kd, 10 ≤ kd → kd ≤ 16 → S1.1 kd t = S.1 kd t) : RT S1 t m n r T = RT S t m n r T := by
  unfold RT
  rw [g 10 (by omega) (by omega), g 11 (by omega) (by omega), g 12 (by omega) (by omega), g 13 (by omega) (by omega), g 14 (by omega) (by omega), g 15 (by omega) (by omega), g 16 (by omega) (by omega)]
theorem RJ_eq {S S1 : St} {t m n : Nat} (g : ∀ kd, 10 ≤ kd → kd ≤ 16 → S1.1 kd t = S.1 kd t) : RJ S1 t m n = RJ S t m n := by
  unfold RJ
  rw [g 12 (by omega) (by omega), g 15 (by omega) (by omega), g 16 (by omega) (by omega)]
theorem RM_eq {S S1 : St} {m n r : Nat} {T : Tn} (g : ∀ kd, 44 ≤ kd → kd ≤ 50 → S1.1 kd 0 = S.1 kd 0) (f : ∀ j, (j = 4 ∨ j = 7 ∨ j = 8 ∨ j = 16) → S1.1 40 0 j = S.1 40 0 j) : RM S1 m n r T = RM S m n r T := by
  unfold RM
  rw [g 44 (by omega) (by omega), g 45 (by omega) (by omega), g 46 (by omega) (by omega), g 47 (by omega) (by omega), g 48 (by omega) (by omega), g 49 (by omega) (by omega), g 50 (by omega) (by omega), f 4 (by omega), f 7 (by omega), f 8 (by omega), f 16 (by omega)]
theorem R2_fr {S S1 : St} {k : Nat} {V : Nat → Rl} (h : R2 S k V) (f : ft S S1) : R2 S1 k V := by
  obtain ⟨a, b, c⟩ := h
  refine ⟨a, ?_, fun q hq => ⟨RuC_fr (c q hq).1 (f.1 7 q (by unfold ct; omega)) (f.1 8 q (by unfold ct; omega)), RuM_fr (c q hq).2 (fun j _ => by rw [f.1 41 0 (by unfold ct; omega)]) (by rw [f.1 42 0 (by unfold ct; omega)])⟩⟩
  rw [f.1 0 0 (by unfold ct; omega), f.2 3 (by omega)]
  exact b
theorem R3_fr {S S1 : St} (h : R3 S) (f : ft S S1) : R3 S1 := by
  unfold R3 at h ⊢
  rw [f.1 1 0 (by unfold ct; omega), f.1 4 0 (by unfold ct; omega), f.1 43 0 (by unfold ct; omega), f.2 6 (by omega)]
  exact h
theorem R4_fr {S S1 : St} {n k n1 : Nat} {T T1 : Tn} (h : R4 S n k T) (f : ft S S1) (hn : n ≤ n1) (hT : ∀ y, y < n → T1 3 y = T 3 y) : R4 S1 n1 k T1 := by
  have g : ∀ kd, 10 ≤ kd → kd ≤ 16 → S1.1 kd 2 = S.1 kd 2 := fun kd a b => f.1 kd 2 (by unfold ct; omega)
  unfold R4 RK at h ⊢
  rw [f.1 0 0 (by unfold ct; omega), f.2 50 (by omega), f.2 51 (by omega), f.2 52 (by omega), f.2 53 (by omega), f.1 61 0 (by unfold ct; omega), f.1 62 0 (by unfold ct; omega), f.1 63 0 (by unfold ct; omega)]
  rcases h with h | ⟨h, m2, n2, r2, T2, a, b, c, d, e, q, w⟩
  · exact Or.inl h
  · exact Or.inr ⟨h, m2, n2, r2, T2, (RT_eq g).mpr a, (RJ_eq g).mpr b, c, d, e, Nat.le_trans q hn, fun y hy => (w y hy).trans (hT y (by omega)).symm⟩
theorem R5_fr {S S1 : St} (h : R5 S) (f : ft S S1) : R5 S1 := by
  intro q hq
  have := h q hq
  rw [f.1 30 q (by unfold ct; omega), f.1 31 q (by unfold ct; omega), f.1 64 0 (by unfold ct; omega), f.1 65 0 (by unfold ct; omega), f.1 66 0 (by unfold ct; omega), f.1 67 0 (by unfold ct; omega)]
  exact this
/-- a step that changes the town -/
theorem Rel_t {S S1 : St} {m n r m1 n1 r1 : Nat} {T T1 : Tn} {k : Nat} {V : Nat → Rl} (h : Rel' S m n r T k V) (f : ft S S1) (a : RT S1 0 m1 n1 r1 T1) (b : RJ S1 0 m1 n1) (c : RM S1 m1 n1 r1 T1) (d : VT m1 n1 T1) (e : r1 < k) (hn : n ≤ n1) (hT : ∀ y, y < n → T1 3 y = T 3 y) : Rel' S1 m1 n1 r1 T1 k V := by
  obtain ⟨_, _, _, _, h2, _, h3, h4, h5⟩ := h
  exact ⟨a, b, c, d, R2_fr h2 f, e, R3_fr h3 f, R4_fr h4 f hn hT, R5_fr h5 f⟩
/-- a question -/
theorem Rel_q {S S1 : St} {m n r : Nat} {T : Tn} {k : Nat} {V : Nat → Rl} (h : Rel' S m n r T k V) (f : fz S S1) (c : RM S1 m n r T) : Rel' S1 m n r T k V := by
  have g : ∀ kd, 10 ≤ kd → kd ≤ 16 → S1.1 kd 0 = S.1 kd 0 := fun kd a b => f.1 kd 0 (by unfold cz; omega)
  exact Rel_t h (ft_fz f) ((RT_eq g).mpr h.1) ((RJ_eq g).mpr h.2.1) c h.2.2.2.1 h.2.2.2.2.2.1 (Nat.le_refl n) (fun _ _ => rfl)
theorem Rel_fq {S S1 : St} {m n r : Nat} {T : Tn} {k : Nat} {V : Nat → Rl} (h : Rel' S m n r T k V) (f : fq S S1) : Rel' S1 m n r T k V := Rel_q h (fz_fq f) (RM_fq h.2.2.1 f)
theorem RT_fm {S S1 : St} {t m n r : Nat} {T : Tn} (h : RT S t m n r T) (f : fm S S1) : RT S1 t m n r T := (RT_eq (fun kd a b => f kd t (by omega))).mpr h
theorem RJ_fm {S S1 : St} {t m n : Nat} (h : RJ S t m n) (f : fm S S1) : RJ S1 t m n := (RJ_eq (fun kd a b => f kd t (by omega))).mpr h
theorem RM_fc {S S1 : St} {m n r : Nat} {T : Tn} (h : RM S m n r T) (f : fc S S1) : RM S1 m n r T := (RM_eq (fun kd a b => f kd 0 (by omega)) (fun j _ => by rw [f 40 0 (by omega)])).mpr h
/-- the end of a call -/
theorem same {r : Int32} {S : St} {K : St → Prop} (h : K S) : if r = r then K S else False := by rw [if_pos rfl]; exact h
theorem nfi : ¬ (1 : Int32) = 0 := by decide
def Hm (F : Int32 → St → Prop) (M : St → (Int32 → St → Prop) → Prop) (K : St → Prop) : Prop := ∀ r S1, M S1 (fun r2 S2 => if r = r2 then K S2 else False) → F r S1
section
variable {S : St} {F : Int32 → St → Prop} {K : St → Prop}
/-- man -/
theorem mp_man_l {m : Nat} : ∀ (d y : Nat) (S1 : St) (K : Int32 → St → Prop), y + d = 4 → m < 4 → S1.1 40 0 7 = nI m →
    (∀ S2, fm S1 S2 → ft S1 S2 → (∀ kd, 46 ≤ kd → kd ≤ 50 → S2.1 kd 0 = S1.1 kd 0) → (∀ j, j ≠ 7 → S2.1 40 0 j = S1.1 40 0 j) → S2.1 40 0 7 = nI (m + 1) →
      (∀ kd j, kd = 44 ∨ kd = 45 → S2.1 kd 0 j = if 4 * m + y ≤ j ∧ j < 4 * m + 4 then 50 else S1.1 kd 0 j) → K (nI m) S2) → wbX8_man_48 K (d + 1) (nI y) S1
  | 0, y, S1, K, e, hm, h7, k => by
    show if (4 : Int32) ≤ nI y then _ else _
    rw [if_pos (by rw [lit32 4]; exact nI_le (by omega) (by omega))]
    intro S7 e7
    subst e7
    have : (su S1 40 0 7 (S1.1 40 0 7 + 1)).1 40 0 7 = nI (m + 1) := by rw [su_eq, h7, nI_1]
    rw [this, nI_pred]
    refine k _ (fm_sa (fm_rfl _)) (ft_40 (ft_rfl _)) (fun kd a b => sa_ne (by omega)) (fun j hj => su_nj hj) this (fun kd j hk => ?_)
    rw [if_neg (by omega), sa_ne (by omega)]
  | d + 1, y, S1, K, e, hm, h7, k => by
    show if (4 : Int32) ≤ nI y then _ else _
    rw [if_neg (by rw [lit32 4]; exact nI_ge (by omega) (by omega)), h7, at4]
    refine ⟨vp_in_nI (by omega) (by omega), fun S8 e8 => ?_⟩
    have h8 : S8.1 40 0 7 = nI m := by rw [e8, su_nk (by omega), h7]
    rw [h8, at4]
    refine ⟨vp_in_nI (by omega) (by omega), fun S9 e9 => ?_⟩
    rw [nI_1]
    have h9 : S9.1 40 0 7 = nI m := by rw [e9, su_nk (by omega), h8]
    rw [nI_clamp (by omega)] at e8 e9
    refine mp_man_l d (y + 1) S9 K (by omega) hm h9 (fun S2 a b c q w z => ?_)
    have fm9 : fm S1 S9 := by rw [e9, e8]; exact fm_sa (fm_sa (fm_rfl _))
    have ft9 : ft S1 S9 := by rw [e9, e8]; exact ft_sa (ft_sa (ft_rfl _))
    refine k S2 (fm_tr fm9 a) (ft_tr ft9 b) (fun kd i1 i2 => ?_) (fun j hj => ?_) w (fun kd j hk => ?_)
    · rw [c kd i1 i2, e9, e8, su_nk (by omega), su_nk (by omega)]
    · rw [q j hj, e9, e8, su_nk (by omega), su_nk (by omega)]
    · rw [z kd j hk]
      rcases hk with rfl | rfl
      · rw [e9, su_nk (by omega), e8, sa_eq, upd_rd]
        by_cases c1 : 4 * m + (y + 1) ≤ j ∧ j < 4 * m + 4
        · rw [if_pos c1, if_pos (by omega)]
        · rw [if_neg c1]
          by_cases c2 : j = 4 * m + y
          · rw [if_pos c2, if_pos (by omega)]
          · rw [if_neg c2, if_neg (by omega)]
      · rw [e9, sa_eq, upd_rd, e8, su_nk (by omega)]
        by_cases c1 : 4 * m + (y + 1) ≤ j ∧ j < 4 * m + 4
        · rw [if_pos c1, if_pos (by omega)]
        · rw [if_neg c1]
          by_cases c2 : j = 4 * m + y
          · rw [if_pos c2, if_pos (by omega)]
          · rw [if_neg c2, if_neg (by omega)]
end
