/-! one place of a town changed -/
def setT (T : Tn) (a j : Nat) (v : Int32) : Tn := fun b i => if b = a ∧ i = j then v else T b i
theorem setT_eq {T : Tn} {a j : Nat} {v : Int32} : setT T a j v a j = v := if_pos ⟨rfl, rfl⟩
theorem setT_na {T : Tn} {a j b i : Nat} {v : Int32} (h : b ≠ a) : setT T a j v b i = T b i := if_neg (fun q => h q.1)
theorem setT_nj {T : Tn} {a j b i : Nat} {v : Int32} (h : i ≠ j) : setT T a j v b i = T b i := if_neg (fun q => h q.2)
theorem hus_congr {w w2 : Nat → Int32} {v : Int32} : ∀ d i, (∀ j, i ≤ j → j < i + d → w j = w2 j) → husU w v d i = husU w2 v d i
  | 0, _, _ => rfl
  | d + 1, i, h => by
    unfold husU
    rw [h i (by omega) (by omega), hus_congr d (i + 1) (fun j a b => h j (by omega) (by omega))]
theorem hus_snoc {w : Nat → Int32} {v : Int32} : ∀ d i, w (i + d) ≠ v → husU w v (d + 1) i = husU w v d i
  | 0, i, h => by
    have h : w i ≠ v := h
    unfold husU
    rw [if_neg h]; rfl
  | d + 1, i, h => by
    have := hus_snoc (w := w) (v := v) d (i + 1) (by rw [show i + 1 + d = i + (d + 1) by omega]; exact h)
    show (if w i = v then nI i else husU w v (d + 1) (i + 1)) = (if w i = v then nI i else husU w v d (i + 1))
    rw [this]
theorem hus_no {w : Nat → Int32} {v : Int32} : ∀ d i, (∀ j, i ≤ j → j < i + d → w j ≠ v) → husU w v d i = -1
  | 0, _, _ => rfl
  | d + 1, i, h => by
    unfold husU
    rw [if_neg (h i (by omega) (by omega)), hus_no d (i + 1) (fun j a b => h j (by omega) (by omega))]
theorem hus_at {w : Nat → Int32} {v : Int32} : ∀ d i j, i ≤ j → j < i + d → w j = v → (∀ k, i ≤ k → k < j → w k ≠ v) → husU w v d i = nI j
  | 0, i, j, a, b, _, _ => by omega
  | d + 1, i, j, a, b, c, h => by
    unfold husU
    by_cases e : i = j
    · subst e; rw [if_pos c]
    · rw [if_neg (h i (by omega) (by omega)), hus_at d (i + 1) j (by omega) (by omega) c (fun k q w => h k (by omega) w)]
theorem nI_nm1 {j : Nat} (h : j < 2 ^ 31) : nI j ≠ -1 := by
  intro q
  have := congrArg Int32.toInt q
  rw [nI_toInt h, show (-1 : Int32).toInt = -1 from by decide] at this
  omega
theorem hus_none {w : Nat → Int32} {v : Int32} : ∀ d i, i + d < 2 ^ 31 → husU w v d i = -1 → ∀ j, i ≤ j → j < i + d → w j ≠ v
  | 0, i, _, _, j, a, b => by omega
  | d + 1, i, hb, h, j, a, b => by
    unfold husU at h
    by_cases c : w i = v
    · rw [if_pos c] at h; exact absurd h (nI_nm1 (by omega))
    · rw [if_neg c] at h
      by_cases e : i = j
      · subst e; exact c
      · exact hus_none d (i + 1) (by omega) h j (by omega) (by omega)
section
variable {S : St} {t m n r : Nat} {T : Tn} {v : Int32}
theorem RT_11 {x : Nat} (h : RT S t m n r T) : RT (su S 11 t x v) t m n r (setT T 1 x v) := by
  obtain ⟨a, ⟨b, c, d, e⟩, f, g, k⟩ := h
  exact ⟨a, ⟨by simp [sa_rd, upd_rd, setT, b], by simp [sa_rd, upd_rd, setT, c], by simp [sa_rd, upd_rd, setT, d], by simp [sa_rd, upd_rd, setT, e]⟩, fun x2 hx => ⟨by simp [sa_rd, upd_rd, setT, (f x2 hx).1], by simp [sa_rd, upd_rd, setT, (f x2 hx).2]⟩, fun y hy => ⟨by simp [sa_rd, upd_rd, setT, (g y hy).1], by simp [sa_rd, upd_rd, setT, (g y hy).2]⟩, fun x2 y hx hy => ⟨by simp [sa_rd, upd_rd, setT, (k x2 y hx hy).1], by simp [sa_rd, upd_rd, setT, (k x2 y hx hy).2]⟩⟩
theorem RT_12 {x : Nat} (h : RT S t m n r T) : RT (su S 12 t x v) t m n r (setT T 2 x v) := by
  obtain ⟨a, ⟨b, c, d, e⟩, f, g, k⟩ := h
  exact ⟨a, ⟨by simp [sa_rd, upd_rd, setT, b], by simp [sa_rd, upd_rd, setT, c], by simp [sa_rd, upd_rd, setT, d], by simp [sa_rd, upd_rd, setT, e]⟩, fun x2 hx => ⟨by simp [sa_rd, upd_rd, setT, (f x2 hx).1], by simp [sa_rd, upd_rd, setT, (f x2 hx).2]⟩, fun y hy => ⟨by simp [sa_rd, upd_rd, setT, (g y hy).1], by simp [sa_rd, upd_rd, setT, (g y hy).2]⟩, fun x2 y hx hy => ⟨by simp [sa_rd, upd_rd, setT, (k x2 y hx hy).1], by simp [sa_rd, upd_rd, setT, (k x2 y hx hy).2]⟩⟩
theorem RT_14 {x : Nat} (h : RT S t m n r T) : RT (su S 14 t x v) t m n r (setT T 4 x v) := by
  obtain ⟨a, ⟨b, c, d, e⟩, f, g, k⟩ := h
  exact ⟨a, ⟨by simp [sa_rd, upd_rd, setT, b], by simp [sa_rd, upd_rd, setT, c], by simp [sa_rd, upd_rd, setT, d], by simp [sa_rd, upd_rd, setT, e]⟩, fun x2 hx => ⟨by simp [sa_rd, upd_rd, setT, (f x2 hx).1], by simp [sa_rd, upd_rd, setT, (f x2 hx).2]⟩, fun y hy => ⟨by simp [sa_rd, upd_rd, setT, (g y hy).1], by simp [sa_rd, upd_rd, setT, (g y hy).2]⟩, fun x2 y hx hy => ⟨by simp [sa_rd, upd_rd, setT, (k x2 y hx hy).1], by simp [sa_rd, upd_rd, setT, (k x2 y hx hy).2]⟩⟩
theorem RT_15 {x : Nat} (h : RT S t m n r T) : RT (su S 15 t x v) t m n r (setT T 5 x v) := by
  obtain ⟨a, ⟨b, c, d, e⟩, f, g, k⟩ := h
  exact ⟨a, ⟨by simp [sa_rd, upd_rd, setT, b], by simp [sa_rd, upd_rd, setT, c], by simp [sa_rd, upd_rd, setT, d], by simp [sa_rd, upd_rd, setT, e]⟩, fun x2 hx => ⟨by simp [sa_rd, upd_rd, setT, (f x2 hx).1], by simp [sa_rd, upd_rd, setT, (f x2 hx).2]⟩, fun y hy => ⟨by simp [sa_rd, upd_rd, setT, (g y hy).1], by simp [sa_rd, upd_rd, setT, (g y hy).2]⟩, fun x2 y hx hy => ⟨by simp [sa_rd, upd_rd, setT, (k x2 y hx hy).1], by simp [sa_rd, upd_rd, setT, (k x2 y hx hy).2]⟩⟩
theorem RT_16 {x : Nat} (h : RT S t m n r T) : RT (su S 16 t x v) t m n r (setT T 6 x v) := by
  obtain ⟨a, ⟨b, c, d, e⟩, f, g, k⟩ := h
  exact ⟨a, ⟨by simp [sa_rd, upd_rd, setT, b], by simp [sa_rd, upd_rd, setT, c], by simp [sa_rd, upd_rd, setT, d], by simp [sa_rd, upd_rd, setT, e]⟩, fun x2 hx => ⟨by simp [sa_rd, upd_rd, setT, (f x2 hx).1], by simp [sa_rd, upd_rd, setT, (f x2 hx).2]⟩, fun y hy => ⟨by simp [sa_rd, upd_rd, setT, (g y hy).1], by simp [sa_rd, upd_rd, setT, (g y hy).2]⟩, fun x2 y hx hy => ⟨by simp [sa_rd, upd_rd, setT, (k x2 y hx hy).1], by simp [sa_rd, upd_rd, setT, (k x2 y hx hy).2]⟩⟩
theorem RT_10 (h : RT S t m n r T) : RT (su S 10 t 2 v) t m n r (setT T 0 0 v) := by
  obtain ⟨a, ⟨b, c, d, e⟩, f, g, k⟩ := h
  exact ⟨a, ⟨by simp [sa_rd, upd_rd, setT, b], by simp [sa_rd, upd_rd, setT, c], by simp [sa_rd, upd_rd, setT, d], by simp [sa_rd, upd_rd, setT, e]⟩, fun x2 hx => ⟨by simp [sa_rd, upd_rd, setT, (f x2 hx).1], by simp [sa_rd, upd_rd, setT, (f x2 hx).2]⟩, fun y hy => ⟨by simp [sa_rd, upd_rd, setT, (g y hy).1], by simp [sa_rd, upd_rd, setT, (g y hy).2]⟩, fun x2 y hx hy => ⟨by simp [sa_rd, upd_rd, setT, (k x2 y hx hy).1], by simp [sa_rd, upd_rd, setT, (k x2 y hx hy).2]⟩⟩
theorem RT_s4 (h : RT S t m n r T) : RT (su S 10 t 4 v) t m n r (T) := by
  obtain ⟨a, ⟨b, c, d, e⟩, f, g, k⟩ := h
  exact ⟨a, ⟨by simp [sa_rd, upd_rd, setT, b], by simp [sa_rd, upd_rd, setT, c], by simp [sa_rd, upd_rd, setT, d], by simp [sa_rd, upd_rd, setT, e]⟩, fun x2 hx => ⟨by simp [sa_rd, upd_rd, setT, (f x2 hx).1], by simp [sa_rd, upd_rd, setT, (f x2 hx).2]⟩, fun y hy => ⟨by simp [sa_rd, upd_rd, setT, (g y hy).1], by simp [sa_rd, upd_rd, setT, (g y hy).2]⟩, fun x2 y hx hy => ⟨by simp [sa_rd, upd_rd, setT, (k x2 y hx hy).1], by simp [sa_rd, upd_rd, setT, (k x2 y hx hy).2]⟩⟩
theorem RT_s5 (h : RT S t m n r T) : RT (su S 10 t 5 v) t m n r (T) := by
  obtain ⟨a, ⟨b, c, d, e⟩, f, g, k⟩ := h
  exact ⟨a, ⟨by simp [sa_rd, upd_rd, setT, b], by simp [sa_rd, upd_rd, setT, c], by simp [sa_rd, upd_rd, setT, d], by simp [sa_rd, upd_rd, setT, e]⟩, fun x2 hx => ⟨by simp [sa_rd, upd_rd, setT, (f x2 hx).1], by simp [sa_rd, upd_rd, setT, (f x2 hx).2]⟩, fun y hy => ⟨by simp [sa_rd, upd_rd, setT, (g y hy).1], by simp [sa_rd, upd_rd, setT, (g y hy).2]⟩, fun x2 y hx hy => ⟨by simp [sa_rd, upd_rd, setT, (k x2 y hx hy).1], by simp [sa_rd, upd_rd, setT, (k x2 y hx hy).2]⟩⟩
theorem RM_46 {x : Nat} (h : RM S m n r T) : RM (su S 46 0 x v) m n r (setT T 1 x v) := by
  obtain ⟨⟨b, c, d, e⟩, f, g, k⟩ := h
  exact ⟨⟨by simp [sa_rd, upd_rd, setT, b], by simp [sa_rd, upd_rd, setT, c], by simp [sa_rd, upd_rd, setT, d], by simp [sa_rd, upd_rd, setT, e]⟩, fun x2 hx => ⟨by simp [sa_rd, upd_rd, setT, (f x2 hx).1], by simp [sa_rd, upd_rd, setT, (f x2 hx).2]⟩, fun y hy => ⟨by simp [sa_rd, upd_rd, setT, (g y hy).1], by simp [sa_rd, upd_rd, setT, (g y hy).2.1], by rw [hus_congr (w2 := T 2) m 0 (fun j _ _ => by simp [setT])]; simp [sa_rd, (g y hy).2.2]⟩, fun x2 y hx hy => ⟨by simp [sa_rd, upd_rd, setT, (k x2 y hx hy).1], by simp [sa_rd, upd_rd, setT, (k x2 y hx hy).2]⟩⟩
theorem RM_50 {x : Nat} (h : RM S m n r T) : RM (su S 50 0 x v) m n r (setT T 4 x v) := by
  obtain ⟨⟨b, c, d, e⟩, f, g, k⟩ := h
  exact ⟨⟨by simp [sa_rd, upd_rd, setT, b], by simp [sa_rd, upd_rd, setT, c], by simp [sa_rd, upd_rd, setT, d], by simp [sa_rd, upd_rd, setT, e]⟩, fun x2 hx => ⟨by simp [sa_rd, upd_rd, setT, (f x2 hx).1], by simp [sa_rd, upd_rd, setT, (f x2 hx).2]⟩, fun y hy => ⟨by simp [sa_rd, upd_rd, setT, (g y hy).1], by simp [sa_rd, upd_rd, setT, (g y hy).2.1], by rw [hus_congr (w2 := T 2) m 0 (fun j _ _ => by simp [setT])]; simp [sa_rd, (g y hy).2.2]⟩, fun x2 y hx hy => ⟨by simp [sa_rd, upd_rd, setT, (k x2 y hx hy).1], by simp [sa_rd, upd_rd, setT, (k x2 y hx hy).2]⟩⟩
theorem RM_44 {x : Nat} (h : RM S m n r T) : RM (su S 44 0 x v) m n r (setT T 5 x v) := by
  obtain ⟨⟨b, c, d, e⟩, f, g, k⟩ := h
  exact ⟨⟨by simp [sa_rd, upd_rd, setT, b], by simp [sa_rd, upd_rd, setT, c], by simp [sa_rd, upd_rd, setT, d], by simp [sa_rd, upd_rd, setT, e]⟩, fun x2 hx => ⟨by simp [sa_rd, upd_rd, setT, (f x2 hx).1], by simp [sa_rd, upd_rd, setT, (f x2 hx).2]⟩, fun y hy => ⟨by simp [sa_rd, upd_rd, setT, (g y hy).1], by simp [sa_rd, upd_rd, setT, (g y hy).2.1], by rw [hus_congr (w2 := T 2) m 0 (fun j _ _ => by simp [setT])]; simp [sa_rd, (g y hy).2.2]⟩, fun x2 y hx hy => ⟨by simp [sa_rd, upd_rd, setT, (k x2 y hx hy).1], by simp [sa_rd, upd_rd, setT, (k x2 y hx hy).2]⟩⟩
theorem RM_45 {x : Nat} (h : RM S m n r T) : RM (su S 45 0 x v) m n r (setT T 6 x v) := by
  obtain ⟨⟨b, c, d, e⟩, f, g, k⟩ := h
  exact ⟨⟨by simp [sa_rd, upd_rd, setT, b], by simp [sa_rd, upd_rd, setT, c], by simp [sa_rd, upd_rd, setT, d], by simp [sa_rd, upd_rd, setT, e]⟩, fun x2 hx => ⟨by simp [sa_rd, upd_rd, setT, (f x2 hx).1], by simp [sa_rd, upd_rd, setT, (f x2 hx).2]⟩, fun y hy => ⟨by simp [sa_rd, upd_rd, setT, (g y hy).1], by simp [sa_rd, upd_rd, setT, (g y hy).2.1], by rw [hus_congr (w2 := T 2) m 0 (fun j _ _ => by simp [setT])]; simp [sa_rd, (g y hy).2.2]⟩, fun x2 y hx hy => ⟨by simp [sa_rd, upd_rd, setT, (k x2 y hx hy).1], by simp [sa_rd, upd_rd, setT, (k x2 y hx hy).2]⟩⟩
theorem RM_m (h : RM S m n r T) : RM (su S 40 0 16 v) m n r (setT T 0 0 v) := by
  obtain ⟨⟨b, c, d, e⟩, f, g, k⟩ := h
  exact ⟨⟨by simp [sa_rd, upd_rd, setT, b], by simp [sa_rd, upd_rd, setT, c], by simp [sa_rd, upd_rd, setT, d], by simp [sa_rd, upd_rd, setT, e]⟩, fun x2 hx => ⟨by simp [sa_rd, upd_rd, setT, (f x2 hx).1], by simp [sa_rd, upd_rd, setT, (f x2 hx).2]⟩, fun y hy => ⟨by simp [sa_rd, upd_rd, setT, (g y hy).1], by simp [sa_rd, upd_rd, setT, (g y hy).2.1], by rw [hus_congr (w2 := T 2) m 0 (fun j _ _ => by simp [setT])]; simp [sa_rd, (g y hy).2.2]⟩, fun x2 y hx hy => ⟨by simp [sa_rd, upd_rd, setT, (k x2 y hx hy).1], by simp [sa_rd, upd_rd, setT, (k x2 y hx hy).2]⟩⟩
theorem VT_1 {x j : Nat} (h : VT m n T) (hj : j ≤ 9) : VT m n (setT T 1 x (nI j)) := by
  obtain ⟨a, b, c, d, e, f, g, k⟩ := h
  refine ⟨a, fun x2 hx => ?_, c, d, e, f, g, k⟩
  by_cases q : x2 = x
  · subst q; exact ⟨j, hj, setT_eq⟩
  · rw [setT_nj q]; exact b x2 hx
theorem VT_4 {x j : Nat} (h : VT m n T) (hj : j ≤ 9) : VT m n (setT T 4 x (nI j)) := by
  obtain ⟨a, b, c, d, e, f, g, k⟩ := h
  refine ⟨a, b, c, fun x2 hx => ?_, e, f, g, k⟩
  by_cases q : x2 = x
  · subst q; exact ⟨j, hj, setT_eq⟩
  · rw [setT_nj q]; exact d x2 hx
theorem VT_5 {x j : Nat} (h : VT m n T) (hj : j ≤ 99) : VT m n (setT T 5 x (nI j)) := by
  obtain ⟨a, b, c, d, e, f, g, k⟩ := h
  refine ⟨a, b, c, d, fun x2 y2 hx hy => ?_, f, g, k⟩
  by_cases q : 4 * x2 + y2 = x
  · rw [q]; exact ⟨j, hj, setT_eq⟩
  · rw [setT_nj q]; exact e x2 y2 hx hy
theorem VT_6 {x j : Nat} (h : VT m n T) (hj : j ≤ 99) : VT m n (setT T 6 x (nI j)) := by
  obtain ⟨a, b, c, d, e, f, g, k⟩ := h
  refine ⟨a, b, c, d, e, fun x2 y2 hx hy => ?_, g, k⟩
  by_cases q : 4 * x2 + y2 = x
  · rw [q]; exact ⟨j, hj, setT_eq⟩
  · rw [setT_nj q]; exact f x2 y2 hx hy
theorem VT_0 {j : Nat} (h : VT m n T) (hj : j ≤ 99) : VT m n (setT T 0 0 (nI j)) := by
  obtain ⟨a, b, c, d, e, f, g, k⟩ := h
  exact ⟨⟨j, hj, setT_eq⟩, b, c, d, e, f, g, k⟩
theorem VT_2n {x : Nat} (h : VT m n T) : VT m n (setT T 2 x (-1)) := by
  obtain ⟨a, b, c, d, e, f, g, k⟩ := h
  refine ⟨a, b, c, d, e, f, fun x2 hx => ?_, fun x2 x3 h2 h3 q w => ?_⟩
  · by_cases q : x2 = x
    · subst q; exact Or.inl setT_eq
    · rw [setT_nj q]; exact g x2 hx
  · by_cases e2 : x2 = x
    · subst e2; exact absurd setT_eq w
    · by_cases e3 : x3 = x
      · subst e3; rw [setT_nj e2, setT_eq] at q; rw [setT_nj e2] at w; exact absurd q w
      · rw [setT_nj e2, setT_nj e3] at q; rw [setT_nj e2] at w; exact k x2 x3 h2 h3 q w
theorem VT_2y {x y : Nat} (h : VT m n T) (hy : y < n) (hn : n ≤ 4) (hno : ∀ j, j < m → T 2 j ≠ nI y) : VT m n (setT T 2 x (nI y)) := by
  obtain ⟨a, b, c, d, e, f, g, k⟩ := h
  refine ⟨a, b, c, d, e, f, fun x2 hx => ?_, fun x2 x3 h2 h3 q w => ?_⟩
  · by_cases q : x2 = x
    · subst q; exact Or.inr ⟨y, hy, setT_eq⟩
    · rw [setT_nj q]; exact g x2 hx
  · by_cases e2 : x2 = x
    · by_cases e3 : x3 = x
      · rw [e2, e3]
      · subst e2; rw [setT_eq, setT_nj e3] at q; exact absurd q.symm (hno x3 h3)
    · by_cases e3 : x3 = x
      · subst e3; rw [setT_eq, setT_nj e2] at q; exact absurd q (hno x2 h2)
      · rw [setT_nj e2, setT_nj e3] at q; rw [setT_nj e2] at w; exact k x2 x3 h2 h3 q w
end
