/-! TOWNS in the abstract: who may ask, who says no, what is worth what; both sides answer by these -/
def bI (b : Bool) : Int32 := bif b then 1 else 0
theorem bI_0 {b : Bool} : bI b = 0 ↔ b = false := by cases b <;> decide
theorem bI_1 {b : Bool} : bI b = 1 ↔ b = true := by cases b <;> decide
theorem bI_t : bI true = 1 := rfl
theorem bI_f : bI false = 0 := rfl
theorem i10 : ¬ (1 : Int32) = 0 := by decide
/-- a branch by a truth -/
theorem bI_if {b : Bool} {A B : Prop} (f : b = false → A) (g : b = true → B) : if bI b = 0 then A else B := by
  cases b
  · exact (if_pos rfl : (if bI false = 0 then A else B) = A) ▸ f rfl
  · exact (if_neg i10 : (if bI true = 0 then A else B) = B) ▸ g rfl
theorem if_of {c : Prop} [Decidable c] {A B : Prop} (f : c → A) (g : ¬ c → B) : if c then A else B := by
  by_cases h : c
  · rw [if_pos h]; exact f h
  · rw [if_neg h]; exact g h
/-- questions change no more than this -/
def fq (S S' : St) : Prop := (∀ kd i, kd ≠ 9 → kd ≠ 17 → kd ≠ 40 → S'.1 kd i = S.1 kd i) ∧ ∀ j, j < 17 ∨ 31 < j → S'.1 40 0 j = S.1 40 0 j
theorem fq_rfl (S : St) : fq S S := ⟨fun _ _ _ _ _ => rfl, fun _ _ => rfl⟩
theorem fq_tr {S S1 S2 : St} (h : fq S S1) (g : fq S1 S2) : fq S S2 := ⟨fun kd i a b c => (g.1 kd i a b c).trans (h.1 kd i a b c), fun j a => (g.2 j a).trans (h.2 j a)⟩
theorem fq_17 {S S1 : St} {t j : Nat} {v : Int32} (h : fq S S1) : fq S (su S1 17 t j v) := fq_tr h ⟨fun kd i _ b _ => su_nk (fun q => b q.1), fun _ _ => by rw [su_nk (fun q => absurd q.1 (by decide))]⟩
theorem fq_9 {S S1 : St} {t j : Nat} {v : Int32} (h : fq S S1) : fq S (su S1 9 t j v) := fq_tr h ⟨fun kd i b _ _ => su_nk (fun q => b q.1), fun _ _ => by rw [su_nk (fun q => absurd q.1 (by decide))]⟩
theorem fq_40 {S S1 : St} {j : Nat} {v : Int32} (h : fq S S1) (hj : 17 ≤ j) (hj2 : j ≤ 31) : fq S (su S1 40 0 j v) := fq_tr h ⟨fun kd i _ _ b => su_nk (fun q => b q.1), fun k hk => su_nj (by omega)⟩
theorem fq_l {S S1 : St} {v : Int64} (h : fq S S1) : fq S (sl S1 v) := h
theorem k_12 : ((1 : Int32) = 2) = False := eq_false (by decide)
theorem k_13 : ((1 : Int32) = 3) = False := eq_false (by decide)
theorem k_14 : ((1 : Int32) = 4) = False := eq_false (by decide)
theorem k_15 : ((1 : Int32) = 5) = False := eq_false (by decide)
theorem k_21 : ((2 : Int32) = 1) = False := eq_false (by decide)
theorem k_23 : ((2 : Int32) = 3) = False := eq_false (by decide)
theorem k_24 : ((2 : Int32) = 4) = False := eq_false (by decide)
theorem k_25 : ((2 : Int32) = 5) = False := eq_false (by decide)
theorem k_31 : ((3 : Int32) = 1) = False := eq_false (by decide)
theorem k_32 : ((3 : Int32) = 2) = False := eq_false (by decide)
theorem k_34 : ((3 : Int32) = 4) = False := eq_false (by decide)
theorem k_35 : ((3 : Int32) = 5) = False := eq_false (by decide)
theorem k_41 : ((4 : Int32) = 1) = False := eq_false (by decide)
theorem k_42 : ((4 : Int32) = 2) = False := eq_false (by decide)
theorem k_43 : ((4 : Int32) = 3) = False := eq_false (by decide)
theorem k_45 : ((4 : Int32) = 5) = False := eq_false (by decide)
theorem k_51 : ((5 : Int32) = 1) = False := eq_false (by decide)
theorem k_52 : ((5 : Int32) = 2) = False := eq_false (by decide)
theorem k_53 : ((5 : Int32) = 3) = False := eq_false (by decide)
theorem k_54 : ((5 : Int32) = 4) = False := eq_false (by decide)
/-- KINDS -/
def needF (a b : Int32) : Int32 := if a = 1 then 0 else if a = 2 then 1 + (b - b / 3 * 3) else if a = 3 then 2 + (b - b / 3 * 3) else if a = 4 then 0 else if a = 5 then (if (b - b / 2 * 2) = 0 then 0 else 1) else 1
theorem sp_needs {a b : Int32} {S : St} {K : Int32 → St → Prop} (k : K (needF a b) S) : wpX0_needs a b S K := by
  unfold wpX0_needs; unfold needF at k
  repeat' (first | exact k | split | (split at k))
  all_goals (first | exact k | contradiction | simp_all)
def prcF (a b : Int32) : Int32 := if a = 1 then b + 5 else if a = 2 then 2 * b else if a = 3 then (if ((2 * b) - 3) < 0 then 0 else ((2 * b) - 3)) else if a = 4 then 0 else if a = 5 then b + 1 else b
theorem sp_price {a b : Int32} {S : St} {K : Int32 → St → Prop} (k : K (prcF a b) S) : wpX0_price a b S K := by
  unfold wpX0_price; unfold prcF at k
  by_cases h1 : a = 1
  · simp only [h1, if_true] at k ⊢; exact k
  by_cases h2 : a = 2
  · simp only [h1, h2, if_true, if_false] at k ⊢; exact k
  by_cases h3 : a = 3
  · simp only [h1, h2, h3, if_true, if_false] at k ⊢; exact k
  by_cases h4 : a = 4
  · simp only [h1, h2, h3, h4, if_true, if_false] at k ⊢; exact k
  by_cases h5 : a = 5
  · simp only [h1, h2, h3, h4, h5, if_true, if_false] at k ⊢; exact k
  simp only [h1, h2, h3, h4, h5, if_false] at k ⊢; exact k
def refF (a b li no : Int32) : Bool := if a = 1 then !decide (50 ≤ li) && !decide (10 * b ≤ li) else if a = 2 then !decide (50 ≤ li) || !decide (no ≤ 2) else if a = 3 then !decide (50 ≤ li) || !decide (no ≤ 2) || !decide (70 ≤ li) else if a = 4 then true else if a = 5 then !decide ((no + b) - (no + b) / 2 * 2 = 0) else !decide (50 ≤ li)
theorem sp_refuses {a b li no : Int32} {S : St} {K : Int32 → St → Prop} (k : K (bI (refF a b li no)) S) : wpX0_refuses a b li no S K := by
  unfold wpX0_refuses wbX0_refuses_11 wbX0_refuses_77 wbX0_refuses_99; unfold refF at k
  have n1 : narrow .boolean (.int 1) = .int 1 := by decide
  have n0 : narrow .boolean (.int 0) = .int 0 := by decide
  have q : (2 < no) = ¬ (no ≤ 2) := propext Int32.not_le.symm
  simp only [q]
  by_cases g : no ≤ 2 <;> by_cases h : (50 : Int32) ≤ li <;> by_cases h7 : (70 : Int32) ≤ li <;> by_cases h8 : 10 * b ≤ li <;> by_cases h9 : (no + b) - (no + b) / 2 * 2 = 0 <;> simp only [g, h, h7, h8, h9, decide_true, decide_false, Bool.not_true, Bool.not_false, Bool.false_and, Bool.true_and, Bool.or_true, Bool.or_false, Bool.or_self, Bool.and_self, if_true, if_false, i10, n0, n1, not_true, not_false_eq_true, true_and] at k ⊢ <;>
  (by_cases c1 : a = 1
   · simp only [c1, if_true] at k ⊢; exact k
   by_cases c2 : a = 2
   · simp only [c1, c2, if_true, if_false] at k ⊢; exact k
   by_cases c3 : a = 3
   · simp only [c1, c2, c3, if_true, if_false] at k ⊢; exact k
   by_cases c4 : a = 4
   · simp only [c1, c2, c3, c4, if_true, if_false] at k ⊢; exact k
   by_cases c5 : a = 5
   · simp only [c1, c2, c3, c4, c5, if_true, if_false] at k ⊢; exact k
   simp only [c1, c2, c3, c4, c5, if_false] at k ⊢; exact k)
/-- rules: what a part says, by the six NAMES -/
abbrev Rl := Nat → Int32 → Int32 → Int32 → Int32 → Int32 → Int32 → Int32
def RuC (S : St) (r : Nat) (U : Rl) : Prop := ∀ (p t : Nat) (S1 : St) (K : Int32 → St → Prop), p < 3 → S1.1 7 r = S.1 7 r → S1.1 8 r = S.1 8 r →
  (∀ S2, fq S1 S2 → K (U p (S1.1 17 t 1) (S1.1 17 t 2) (S1.1 17 t 3) (S1.1 17 t 4) (S1.1 17 t 5) (S1.1 17 t 6)) S2) → wpX3_value r (nI p) t S1 K
def RuM (S : St) (r : Nat) (U : Rl) : Prop := ∀ (p : Nat) (S1 : St) (K : Int32 → St → Prop), p < 3 → (∀ j, j < 160 → S1.1 41 0 (160 * r + j) = S.1 41 0 (160 * r + j)) → S1.1 42 0 r = S.1 42 0 r →
  (∀ S2, fq S1 S2 → K (U p (S1.1 40 0 17) (S1.1 40 0 18) (S1.1 40 0 19) (S1.1 40 0 20) (S1.1 40 0 21) (S1.1 40 0 22)) S2) → wpX8_read (nI r) (nI p) S1 K
theorem RuC_fr {S S1 : St} {r : Nat} {U : Rl} (h : RuC S r U) (a : S1.1 7 r = S.1 7 r) (b : S1.1 8 r = S.1 8 r) : RuC S1 r U := fun p t S2 K hp h1 h2 k => h p t S2 K hp (h1.trans a) (h2.trans b) k
theorem RuM_fr {S S1 : St} {r : Nat} {U : Rl} (h : RuM S r U) (a : ∀ j, j < 160 → S1.1 41 0 (160 * r + j) = S.1 41 0 (160 * r + j)) (b : S1.1 42 0 r = S.1 42 0 r) : RuM S1 r U := fun p S2 K hp h1 h2 k => h p S2 K hp (fun j hj => (h1 j hj).trans (a j hj)) (h2.trans b) k
/-- what the questions answer -/
abbrev Tn := Nat → Nat → Int32
def valF (U : Rl) (p : Nat) (T : Tn) (x y : Nat) (had : Int32) : Int32 := U p (T 5 (4 * x + y)) (T 6 (4 * x + y)) had (T 0 0) (nI x) (nI y)
def noB (U : Rl) (T : Tn) (x y : Nat) (had : Int32) : Bool := refF (T 3 y) (T 4 y) (T 6 (4 * x + y)) had || decide (valF U 0 T x y had = 0)
def mayB (m : Nat) (T : Tn) (x y : Nat) : Bool := decide (T 2 x = -1) && decide (husU (T 2) (nI y) m 0 = -1) && !decide (T 1 x < needF (T 3 y) (T 4 y))
def clamp99 (v : Int32) : Int32 := if 0 < (if 99 < v then 99 else v : Int32) then (if 99 < v then 99 else v : Int32) else 0
def worF (U : Rl) (T : Tn) (x y : Nat) : Int32 := clamp99 (valF U 1 T x y (T 1 x))
def wanB (U : Rl) (T : Tn) (x y : Nat) : Bool := !decide (valF U 2 T x y (T 1 x) = 0)
/-- the class's town t: frames -/
theorem RT_fr {S S1 : St} {t m n r : Nat} {T : Tn} (h : RT S t m n r T) (g : ∀ kd, 10 ≤ kd → kd ≤ 16 → S1.1 kd t = S.1 kd t) : RT S1 t m n r T := by
  unfold RT at h ⊢
  rw [g 10 (by omega) (by omega), g 11 (by omega) (by omega), g 12 (by omega) (by omega), g 13 (by omega) (by omega), g 14 (by omega) (by omega), g 15 (by omega) (by omega), g 16 (by omega) (by omega)]
  exact h
theorem RT_fq {S S1 : St} {t m n r : Nat} {T : Tn} (h : RT S t m n r T) (g : fq S S1) : RT S1 t m n r T := RT_fr h (fun kd a b => g.1 kd t (by omega) (by omega) (by omega))
theorem RM_fq {S S1 : St} {m n r : Nat} {T : Tn} (h : RM S m n r T) (g : fq S S1) : RM S1 m n r T := by
  unfold RM at h ⊢
  rw [g.2 7 (by omega), g.2 8 (by omega), g.2 16 (by omega), g.2 4 (by omega), g.1 46 0 (by omega) (by omega) (by omega), g.1 47 0 (by omega) (by omega) (by omega), g.1 48 0 (by omega) (by omega) (by omega), g.1 49 0 (by omega) (by omega) (by omega), g.1 50 0 (by omega) (by omega) (by omega), g.1 44 0 (by omega) (by omega) (by omega), g.1 45 0 (by omega) (by omega) (by omega)]
  exact h
theorem RuC_fq {S S1 : St} {r : Nat} {U : Rl} (h : RuC S r U) (g : fq S S1) : RuC S1 r U := RuC_fr h (g.1 7 r (by omega) (by omega) (by omega)) (g.1 8 r (by omega) (by omega) (by omega))
theorem RuM_fq {S S1 : St} {r : Nat} {U : Rl} (h : RuM S r U) (g : fq S S1) : RuM S1 r U := RuM_fr h (fun j _ => by rw [g.1 41 0 (by omega) (by omega) (by omega)]) (by rw [g.1 42 0 (by omega) (by omega) (by omega)])
theorem ix4 {x y m n : Nat} (hx : x < m) (hy : y < n) (hm : m ≤ 4) (hn : n ≤ 4) : 4 * x + y < 16 := by omega
theorem cl16 {x y m n : Nat} (hx : x < m) (hy : y < n) (hm : m ≤ 4) (hn : n ≤ 4) : (nI (4 * x + y)).toNatClampNeg = 4 * x + y := nI_clamp (by omega)
section
variable {S : St} {t m n r : Nat} {T : Tn} {U : Rl} {x y : Nat} {K : Int32 → St → Prop}
theorem sp_ruled {p : Nat} (h : RT S t m n r T) (hU : RuC S r U) (hp : p < 3) (hx : x < m) (hy : y < n) (k : ∀ S1, fq S S1 → K (valF U p T x y (T 1 x)) S1) : wpX5_ruled t (nI p) (nI x) (nI y) S K := by
  obtain ⟨⟨hm, hn, hr⟩, ⟨_, _, h2, h3⟩, hA, _, hB⟩ := h
  unfold wpX5_ruled
  refine sp_at ⟨vp_in_nI (ix4 hx hy hm hn) (by omega), pk_in 1 7 (by decide), fun S3 e => ?_⟩
  subst e
  refine sp_at ⟨vp_in_nI (ix4 hx hy hm hn) (by omega), pk_in 2 7 (by decide), fun S3 e => ?_⟩
  subst e
  refine ⟨vp_in_nI (by omega) (by omega), pk_in 3 7 (by decide), fun S3 e => ?_⟩
  subst e
  refine ⟨pk_in 4 7 (by decide), fun S3 e => ?_⟩
  subst e
  refine ⟨pk_in 5 7 (by decide), fun S3 e => ?_⟩
  subst e
  refine ⟨pk_in 6 7 (by decide), fun S3 e => ?_⟩
  subst e
  have c1 : ((1 : Int32).toNatClampNeg) = 1 := by decide
  have c2 : ((2 : Int32).toNatClampNeg) = 2 := by decide
  have c3 : ((3 : Int32).toNatClampNeg) = 3 := by decide
  have c4 : ((4 : Int32).toNatClampNeg) = 4 := by decide
  have c5 : ((5 : Int32).toNatClampNeg) = 5 := by decide
  have c6 : ((6 : Int32).toNatClampNeg) = 6 := by decide
  have cx : (nI x).toNatClampNeg = x := nI_clamp (by omega)
  have cr : (nI r).toNatClampNeg = r := nI_clamp (by omega)
  simp only [sa_rd, upd_rd, c1, c2, c3, c4, c5, c6, cx, cl16 hx hy hm hn, h2, h3, (hA x hx).1, (hB x y hx hy).1, (hB x y hx hy).2, cr, Nat.reduceEqDiff, false_and, if_false, true_and, if_true]
  refine ⟨hr, hU p t _ _ hp ?_ ?_ (fun S2 g => ?_)⟩
  · simp [sa_rd]
  · simp [sa_rd]
  · have e : valF U p T x y (T 1 x) = U p (T 5 (4 * x + y)) (T 6 (4 * x + y)) (T 1 x) (T 0 0) (nI x) (nI y) := rfl
    simp [sa_rd, upd_rd, ← e]
    refine k S2 (fq_tr ?_ g)
    constructor
    · intro kd i a b c
      simp [sa_rd, b]
    · intro j _
      simp [sa_rd]
theorem sp_hus_l {v : Int32} (h : RT S t m n r T) : ∀ d i, i + d = m → K (husU (T 2) v d i) S → wbX5_husband_2 t K v (d + 1) (nI i) S
  | 0, i, e, k => by
    obtain ⟨⟨hm, hn, hr⟩, ⟨h0, _⟩, hA, _⟩ := h
    show if S.1 10 t 0 ≤ nI i then _ else _
    rw [h0, if_pos (nI_le (by omega) (by omega))]
    exact k
  | d + 1, i, e, k => by
    obtain ⟨⟨hm, hn, hr⟩, ⟨h0, _⟩, hA, _⟩ := id h
    show if S.1 10 t 0 ≤ nI i then _ else _
    rw [h0, if_neg (nI_ge (by omega) (by omega)), nI_clamp (by omega), (hA i (by omega)).2]
    refine ⟨vp_in_nI (by omega) (by omega), ?_⟩
    unfold husU at k
    by_cases c : T 2 i = v
    · rw [if_pos c] at k ⊢; exact k
    · rw [if_neg c] at k ⊢; rw [nI_1]; exact sp_hus_l h d (i + 1) (by omega) k
theorem sp_husband {v : Int32} (h : RT S t m n r T) (k : K (husU (T 2) v m 0) S) : wpX5_husband t v S K := ⟨m + 1, sp_hus_l h m 0 (by omega) k⟩
theorem sp_mayAsk (h : RT S t m n r T) (hx : x < m) (hy : y < n) (k : K (bI (mayB m T x y)) S) : wpX5_mayAsk t (nI x) (nI y) S K := by
  obtain ⟨⟨hm, hn, hr⟩, ⟨_, _, h2, h3⟩, hA, hC, hB⟩ := id h
  unfold wpX5_mayAsk
  have vx : vp_in (nI x) 4 := vp_in_nI (by omega) (by omega)
  have vy : vp_in (nI y) 4 := vp_in_nI (by omega) (by omega)
  refine ⟨vx, ?_⟩
  unfold mayB at k
  rw [nI_clamp (by omega), (hA x hx).2]
  by_cases c : T 2 x = -1
  · rw [if_pos c]
    refine sp_husband h ?_
    by_cases c2 : husU (T 2) (nI y) m 0 = -1
    · rw [if_pos c2]
      refine ⟨vx, vy, vy, sp_needs ?_⟩
      rw [nI_clamp (by omega), (hA x hx).1, (hC y hy).1, (hC y hy).2]
      by_cases c3 : T 1 x < needF (T 3 y) (T 4 y)
      · rw [if_pos c3]; simpa [c, c2, c3, bI] using k
      · rw [if_neg c3]; simpa [c, c2, c3, bI] using k
    · rw [if_neg c2]; simpa [c, c2, bI] using k
  · rw [if_neg c]; simpa [c, bI] using k
theorem sp_saysNo (h : RT S t m n r T) (hU : RuC S r U) (hx : x < m) (hy : y < n) (k : ∀ S1, fq S S1 → K (bI (noB U T x y (T 1 x))) S1) : wpX5_saysNo t (nI x) (nI y) S K := by
  obtain ⟨⟨hm, hn, hr⟩, ⟨_, _, h2, h3⟩, hA, hC, hB⟩ := id h
  unfold wpX5_saysNo
  have vx : vp_in (nI x) 4 := vp_in_nI (by omega) (by omega)
  have vy : vp_in (nI y) 4 := vp_in_nI (by omega) (by omega)
  refine ⟨vy, vy, sp_at ⟨vp_in_nI (ix4 hx hy hm hn) (by omega), vx, sp_refuses ?_⟩⟩
  rw [nI_clamp (n := y) (by omega), nI_clamp (n := x) (by omega), cl16 hx hy hm hn, (hA x hx).1, (hC y hy).1, (hC y hy).2, (hB x y hx hy).2]
  unfold noB at k
  refine bI_if (fun c => sp_ruled (p := 0) h hU (by omega) hx hy (fun S1 g => ?_)) (fun c => ?_)
  · have := k S1 g
    by_cases c2 : valF U 0 T x y (T 1 x) = 0
    · rw [if_pos c2]; simpa [c, c2, bI, wbX5_saysNo_44] using this
    · rw [if_neg c2]; simpa [c, c2, bI] using this
  · have := k S (fq_rfl S)
    simpa [c, bI, wbX5_saysNo_44] using this
theorem sp_worth (h : RT S t m n r T) (hU : RuC S r U) (hx : x < m) (hy : y < n) (k : ∀ S1, fq S S1 → K (worF U T x y) S1) : wpX5_worth t (nI x) (nI y) S K :=
  sp_ruled (p := 1) h hU (by omega) hx hy (fun S1 g => k S1 g)
theorem sp_wants (h : RT S t m n r T) (hU : RuC S r U) (hx : x < m) (hy : y < n) (k : ∀ S1, fq S S1 → K (bI (wanB U T x y)) S1) : wpX5_wants t (nI x) (nI y) S K := by
  refine sp_ruled (p := 2) h hU (by omega) hx hy (fun S1 g => ?_)
  have := k S1 g
  unfold wanB at this
  by_cases c2 : valF U 2 T x y (T 1 x) = 0
  · rw [if_pos c2]; simpa [c2, bI] using this
  · rw [if_neg c2]; simpa [c2, bI] using this
/-- the reference -/
theorem mp_needs (h : RM S m n r T) (hn : n ≤ 4) (hy : y < n) (k : K (needF (T 3 y) (T 4 y)) S) : wpX8_needs (nI y) S K := by
  obtain ⟨_, _, hC, _⟩ := h
  have vy : vp_in (nI y) 4 := vp_in_nI (by omega) (by omega)
  unfold wpX8_needs wbX8_needs_29 wbX8_needs_49
  rw [nI_clamp (by omega), (hC y hy).1, (hC y hy).2.1]
  refine ⟨vy, ?_⟩
  unfold needF at k
  have e2 : ∀ v : Int32, 1 + v + 0 = 1 + v := fun v => Int32.add_zero _
  have e3 : ∀ v : Int32, 1 + v + 1 = 2 + v := fun v => by rw [Int32.add_comm 1 v, Int32.add_assoc, Int32.add_comm v]; rfl
  by_cases c1 : T 3 y = 1
  · simp only [c1, if_true] at k ⊢; exact k
  by_cases c4 : T 3 y = 4
  · simp only [c1, c4, if_true, if_false, k_12, k_13, k_14, k_15, k_21, k_23, k_24, k_25, k_31, k_32, k_34, k_35, k_41, k_42, k_43, k_45, k_51, k_52, k_53, k_54] at k ⊢; exact k
  by_cases c2 : T 3 y = 2
  · simp only [c1, c4, c2, if_true, if_false, k_12, k_13, k_14, k_15, k_21, k_23, k_24, k_25, k_31, k_32, k_34, k_35, k_41, k_42, k_43, k_45, k_51, k_52, k_53, k_54, e2] at k ⊢; exact ⟨vy, k⟩
  by_cases c3 : T 3 y = 3
  · simp only [c1, c4, c2, c3, if_true, if_false, k_12, k_13, k_14, k_15, k_21, k_23, k_24, k_25, k_31, k_32, k_34, k_35, k_41, k_42, k_43, k_45, k_51, k_52, k_53, k_54, e3] at k ⊢; exact ⟨vy, k⟩
  by_cases c5 : T 3 y = 5
  · simp only [c1, c4, c2, c3, c5, if_true, if_false, k_12, k_13, k_14, k_15, k_21, k_23, k_24, k_25, k_31, k_32, k_34, k_35, k_41, k_42, k_43, k_45, k_51, k_52, k_53, k_54] at k ⊢
    refine ⟨vy, ?_⟩
    split at k <;> rename_i q
    · rw [if_pos q]; exact k
    · rw [if_neg q]; exact k
  simp only [c1, c4, c2, c3, c5, if_false] at k ⊢; exact k
theorem mp_price (h : RM S m n r T) (hV : VT m n T) (hn : n ≤ 4) (hy : y < n) (k : K (prcF (T 3 y) (T 4 y)) S) : wpX8_price (nI y) S K := by
  obtain ⟨_, _, hC, _⟩ := h
  have vy : vp_in (nI y) 4 := vp_in_nI (by omega) (by omega)
  obtain ⟨j, hj, ej⟩ := hV.2.2.2.1 y hy
  unfold wpX8_price wbX8_price_24 wbX8_price_42 wbX8_price_79
  rw [nI_clamp (by omega), (hC y hy).1, (hC y hy).2.1]
  refine ⟨vy, ?_⟩
  unfold prcF at k
  by_cases c4 : T 3 y = 4
  · simp only [c4, if_true, if_false, k_12, k_13, k_14, k_15, k_21, k_23, k_24, k_25, k_31, k_32, k_34, k_35, k_41, k_42, k_43, k_45, k_51, k_52, k_53, k_54] at k ⊢; exact k
  by_cases c2 : T 3 y = 2
  · simp only [c2, if_true, if_false, k_12, k_13, k_14, k_15, k_21, k_23, k_24, k_25, k_31, k_32, k_34, k_35, k_41, k_42, k_43, k_45, k_51, k_52, k_53, k_54, Int32.sub_zero] at k ⊢
    refine ⟨vy, ?_⟩
    rw [if_pos ?_]; exact k
    rw [ej, lit32 2, pk_mul]; exact nI_pos' (by omega)
  by_cases c3 : T 3 y = 3
  · simp only [c3, if_true, if_false, k_12, k_13, k_14, k_15, k_21, k_23, k_24, k_25, k_31, k_32, k_34, k_35, k_41, k_42, k_43, k_45, k_51, k_52, k_53, k_54] at k ⊢
    refine ⟨vy, ?_⟩
    split at k <;> rename_i q
    · rw [if_neg (Int32.not_le.mpr q)]; exact k
    · rw [if_pos (Int32.not_lt.mp q)]; exact k
  by_cases c1 : T 3 y = 1
  · simp only [c1, if_true, if_false, k_12, k_13, k_14, k_15, k_21, k_23, k_24, k_25, k_31, k_32, k_34, k_35, k_41, k_42, k_43, k_45, k_51, k_52, k_53, k_54] at k ⊢; exact ⟨vy, k⟩
  by_cases c5 : T 3 y = 5
  · simp only [c5, if_true, if_false, k_12, k_13, k_14, k_15, k_21, k_23, k_24, k_25, k_31, k_32, k_34, k_35, k_41, k_42, k_43, k_45, k_51, k_52, k_53, k_54] at k ⊢; exact ⟨vy, k⟩
  simp only [c1, c4, c2, c3, c5, if_false, Int32.add_zero] at k ⊢; exact ⟨vy, k⟩
theorem mp_refuses {li no : Int32} (h : RM S m n r T) (hV : VT m n T) (hn : n ≤ 4) (hy : y < n) (hno : ∃ j, j ≤ 9 ∧ no = nI j) (k : K (bI (refF (T 3 y) (T 4 y) li no)) S) : wpX8_refuses (nI y) li no S K := by
  obtain ⟨_, _, hC, _⟩ := h
  have vy : vp_in (nI y) 4 := vp_in_nI (by omega) (by omega)
  obtain ⟨j, hj, ej⟩ := hV.2.2.2.1 y hy
  obtain ⟨i, hi, ei⟩ := hno
  have q1 : (li < 50) = ¬ (50 ≤ li) := propext Int32.not_le.symm
  have q2 : (2 < no) = ¬ (no ≤ 2) := propext Int32.not_le.symm
  have q5 : ((no + T 4 y) - (no + T 4 y) / 2 * 2 = 1) = ¬ ((no + T 4 y) - (no + T 4 y) / 2 * 2 = 0) := by
    rw [ej, ei, nI_add, lit32 2, pk_rem (by omega) (by omega) (by omega), lit32 1, lit32 0, nI_eq (by omega) (by omega), nI_eq (by omega) (by omega)]
    exact propext (by omega)
  unfold wpX8_refuses wbX8_refuses_91 wbX8_refuses_96 wbX8_refuses_108
  rw [nI_clamp (by omega), (hC y hy).1, (hC y hy).2.1]
  refine ⟨vy, ?_⟩
  unfold refF at k
  simp only [q1, q2, q5]
  by_cases g : no ≤ 2 <;> by_cases h5 : (50 : Int32) ≤ li <;> by_cases h7 : (70 : Int32) ≤ li <;> by_cases h8 : 10 * T 4 y ≤ li <;> by_cases h9 : (no + T 4 y) - (no + T 4 y) / 2 * 2 = 0 <;> simp only [g, h5, h7, h8, h9, decide_true, decide_false, Bool.not_true, Bool.not_false, Bool.false_and, Bool.true_and, Bool.or_true, Bool.or_false, Bool.or_self, Bool.and_self, if_true, if_false, not_true, not_false_eq_true] at k ⊢ <;>
  (by_cases c1 : T 3 y = 1
   · simp only [c1, if_true, if_false, k_12, k_13, k_14, k_15, k_21, k_23, k_24, k_25, k_31, k_32, k_34, k_35, k_41, k_42, k_43, k_45, k_51, k_52, k_53, k_54] at k ⊢; first | exact k | exact ⟨vy, k⟩
   by_cases c2 : T 3 y = 2
   · simp only [c2, if_true, if_false, k_12, k_13, k_14, k_15, k_21, k_23, k_24, k_25, k_31, k_32, k_34, k_35, k_41, k_42, k_43, k_45, k_51, k_52, k_53, k_54] at k ⊢; first | exact k | exact ⟨vy, k⟩
   by_cases c3 : T 3 y = 3
   · simp only [c3, if_true, if_false, k_12, k_13, k_14, k_15, k_21, k_23, k_24, k_25, k_31, k_32, k_34, k_35, k_41, k_42, k_43, k_45, k_51, k_52, k_53, k_54] at k ⊢; first | exact k | exact ⟨vy, k⟩
   by_cases c4 : T 3 y = 4
   · simp only [c4, if_true, if_false, k_12, k_13, k_14, k_15, k_21, k_23, k_24, k_25, k_31, k_32, k_34, k_35, k_41, k_42, k_43, k_45, k_51, k_52, k_53, k_54] at k ⊢; first | exact k | exact ⟨vy, k⟩
   by_cases c5 : T 3 y = 5
   · simp only [c5, if_true, if_false, k_12, k_13, k_14, k_15, k_21, k_23, k_24, k_25, k_31, k_32, k_34, k_35, k_41, k_42, k_43, k_45, k_51, k_52, k_53, k_54] at k ⊢; first | exact k | exact ⟨vy, k⟩
   simp only [c1, c2, c3, c4, c5, if_false] at k ⊢; first | exact k | exact ⟨vy, k⟩)
theorem mp_says {p : Nat} {had : Int32} (h : RM S m n r T) (hm : m ≤ 4) (hn : n ≤ 4) (hU : RuM S r U) (hp : p < 3) (hx : x < m) (hy : y < n) (k : ∀ S1, fq S S1 → K (valF U p T x y had) S1) : wpX8_says (nI p) (nI x) (nI y) had S K := by
  obtain ⟨⟨_, _, h2, h3⟩, hA, _, hB⟩ := h
  unfold wpX8_says
  rw [at4]
  refine ⟨vp_in_nI (ix4 hx hy hm hn) (by omega), fun S3 e => ?_⟩
  subst e
  refine ⟨vp_in_nI (ix4 hx hy hm hn) (by omega), fun S3 e => ?_⟩
  subst e
  refine fun S3 e => ?_
  subst e
  refine fun S3 e => ?_
  subst e
  refine fun S3 e => ?_
  subst e
  refine fun S3 e => ?_
  subst e
  simp only [sa_rd, upd_rd, cl16 hx hy hm hn, h2, h3, (hB x y hx hy).1, (hB x y hx hy).2, Nat.reduceEqDiff, false_and, if_false, true_and, if_true]
  refine hU p _ _ hp ?_ ?_ (fun S2 g => ?_)
  · intro j hj; simp [sa_rd]
  · simp [sa_rd]
  · have e : valF U p T x y had = U p (T 5 (4 * x + y)) (T 6 (4 * x + y)) had (T 0 0) (nI x) (nI y) := rfl
    simp [sa_rd, upd_rd, ← e]
    refine k S2 (fq_tr ?_ g)
    constructor
    · intro kd i a b c
      simp [sa_rd, c]
    · intro j hj
      have a1 : j ≠ 17 := by omega
      have a2 : j ≠ 18 := by omega
      have a3 : j ≠ 19 := by omega
      have a4 : j ≠ 20 := by omega
      have a5 : j ≠ 21 := by omega
      have a6 : j ≠ 22 := by omega
      simp [sa_rd, upd_rd, a1, a2, a3, a4, a5, a6]
theorem mp_saysNo {had : Int32} (h : RM S m n r T) (hV : VT m n T) (hm : m ≤ 4) (hn : n ≤ 4) (hU : RuM S r U) (hno : ∃ j, j ≤ 9 ∧ had = nI j) (hx : x < m) (hy : y < n) (k : ∀ S1, fq S S1 → K (bI (noB U T x y had)) S1) : wpX8_saysNo (nI x) (nI y) had S K := by
  obtain ⟨⟨_, _, h2, h3⟩, hA, hC, hB⟩ := id h
  unfold wpX8_saysNo
  rw [at4]
  refine ⟨vp_in_nI (ix4 hx hy hm hn) (by omega), ?_⟩
  rw [cl16 hx hy hm hn, (hB x y hx hy).2]
  refine mp_refuses h hV hn hy hno ?_
  unfold noB at k
  refine bI_if (fun c => mp_says (p := 0) h hm hn hU (by omega) hx hy (fun S1 g => ?_)) (fun c => ?_)
  · have := k S1 g
    by_cases c2 : valF U 0 T x y had = 0
    · rw [if_pos c2]; simpa [c, c2, bI, wbX8_saysNo_30] using this
    · rw [if_neg c2]; simpa [c, c2, bI] using this
  · have := k S (fq_rfl S)
    simpa [c, bI, wbX8_saysNo_30] using this
theorem mp_mayAsk (h : RM S m n r T) (hm : m ≤ 4) (hn : n ≤ 4) (hx : x < m) (hy : y < n) (k : K (bI (mayB m T x y)) S) : wpX8_mayAsk (nI x) (nI y) S K := by
  obtain ⟨_, hA, hC, hB⟩ := id h
  unfold wpX8_mayAsk
  have vx : vp_in (nI x) 4 := vp_in_nI (by omega) (by omega)
  have vy : vp_in (nI y) 4 := vp_in_nI (by omega) (by omega)
  refine ⟨vx, ?_⟩
  unfold mayB at k
  rw [nI_clamp (by omega), nI_clamp (by omega), (hA x hx).2, (hC y hy).2.2]
  by_cases c : T 2 x = -1
  · rw [if_pos c]
    refine ⟨vy, ?_⟩
    by_cases c2 : husU (T 2) (nI y) m 0 = -1
    · rw [if_pos c2]
      refine ⟨vx, mp_needs h hn hy ?_⟩
      rw [(hA x hx).1]
      by_cases c3 : T 1 x < needF (T 3 y) (T 4 y)
      · rw [if_pos c3]; simpa [c, c2, c3, bI] using k
      · rw [if_neg c3]; simpa [c, c2, c3, bI] using k
    · rw [if_neg c2]; simpa [c, c2, bI] using k
  · rw [if_neg c]; simpa [c, bI] using k
theorem mp_clamp {v : Int32} (k : K (clamp99 v) S) : wpX8_within v 0 99 S K := by
  unfold wpX8_within; unfold clamp99 at k
  by_cases c : (99 : Int32) < v
  · have c2 : (0 : Int32) ≤ v := Int32.le_of_lt (Int32.lt_of_le_of_lt (by decide) c)
    rw [if_pos c2, if_neg (Int32.not_le.mpr c)]
    rw [if_pos c, if_pos (by decide)] at k
    exact k
  · rw [if_neg c] at k
    by_cases c2 : 0 < v
    · rw [if_pos c2] at k
      rw [if_pos (Int32.le_of_lt c2), if_pos (Int32.not_lt.mp c)]; exact k
    · rw [if_neg c2] at k
      by_cases c3 : 0 ≤ v
      · have : v = 0 := Int32.le_antisymm (Int32.not_lt.mp c2) c3
        subst this
        rw [if_pos (by decide), if_pos (by decide)]; exact k
      · rw [if_neg c3]; exact k
theorem mp_worth (h : RM S m n r T) (hm : m ≤ 4) (hn : n ≤ 4) (hU : RuM S r U) (hx : x < m) (hy : y < n) (k : ∀ S1, fq S S1 → K (worF U T x y) S1) : wpX8_worth (nI x) (nI y) S K := by
  refine ⟨vp_in_nI (by omega) (by omega), ?_⟩
  rw [nI_clamp (by omega), (h.2.1 x hx).1]
  exact mp_says (p := 1) h hm hn hU (by omega) hx hy (fun S1 g => mp_clamp (k S1 g))
theorem mp_wants (h : RM S m n r T) (hm : m ≤ 4) (hn : n ≤ 4) (hU : RuM S r U) (hx : x < m) (hy : y < n) (k : ∀ S1, fq S S1 → K (bI (wanB U T x y)) S1) : wpX8_wants (nI x) (nI y) S K := by
  refine ⟨vp_in_nI (by omega) (by omega), ?_⟩
  rw [nI_clamp (by omega), (h.2.1 x hx).1]
  refine mp_says (p := 2) h hm hn hU (by omega) hx hy (fun S1 g => ?_)
  have := k S1 g
  unfold wanB at this
  by_cases c2 : valF U 2 T x y (T 1 x) = 0
  · rw [if_pos c2]; simpa [c2, bI] using this
  · rw [if_neg c2]; simpa [c2, bI] using this
end
