section
/-! TEXTS in the abstract: codes and what they are worth; the reading of a TEXT -/
def joiF (t a x : Int32) : Int32 := if t = 10 then (if a = 0 then (if x = 0 then 0 else 1) else 1) else if t = 11 then (if a = 0 then 0 else if x = 0 then 0 else 1) else if t = 43 then a + x else if t = 45 then a - x else if t = 60 then (if x ≤ a then 0 else 1) else if t = 61 then (if a = x then 1 else 0) else a * x
def turF (c a : Int32) : Int32 := if c = -13 then -a else if a = 0 then 1 else 0
def tur1 (c : Int32) : List Int32 → List Int32
  | [] => []
  | a :: r => turF c a :: r
def joi1 (c : Int32) : List Int32 → List Int32
  | [] => []
  | [a] => [a]
  | x :: a :: r => joiF (-c) a x :: r
def stp (env : Nat → Int32) (c : Int32) (st : List Int32) : List Int32 := if c ≤ -7 then (if c = -12 ∨ c = -13 then tur1 c st else joi1 c st) else (if c < 0 then env (-c).toNatClampNeg else c) :: st
def rnS (env : Nat → Int32) : List Int32 → List Int32 → List Int32
  | [], st => st
  | c :: cs, st => rnS env cs (stp env c st)
theorem rnS_app {env : Nat → Int32} : ∀ (c d st : List Int32), rnS env (c ++ d) st = rnS env d (rnS env c st)
  | [], _, _ => rfl
  | x :: c, d, st => rnS_app c d (stp env x st)
def ev (env : Nat → Int32) (c : List Int32) : Int32 := (rnS env c []).headD 0
def Gd (c : List Int32) : Prop := ∀ env st, rnS env c st = ev env c :: st
theorem Gd_of {c : List Int32} {g : (Nat → Int32) → Int32} (h : ∀ env st, rnS env c st = g env :: st) : Gd c ∧ ∀ env, ev env c = g env := by
  have e : ∀ env, ev env c = g env := fun env => by unfold ev; rw [h env []]; rfl
  exact ⟨fun env st => by rw [h env st, e env], e⟩
theorem Gd_n {v : Nat} (hv : v < 2 ^ 31) : Gd [nI v] ∧ ∀ env, ev env [nI v] = nI v :=
  Gd_of (g := fun _ => nI v) (fun env st => by
    show stp env (nI v) st = _
    unfold stp
    have h0 : ¬ nI v < 0 := nI_pos hv
    rw [if_neg (fun q => h0 (Int32.lt_of_le_of_lt q (by decide))), if_neg h0])
theorem Gd_w {j : Nat} (h1 : 1 ≤ j) (hj : j ≤ 6) : Gd [-(nI j)] ∧ ∀ env, ev env [-(nI j)] = env j :=
  Gd_of (g := fun env => env j) (fun env st => by
    show stp env (-(nI j)) st = _
    unfold stp
    have : ∀ j, j < 7 → 1 ≤ j → ¬ (-(nI j)) ≤ (-7) ∧ -(nI j) < 0 ∧ (-(-(nI j))).toNatClampNeg = j := by decide
    obtain ⟨a, b, c⟩ := this j (by omega) h1
    rw [if_neg a, if_pos b, c])
theorem Gd_t {c : List Int32} {x : Int32} (h : Gd c) (hx : x = -12 ∨ x = -13) : Gd (c ++ [x]) ∧ ∀ env, ev env (c ++ [x]) = turF x (ev env c) :=
  Gd_of (g := fun env => turF x (ev env c)) (fun env st => by
    rw [rnS_app, h env st]
    show stp env x (ev env c :: st) = _
    unfold stp
    rw [if_pos (by rcases hx with rfl | rfl <;> decide), if_pos hx]; rfl)
def isJo (t : Int32) : Prop := t = 10 ∨ t = 11 ∨ t = 42 ∨ t = 43 ∨ t = 45 ∨ t = 60 ∨ t = 61
theorem Gd_j {c d : List Int32} {t : Int32} (h : Gd c) (g : Gd d) (ht : isJo t) : Gd (c ++ d ++ [-t]) ∧ ∀ env, ev env (c ++ d ++ [-t]) = joiF t (ev env c) (ev env d) :=
  Gd_of (g := fun env => joiF t (ev env c) (ev env d)) (fun env st => by
    rw [rnS_app, rnS_app, h env st, g env]
    show stp env (-t) (ev env d :: ev env c :: st) = _
    unfold stp
    have : -t ≤ -7 ∧ ¬ (-t = -12 ∨ -t = -13) ∧ - -t = t := by
      rcases ht with rfl | rfl | rfl | rfl | rfl | rfl | rfl <;> decide
    rw [if_pos this.1, if_neg this.2.1]
    show joiF (- -t) _ _ :: st = _
    rw [this.2.2])
abbrev Pr := Nat ⊕ (Nat × List Int32)
def bnd (r : Pr) (g : Nat → List Int32 → Pr) : Pr := match r with | .inl f => .inl f | .inr x => g x.1 x.2
def out (r : Pr) (A : Nat → Prop) (B : Nat → List Int32 → Prop) : Prop := match r with | .inl f => A f | .inr x => B x.1 x.2
theorem out_bnd {r : Pr} {g : Nat → List Int32 → Pr} {A : Nat → Prop} {B : Nat → List Int32 → Prop} : out (bnd r g) A B = out r A (fun q c => out (g q c) A B) := by cases r <;> rfl
theorem out_m {r : Pr} {A A1 A2 : Nat → Prop} {B B1 B2 : Nat → List Int32 → Prop} (h : out r A B) (g : out r A1 B1) (hA : ∀ f, A f → A1 f → A2 f) (hB : ∀ q c, B q c → B1 q c → B2 q c) : out r A2 B2 := by
  cases r with
  | inl f => exact hA f h g
  | inr x => exact hB x.1 x.2 h g
def lvO (t : Int32) : Nat := if t = 10 then 0 else if t = 11 then 1 else if t = 42 then 4 else if t = 43 then 3 else if t = 45 then 3 else if t = 60 then 2 else if t = 61 then 2 else 9
theorem lvO_jo {t : Int32} {lv : Nat} (h : lvO t = lv) (hl : lv ≤ 4) : isJo t := by
  unfold lvO at h
  unfold isJo
  by_cases c1 : t = 10
  · exact Or.inl c1
  by_cases c2 : t = 11
  · exact Or.inr (Or.inl c2)
  by_cases c3 : t = 42
  · exact Or.inr (Or.inr (Or.inl c3))
  by_cases c4 : t = 43
  · exact Or.inr (Or.inr (Or.inr (Or.inl c4)))
  by_cases c5 : t = 45
  · exact Or.inr (Or.inr (Or.inr (Or.inr (Or.inl c5))))
  by_cases c6 : t = 60
  · exact Or.inr (Or.inr (Or.inr (Or.inr (Or.inr (Or.inl c6)))))
  by_cases c7 : t = 61
  · exact Or.inr (Or.inr (Or.inr (Or.inr (Or.inr (Or.inr c7)))))
  rw [if_neg c1, if_neg c2, if_neg c3, if_neg c4, if_neg c5, if_neg c6, if_neg c7] at h
  omega
theorem jo_ne {t : Int32} (h : isJo t) : t ≠ -1 ∧ t ≠ -2 := by rcases h with rfl | rfl | rfl | rfl | rfl | rfl | rfl <;> decide
section
variable (z : Nat) (b : By)
def loP (P : Nat → Pr) (lv : Nat) : Nat → Nat → List Int32 → Pr
  | 0, s, c => .inr (s, c)
  | n + 1, s, c => if lvO (tT z b s) = lv then bnd (P (nx z b s)) (fun q c2 => loP P lv n q (c ++ c2 ++ [-(tT z b s)])) else .inr (s, c)
def oneP (P : Nat → Nat → Nat → Pr) (op s : Nat) : Pr :=
  if tT z b s = 0 then .inr (nx z b s, [nI (tV z b s)])
  else if 1 ≤ tT z b s ∧ tT z b s ≤ 6 then .inr (nx z b s, [-(tT z b s)])
  else if tT z b s = 45 then (if op < 5 then bnd (P 5 (op + 1) (nx z b s)) (fun q c => .inr (q, c ++ [-13])) else .inl s)
  else if tT z b s = 40 then (if op < 5 then bnd (P 0 (op + 1) (nx z b s)) (fun q c => if tT z b q = 41 then .inr (nx z b q, c) else .inl q) else .inl s)
  else .inl s
def levP (P : Nat → Nat → Nat → Pr) (lv op s : Nat) : Pr :=
  if lv = 2 ∧ tT z b s = 12 then (if op < 5 then bnd (P 2 (op + 1) (nx z b s)) (fun q c => .inr (q, c ++ [-12])) else .inl s)
  else bnd (P (lv + 1) op s) (fun q c => loP z b (P (lv + 1) op) lv (if lv = 2 then 1 else 160) q c)
def pars : Nat → Nat → Nat → Nat → Pr
  | 0 => fun _ _ s => .inl s
  | d + 1 => fun lv op s => if lv = 5 then oneP z b (pars d) op s else levP z b (pars d) lv op s
/-- the three parts from part j on, their codes -/
def parP : Nat → Nat → Nat → List (List Int32) → Nat ⊕ List (List Int32)
  | 0, _, s, cs => if tT z b s = -1 then .inr cs else .inl s
  | n + 1, j, s, cs => if tT z b s = nI (7 + j) then (match pars z b 40 0 0 (nx z b s) with | .inl f => .inl f | .inr x => if tT z b x.1 = 59 then parP n (j + 1) (nx z b x.1) (cs ++ [x.2]) else .inl x.1) else .inl s
def rdP : Nat ⊕ List (List Int32) := parP z b 3 0 (tkS z b 0) []
end
section
variable {z : Nat} {b : By}
/-- what holds of every good reading -/
def okR (z s q : Nat) (c : List Int32) : Prop := s + c.length ≤ q ∧ s < q ∧ q ≤ z ∧ Gd c
def okPs (z : Nat) (P : Nat → Pr) : Prop := ∀ s, s ≤ z → out (P s) (fun f => f ≤ z) (okR z s)
theorem loP_ok {P : Nat → Pr} {lv : Nat} (hP : okPs z P) (hl : lv ≤ 4) : ∀ n s0 s c, okR z s0 s c → out (loP z b P lv n s c) (fun f => f ≤ z) (okR z s0)
  | 0, s0, s, c, h => h
  | n + 1, s0, s, c, h => by
    unfold loP
    by_cases q : lvO (tT z b s) = lv
    · rw [if_pos q, out_bnd]
      have jo := lvO_jo q hl
      have hs := lt_of_tT (jo_ne jo).1
      have hn := nx_le (b := b) hs
      refine out_m (hP _ hn.2) (hP _ hn.2) (fun f a _ => a) (fun q2 c2 a _ => loP_ok hP hl n s0 q2 _ ?_)
      obtain ⟨a1, a2, a3, a4⟩ := a
      obtain ⟨h1, h2, h3, h4⟩ := h
      refine ⟨?_, by omega, a3, (Gd_j h4 a4 jo).1⟩
      simp only [List.length_append, List.length_cons, List.length_nil]
      omega
    · rw [if_neg q]; exact h
theorem tV_lt {s : Nat} (h : tT z b s = 0) : tV z b s < 2 ^ 31 := by
  have key : ∀ n p v, (∀ j, p ≤ j → j < p + n → isDg (b j) = true) → numP b n p v < (v + 1) * 10 ^ n := by
    intro n
    induction n with
    | zero => intro p v _; show v < _; omega
    | succ n ih =>
      intro p v hd
      have d := hd p (by omega) (by omega)
      unfold isDg at d
      rw [decide_eq_true_eq] at d
      obtain ⟨i, i1, i2, i3⟩ := in_nI (a := 48) (b := 57) (by omega) d (by omega)
      have := ih (p + 1) (10 * v + ((b p).toNatClampNeg - 48)) (fun j x y => hd j (by omega) (by omega))
      rw [i3, nI_clamp (by omega)] at this
      show numP b n (p + 1) (10 * v + ((b p).toNatClampNeg - 48)) < _
      rw [i3, nI_clamp (by omega)]
      refine Nat.lt_of_lt_of_le this ?_
      rw [Nat.pow_succ, ← Nat.mul_assoc, Nat.mul_right_comm]
      exact Nat.mul_le_mul_right _ (by omega)
  have hs := lt_of_tT (z := z) (b := b) (s := s) (by rw [h]; decide)
  unfold tV
  have r := runP_le (f := isDg) (b := b) (z - s) s
  have k1 := key (runP isDg b (z - s) s - s) s 0 (fun j x y => runP_all (z - s) s j x (by omega))
  have k2 : runP isDg b (z - s) s - s ≤ 4 := by
    unfold tT at h
    rw [if_neg (by omega)] at h
    cases q : isLt (b s)
    · cases q2 : isDg (b s)
      · cases q3 : isSg (b s)
        · rw [q, q2, q3] at h; exact absurd (show (-2 : Int32) = 0 from h) (by decide)
        · rw [q, q2, q3] at h
          obtain ⟨j, a, c, e⟩ := sg_13 q3
          have h : b s = 0 := h
          rw [e] at h
          exact absurd h (nI_ne0 (by omega) (by omega))
      · rw [q, q2] at h
        by_cases q3 : runP isDg b (z - s) s - s ≤ 4
        · exact q3
        · have h : (if runP isDg b (z - s) s - s ≤ 4 then (0 : Int32) else -2) = 0 := h
          rw [if_neg q3] at h; exact absurd h (by decide)
    · rw [q] at h
      have h : waF b s (runP isLt b (z - s) s) 12 = 0 := h
      rcases waF_in (b := b) (s := s) (e := runP isLt b (z - s) s) 12 (by omega) with w | ⟨j, _, w, _⟩
      · rw [w] at h; exact absurd h (by decide)
      · rw [w] at h; exact absurd h (nI_ne0 (by omega) (by omega))
  have : 10 ^ (runP isDg b (z - s) s - s) ≤ 10 ^ 4 := Nat.pow_le_pow_right (by omega) k2
  omega
theorem tT_16 {t : Int32} (h : 1 ≤ t ∧ t ≤ 6) : ∃ j, 1 ≤ j ∧ j ≤ 6 ∧ t = nI j := in_nI (a := 1) (b := 6) (by omega) h (by omega)
theorem oneP_ok {P : Nat → Nat → Nat → Pr} (hP : ∀ lv op, lv ≤ 5 → okPs z (P lv op)) {op s : Nat} (hs : s ≤ z) : out (oneP z b P op s) (fun f => f ≤ z) (okR z s) := by
  unfold oneP
  by_cases c0 : tT z b s = 0
  · rw [if_pos c0]
    have n := nx_le (b := b) (lt_of_tT (z := z) (b := b) (s := s) (by rw [c0]; decide))
    exact ⟨by show s + 1 ≤ _; omega, n.1, n.2, (Gd_n (tV_lt c0)).1⟩
  rw [if_neg c0]
  by_cases c1 : 1 ≤ tT z b s ∧ tT z b s ≤ 6
  · rw [if_pos c1]
    obtain ⟨j, j1, j2, e⟩ := tT_16 c1
    have n := nx_le (b := b) (lt_of_tT (z := z) (b := b) (s := s) (by rw [e]; exact nI_nm1 (by omega)))
    exact ⟨by show s + 1 ≤ _; omega, n.1, n.2, by rw [e]; exact (Gd_w j1 j2).1⟩
  rw [if_neg c1]
  by_cases c2 : tT z b s = 45
  · rw [if_pos c2]
    by_cases c3 : op < 5
    · rw [if_pos c3, out_bnd]
      have n := nx_le (b := b) (lt_of_tT (z := z) (b := b) (s := s) (by rw [c2]; decide))
      refine out_m (hP 5 (op + 1) (by omega) _ n.2) (hP 5 (op + 1) (by omega) _ n.2) (fun f a _ => a) (fun q c a _ => ?_)
      obtain ⟨a1, a2, a3, a4⟩ := a
      exact ⟨by simp only [List.length_append, List.length_cons, List.length_nil]; omega, by omega, a3, (Gd_t a4 (Or.inr rfl)).1⟩
    · rw [if_neg c3]; exact hs
  rw [if_neg c2]
  by_cases c4 : tT z b s = 40
  · rw [if_pos c4]
    by_cases c3 : op < 5
    · rw [if_pos c3, out_bnd]
      have n := nx_le (b := b) (lt_of_tT (z := z) (b := b) (s := s) (by rw [c4]; decide))
      refine out_m (hP 0 (op + 1) (by omega) _ n.2) (hP 0 (op + 1) (by omega) _ n.2) (fun f a _ => a) (fun q c a _ => ?_)
      obtain ⟨a1, a2, a3, a4⟩ := a
      by_cases c5 : tT z b q = 41
      · rw [if_pos c5]
        have n2 := nx_le (b := b) (lt_of_tT (z := z) (b := b) (s := q) (by rw [c5]; decide))
        exact ⟨by show s + c.length ≤ _; omega, by show s < _; omega, n2.2, a4⟩
      · rw [if_neg c5]; exact a3
    · rw [if_neg c3]; exact hs
  rw [if_neg c4]; exact hs
theorem levP_ok {P : Nat → Nat → Nat → Pr} (hP : ∀ lv op, lv ≤ 5 → okPs z (P lv op)) {lv op s : Nat} (hl : lv ≤ 4) (hs : s ≤ z) : out (levP z b P lv op s) (fun f => f ≤ z) (okR z s) := by
  unfold levP
  by_cases c2 : lv = 2 ∧ tT z b s = 12
  · rw [if_pos c2]
    by_cases c3 : op < 5
    · rw [if_pos c3, out_bnd]
      have n := nx_le (b := b) (lt_of_tT (z := z) (b := b) (s := s) (by rw [c2.2]; decide))
      refine out_m (hP 2 (op + 1) (by omega) _ n.2) (hP 2 (op + 1) (by omega) _ n.2) (fun f a _ => a) (fun q c a _ => ?_)
      obtain ⟨a1, a2, a3, a4⟩ := a
      exact ⟨by simp only [List.length_append, List.length_cons, List.length_nil]; omega, by omega, a3, (Gd_t a4 (Or.inl rfl)).1⟩
    · rw [if_neg c3]; exact hs
  · rw [if_neg c2, out_bnd]
    exact out_m (hP (lv + 1) op (by omega) s hs) (hP (lv + 1) op (by omega) s hs) (fun f a _ => a) (fun q c a _ => loP_ok (hP (lv + 1) op (by omega)) hl _ s q c a)
theorem pars_ok : ∀ d lv op, lv ≤ 5 → okPs z (pars z b d lv op)
  | 0, lv, op, hl => fun s hs => hs
  | d + 1, lv, op, hl => fun s hs => by
    show out (if lv = 5 then oneP z b (pars z b d) op s else levP z b (pars z b d) lv op s) _ _
    by_cases q : lv = 5
    · rw [if_pos q]; exact oneP_ok (fun lv op h => pars_ok d lv op h) hs
    · rw [if_neg q]; exact levP_ok (fun lv op h => pars_ok d lv op h) (by omega) hs
end
end
