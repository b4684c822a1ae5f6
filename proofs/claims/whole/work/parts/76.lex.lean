section
/-! TEXTS in the abstract: tokens. A token is known by its first byte's place -/
abbrev By := Nat → Int32
def isWs (x : Int32) : Bool := decide (x = 32) || decide (x = 10)
def isLt (x : Int32) : Bool := decide (97 ≤ x ∧ x ≤ 122)
def isDg (x : Int32) : Bool := decide (48 ≤ x ∧ x ≤ 57)
def isSg (x : Int32) : Bool := decide (x = 40 ∨ x = 41 ∨ x = 59 ∨ x = 43 ∨ x = 45 ∨ x = 42 ∨ x = 60 ∨ x = 61)
def runP (f : Int32 → Bool) (b : By) : Nat → Nat → Nat
  | 0, p => p
  | n + 1, p => bif f (b p) then runP f b n (p + 1) else p
theorem runP_le {f : Int32 → Bool} {b : By} : ∀ n p, p ≤ runP f b n p ∧ runP f b n p ≤ p + n
  | 0, p => ⟨Nat.le_refl p, Nat.le_refl p⟩
  | n + 1, p => by
    have := runP_le (f := f) (b := b) n (p + 1)
    unfold runP
    cases f (b p)
    · exact ⟨Nat.le_refl p, by show p ≤ _; omega⟩
    · exact ⟨by show p ≤ runP f b n (p + 1); omega, by show runP f b n (p + 1) ≤ _; omega⟩
theorem runP_all {f : Int32 → Bool} {b : By} : ∀ n p j, p ≤ j → j < runP f b n p → f (b j) = true
  | 0, p, j, a, h => by
    have h : j < p := h
    omega
  | n + 1, p, j, a, h => by
    unfold runP at h
    cases q : f (b p)
    · rw [q] at h
      have h : j < p := h
      omega
    · rw [q] at h
      by_cases e : j = p
      · rw [e]; exact q
      · exact runP_all n (p + 1) j (by omega) h
theorem runP_pos {f : Int32 → Bool} {b : By} {n p : Nat} (h : f (b p) = true) (hn : 0 < n) : p < runP f b n p := by
  obtain ⟨k, rfl⟩ : ∃ k, n = k + 1 := ⟨n - 1, by omega⟩
  unfold runP
  rw [h]
  exact (runP_le k (p + 1)).1
def numP (b : By) : Nat → Nat → Nat → Nat
  | 0, _, v => v
  | n + 1, p, v => numP b n (p + 1) (10 * v + ((b p).toNatClampNeg - 48))
def eqL (b : By) : Nat → List Int32 → Bool
  | _, [] => true
  | s, x :: W => decide (b s = x) && eqL b (s + 1) W
def spB (b : By) (s e : Nat) (W : List Int32) : Bool := decide (e - s = W.length) && eqL b s W
def waF (b : By) (s e : Nat) : Nat → Int32
  | 0 => -2
  | j + 1 => bif spB b s e (bytJS.getD j []) then nI (j + 1) else waF b s e j
theorem eqL_eq {b : By} : ∀ (W W2 : List Int32) s, W.length = W2.length → eqL b s W = true → eqL b s W2 = true → W = W2
  | [], [], _, _, _, _ => rfl
  | [], _ :: _, _, h, _, _ => by simp at h
  | _ :: _, [], _, h, _, _ => by simp at h
  | x :: W, y :: W2, s, h, h1, h2 => by
    unfold eqL at h1 h2
    rw [Bool.and_eq_true, decide_eq_true_eq] at h1 h2
    rw [← h1.1, ← h2.1, eqL_eq W W2 (s + 1) (by simpa using h) h1.2 h2.2]
theorem bytJS_inj : ∀ i, i < 12 → ∀ j, j < 12 → bytJS.getD i [] = bytJS.getD j [] → i = j := by decide
theorem spB_inj {b : By} {s e i j : Nat} (hi : i < 12) (hj : j < 12) (h1 : spB b s e (bytJS.getD i []) = true) (h2 : spB b s e (bytJS.getD j []) = true) : i = j := by
  unfold spB at h1 h2
  rw [Bool.and_eq_true, decide_eq_true_eq] at h1 h2
  exact bytJS_inj i hi j hj (eqL_eq _ _ s (h1.1.symm.trans h2.1) h1.2 h2.2)
theorem waF_in {b : By} {s e : Nat} : ∀ i, i ≤ 12 → waF b s e i = -2 ∨ ∃ j, j < i ∧ waF b s e i = nI (j + 1) ∧ spB b s e (bytJS.getD j []) = true
  | 0, _ => Or.inl rfl
  | i + 1, hi => by
    unfold waF
    cases q : spB b s e (bytJS.getD i [])
    · rcases waF_in (b := b) (s := s) (e := e) i (by omega) with h | ⟨j, a, c, d⟩
      · exact Or.inl h
      · exact Or.inr ⟨j, by omega, c, d⟩
    · exact Or.inr ⟨i, by omega, rfl, q⟩
theorem waF_of {b : By} {s e j : Nat} (hj : j < 12) (h : spB b s e (bytJS.getD j []) = true) : ∀ i, i ≤ 12 → j < i → waF b s e i = nI (j + 1)
  | 0, _, w => by omega
  | i + 1, hi, w => by
    unfold waF
    cases q : spB b s e (bytJS.getD i [])
    · by_cases q2 : j = i
      · subst q2; rw [h] at q; cases q
      · exact waF_of hj h i (by omega) (by omega)
    · rw [spB_inj hj (by omega) h q]; rfl
theorem waF_iff {b : By} {s e j : Nat} (hj : j < 12) : waF b s e 12 = nI (j + 1) ↔ spB b s e (bytJS.getD j []) = true := by
  constructor
  · intro h
    rcases waF_in (b := b) (s := s) (e := e) 12 (by omega) with q | ⟨i, a, c, d⟩
    · rw [q] at h; exact absurd h.symm (nI_n2 (by omega))
    · rw [c, nI_eq (by omega) (by omega)] at h
      have : i = j := by omega
      rw [← this]; exact d
  · exact fun h => waF_of hj h 12 (by omega) hj
section
variable (z : Nat) (b : By)
def tkS (p : Nat) : Nat := runP isWs b (z - p) p
def tT (s : Nat) : Int32 := if z ≤ s then -1 else bif isLt (b s) then waF b s (runP isLt b (z - s) s) 12 else bif isDg (b s) then (if runP isDg b (z - s) s - s ≤ 4 then 0 else -2) else bif isSg (b s) then b s else -2
def tE (s : Nat) : Nat := if z ≤ s then s else bif isLt (b s) then runP isLt b (z - s) s else bif isDg (b s) then runP isDg b (z - s) s else s + 1
def tV (s : Nat) : Nat := numP b (runP isDg b (z - s) s - s) s 0
def tK (s : Nat) : Int32 := if z ≤ s then 0 else bif isLt (b s) then 1 else bif isDg (b s) then (if runP isDg b (z - s) s - s ≤ 4 then 2 else 4) else bif isSg (b s) then 3 else 4
def nx (s : Nat) : Nat := tkS z b (tE z b s)
end
section
variable {z : Nat} {b : By}
theorem tkS_le {p : Nat} (h : p ≤ z) : p ≤ tkS z b p ∧ tkS z b p ≤ z := by
  have := runP_le (f := isWs) (b := b) (z - p) p
  unfold tkS
  omega
theorem tE_le {s : Nat} (h : s < z) : s < tE z b s ∧ tE z b s ≤ z := by
  unfold tE
  rw [if_neg (by omega)]
  cases q : isLt (b s)
  · cases q2 : isDg (b s)
    · exact ⟨by show s < s + 1; omega, by show s + 1 ≤ z; omega⟩
    · have := runP_le (f := isDg) (b := b) (z - s) s
      exact ⟨runP_pos q2 (by omega), by show runP isDg b (z - s) s ≤ z; omega⟩
  · have := runP_le (f := isLt) (b := b) (z - s) s
    exact ⟨runP_pos q (by omega), by show runP isLt b (z - s) s ≤ z; omega⟩
theorem nx_le {s : Nat} (h : s < z) : s < nx z b s ∧ nx z b s ≤ z := by
  have := tE_le (b := b) h
  have := tkS_le (b := b) (p := tE z b s) this.2
  unfold nx
  omega
theorem tT_end {s : Nat} (h : z ≤ s) : tT z b s = -1 := by unfold tT; rw [if_pos h]
theorem lt_of_tT {s : Nat} (h : tT z b s ≠ -1) : s < z := by
  rcases Nat.lt_or_ge s z with q | q
  · exact q
  · exact absurd (tT_end q) h
theorem sg_13 {x : Int32} (h : isSg x = true) : ∃ j, 13 ≤ j ∧ j < 100 ∧ x = nI j := by
  unfold isSg at h
  rw [decide_eq_true_eq] at h
  rcases h with h | h | h | h | h | h | h | h
  · exact ⟨40, by omega, by omega, h⟩
  · exact ⟨41, by omega, by omega, h⟩
  · exact ⟨59, by omega, by omega, h⟩
  · exact ⟨43, by omega, by omega, h⟩
  · exact ⟨45, by omega, by omega, h⟩
  · exact ⟨42, by omega, by omega, h⟩
  · exact ⟨60, by omega, by omega, h⟩
  · exact ⟨61, by omega, by omega, h⟩
/-- the sorts of token, by both sides' words -/
theorem tk_cases (s : Nat) : (tK z b s = 0 ∧ tT z b s = -1 ∧ z ≤ s) ∨ (tK z b s = 1 ∧ s < z ∧ isLt (b s) = true ∧ tE z b s = runP isLt b (z - s) s ∧ tT z b s = waF b s (tE z b s) 12) ∨ (tK z b s = 2 ∧ s < z ∧ tT z b s = 0) ∨ (tK z b s = 3 ∧ s < z ∧ tT z b s = b s ∧ isSg (b s) = true) ∨ (tK z b s = 4 ∧ s < z ∧ tT z b s = -2) := by
  unfold tK tT tE
  by_cases h : z ≤ s
  · rw [if_pos h, if_pos h]; exact Or.inl ⟨rfl, rfl, h⟩
  · rw [if_neg h, if_neg h, if_neg h]
    have h : s < z := by omega
    cases q : isLt (b s)
    · cases q2 : isDg (b s)
      · cases q3 : isSg (b s)
        · exact Or.inr (Or.inr (Or.inr (Or.inr ⟨rfl, h, rfl⟩)))
        · exact Or.inr (Or.inr (Or.inr (Or.inl ⟨rfl, h, rfl, rfl⟩)))
      · by_cases q3 : runP isDg b (z - s) s - s ≤ 4
        · exact Or.inr (Or.inr (Or.inl ⟨by show (if _ then _ else _) = _; rw [if_pos q3], h, by show (if _ then _ else _) = _; rw [if_pos q3]⟩))
        · exact Or.inr (Or.inr (Or.inr (Or.inr ⟨by show (if _ then _ else _) = _; rw [if_neg q3], h, by show (if _ then _ else _) = _; rw [if_neg q3]⟩)))
    · exact Or.inr (Or.inl ⟨rfl, h, rfl, rfl, rfl⟩)
theorem tT_w {s : Nat} (h : tK z b s = 1) : tT z b s = -2 ∨ ∃ j, j < 12 ∧ tT z b s = nI (j + 1) := by
  rcases tk_cases (z := z) (b := b) s with c | c | c | c | c
  · rw [c.1] at h; exact absurd h (by decide)
  · rw [c.2.2.2.2]
    rcases waF_in (b := b) (s := s) (e := tE z b s) 12 (by omega) with q | ⟨i, a, d, _⟩
    · exact Or.inl q
    · exact Or.inr ⟨i, a, d⟩
  · rw [c.1] at h; exact absurd h (by decide)
  · rw [c.1] at h; exact absurd h (by decide)
  · rw [c.1] at h; exact absurd h (by decide)
end
end
