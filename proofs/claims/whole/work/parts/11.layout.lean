/-! THE WORLDS of the class and of the reference, by one layout: a cell is (kind, number); its content is a row of ints (an object's int fields by their places, or an array's items); references never change but Town.rule, which is kept by the rule's number. -/
abbrev St : Type := (Nat → Nat → Nat → Int32) × Int64
def sa (S : St) (kd i : Nat) (f : Nat → Int32) : St := (fun a b => if a = kd ∧ b = i then f else S.1 a b, S.2)
abbrev su (S : St) (kd i j : Nat) (v : Int32) : St := sa S kd i (upd (S.1 kd i) j v)
def sl (S : St) (v : Int64) : St := (S.1, v)
theorem sa_eq (S : St) (kd i : Nat) (f : Nat → Int32) : (sa S kd i f).1 kd i = f := by simp [sa]
theorem sa_ne {S : St} {kd i kd2 i2 : Nat} {f : Nat → Int32} (h : ¬ (kd2 = kd ∧ i2 = i)) : (sa S kd i f).1 kd2 i2 = S.1 kd2 i2 := by simp [sa, h]
theorem sa_2 (S : St) (kd i : Nat) (f : Nat → Int32) : (sa S kd i f).2 = S.2 := rfl
def sw (S : St) (kd i : Nat) : Int64 := if kd = 40 ∧ i = 0 then S.2 else 0
def clX : List vw_C := [(RX1, TX1, 7), (RX2, TX2, 10), (RX3, TX3, 4), (RX4, TX4, 3), (RX5, TX5, 13), (RX6, TX6, 5), (RX7, TX7, 10), (RX8, TX8, 58)]
def tyX (cs : Nat → ClassId) : List (ClassId × FieldType) := [(cs 0, .int), (cs 1, .boolean), (cs 2, .object RX3), (cs 3, .object RX4)]
def lay (ad : Nat → Nat → Nat) (cs : Nat → ClassId) (kd i : Nat) (c : Nat → Int32) (w : Int64) : va_E := match kd with
  | 0 => .inr (6, [.ref (ad 1 0), .ref (ad 5 0), .int (c 2), .ref (ad 10 0), .ref (ad 10 1), .ref (ad 10 2), .int (c 6), .ref (ad 18 0), .ref (ad 26 0), .ref (ad 29 0)])
  | 1 => .inr (1, [.ref (ad 2 i), .ref (ad 3 i), .int (c 2), .ref (ad 4 i), .int (c 4), .int (c 5), .int (c 6), .int (c 7), .int (c 8), .int (c 9)])
  | 2 => .inl (cs 0, 160, .inl c)
  | 3 => .inl (cs 0, 3, .inl c)
  | 4 => .inl (cs 0, 160, .inl c)
  | 5 => .inl (cs 2, 6, .inr (.inr (.inr (.inr (fun j => some (ad 6 j))))))
  | 6 => .inr (2, [.int (nI i), .ref (ad 7 i), .ref (ad 8 i), .ref (ad 9 i)])
  | 7 => .inl (cs 0, 160, .inl c)
  | 8 => .inl (cs 0, 3, .inl c)
  | 9 => .inl (cs 0, 160, .inl c)
  | 10 => .inr (4, [.int (c 0), .int (c 1), .int (c 2), .ref (ad 6 (c 3).toNatClampNeg), .int (c 4), .int (c 5), .ref (ad 11 i), .ref (ad 12 i), .ref (ad 13 i), .ref (ad 14 i), .ref (ad 15 i), .ref (ad 16 i), .ref (ad 17 i)])
  | 11 => .inl (cs 0, 4, .inl c)
  | 12 => .inl (cs 0, 4, .inl c)
  | 13 => .inl (cs 0, 4, .inl c)
  | 14 => .inl (cs 0, 4, .inl c)
  | 15 => .inl (cs 0, 16, .inl c)
  | 16 => .inl (cs 0, 16, .inl c)
  | 17 => .inl (cs 0, 7, .inl c)
  | 18 => .inr (0, [.ref (ad 19 i), .ref (ad 20 i), .ref (ad 21 i), .ref (ad 22 i), .ref (ad 23 i), .ref (ad 24 i), .ref (ad 25 i)])
  | 19 => .inl (cs 0, 2, .inl c)
  | 20 => .inl (cs 0, 2, .inl c)
  | 21 => .inl (cs 0, 8, .inl c)
  | 22 => .inl (cs 1, 16, .inl c)
  | 23 => .inl (cs 0, 16, .inl c)
  | 24 => .inl (cs 0, 4, .inl c)
  | 25 => .inl (cs 0, 4, .inl c)
  | 26 => .inr (5, [.ref (ad 27 i), .int (c 1), .int (c 2), .int (c 3), .ref (ad 28 i)])
  | 27 => .inl (cs 0, 4, .inl c)
  | 28 => .inl (cs 0, 4, .inl c)
  | 29 => .inl (cs 3, 4, .inr (.inr (.inr (.inr (fun j => some (ad 30 j))))))
  | 30 => .inr (3, [.int (c 0), .int (c 1), .ref (ad 31 i)])
  | 31 => .inl (cs 0, 40, .inl c)
  | 40 => .inr (7, [.int (c 0), .ref (ad 41 i), .ref (ad 42 i), .int (c 3), .int (c 4), .ref (ad 43 i), .int (c 6), .int (c 7), .int (c 8), .ref (ad 44 i), .ref (ad 45 i), .ref (ad 46 i), .ref (ad 47 i), .ref (ad 48 i), .ref (ad 49 i), .ref (ad 50 i), .int (c 16), .int (c 17), .int (c 18), .int (c 19), .int (c 20), .int (c 21), .int (c 22), .int (c 23), .int (c 24), .int (c 25), .int (c 26), .int (c 27), .long w, .int (c 29), .int (c 30), .int (c 31), .ref (ad 51 i), .ref (ad 52 i), .ref (ad 53 i), .int (c 35), .ref (ad 54 i), .ref (ad 55 i), .int (c 38), .int (c 39), .ref (ad 56 i), .ref (ad 57 i), .int (c 42), .int (c 43), .ref (ad 58 i), .ref (ad 59 i), .ref (ad 60 i), .ref (ad 61 i), .ref (ad 62 i), .ref (ad 63 i), .int (c 50), .int (c 51), .int (c 52), .int (c 53), .ref (ad 64 i), .ref (ad 65 i), .ref (ad 66 i), .ref (ad 67 i)])
  | 41 => .inl (cs 0, 960, .inl c)
  | 42 => .inl (cs 0, 6, .inl c)
  | 43 => .inl (cs 0, 160, .inl c)
  | 44 => .inl (cs 0, 16, .inl c)
  | 45 => .inl (cs 0, 16, .inl c)
  | 46 => .inl (cs 0, 4, .inl c)
  | 47 => .inl (cs 0, 4, .inl c)
  | 48 => .inl (cs 0, 4, .inl c)
  | 49 => .inl (cs 0, 4, .inl c)
  | 50 => .inl (cs 0, 4, .inl c)
  | 51 => .inl (cs 0, 4, .inl c)
  | 52 => .inl (cs 0, 4, .inl c)
  | 53 => .inl (cs 0, 4, .inl c)
  | 54 => .inl (cs 0, 4, .inl c)
  | 55 => .inl (cs 0, 4, .inl c)
  | 56 => .inl (cs 0, 4, .inl c)
  | 57 => .inl (cs 0, 4, .inl c)
  | 58 => .inl (cs 1, 16, .inl c)
  | 59 => .inl (cs 0, 16, .inl c)
  | 60 => .inl (cs 0, 16, .inl c)
  | 61 => .inl (cs 0, 16, .inl c)
  | 62 => .inl (cs 0, 16, .inl c)
  | 63 => .inl (cs 0, 16, .inl c)
  | 64 => .inl (cs 1, 4, .inl c)
  | 65 => .inl (cs 0, 4, .inl c)
  | 66 => .inl (cs 0, 4, .inl c)
  | 67 => .inl (cs 0, 160, .inl c)
  | _ => .inl (cs 0, 0, .inl c)
def cnA (kd : Nat) : Nat := match kd with
  | 0 => 1
  | 1 => 1
  | 2 => 1
  | 3 => 1
  | 4 => 1
  | 5 => 1
  | 6 => 6
  | 7 => 6
  | 8 => 6
  | 9 => 6
  | 10 => 3
  | 11 => 3
  | 12 => 3
  | 13 => 3
  | 14 => 3
  | 15 => 3
  | 16 => 3
  | 17 => 3
  | 18 => 1
  | 19 => 1
  | 20 => 1
  | 21 => 1
  | 22 => 1
  | 23 => 1
  | 24 => 1
  | 25 => 1
  | 26 => 1
  | 27 => 1
  | 28 => 1
  | 29 => 1
  | 30 => 4
  | 31 => 4
  | _ => 0
def cnB (kd : Nat) : Nat := match kd with
  | 1 => 1
  | 2 => 1
  | 3 => 1
  | 4 => 1
  | 6 => 6
  | 7 => 6
  | 8 => 6
  | 9 => 6
  | _ => 0
def cnM (kd : Nat) : Nat := if 40 ≤ kd ∧ kd ≤ 67 then 1 else 0
def cn0 (_ : Nat) : Nat := 0
theorem cnBA (kd : Nat) : cnB kd ≤ cnA kd := by
  by_cases h : kd < 32
  · revert h; revert kd; decide
  · have h2 : cnB kd = 0 := by unfold cnB; split <;> first | rfl | omega
    omega
theorem ly_2 {ad : Nat → Nat → Nat} {cs : Nat → ClassId} {i : Nat} (c : Nat → Int32) (w : Int64) : lay ad cs 2 i c w = .inl (cs 0, 160, .inl c) := rfl
theorem ly_3 {ad : Nat → Nat → Nat} {cs : Nat → ClassId} {i : Nat} (c : Nat → Int32) (w : Int64) : lay ad cs 3 i c w = .inl (cs 0, 3, .inl c) := rfl
theorem ly_4 {ad : Nat → Nat → Nat} {cs : Nat → ClassId} {i : Nat} (c : Nat → Int32) (w : Int64) : lay ad cs 4 i c w = .inl (cs 0, 160, .inl c) := rfl
theorem ly_7 {ad : Nat → Nat → Nat} {cs : Nat → ClassId} {i : Nat} (c : Nat → Int32) (w : Int64) : lay ad cs 7 i c w = .inl (cs 0, 160, .inl c) := rfl
theorem ly_8 {ad : Nat → Nat → Nat} {cs : Nat → ClassId} {i : Nat} (c : Nat → Int32) (w : Int64) : lay ad cs 8 i c w = .inl (cs 0, 3, .inl c) := rfl
theorem ly_9 {ad : Nat → Nat → Nat} {cs : Nat → ClassId} {i : Nat} (c : Nat → Int32) (w : Int64) : lay ad cs 9 i c w = .inl (cs 0, 160, .inl c) := rfl
theorem ly_11 {ad : Nat → Nat → Nat} {cs : Nat → ClassId} {i : Nat} (c : Nat → Int32) (w : Int64) : lay ad cs 11 i c w = .inl (cs 0, 4, .inl c) := rfl
theorem ly_12 {ad : Nat → Nat → Nat} {cs : Nat → ClassId} {i : Nat} (c : Nat → Int32) (w : Int64) : lay ad cs 12 i c w = .inl (cs 0, 4, .inl c) := rfl
theorem ly_13 {ad : Nat → Nat → Nat} {cs : Nat → ClassId} {i : Nat} (c : Nat → Int32) (w : Int64) : lay ad cs 13 i c w = .inl (cs 0, 4, .inl c) := rfl
theorem ly_14 {ad : Nat → Nat → Nat} {cs : Nat → ClassId} {i : Nat} (c : Nat → Int32) (w : Int64) : lay ad cs 14 i c w = .inl (cs 0, 4, .inl c) := rfl
theorem ly_15 {ad : Nat → Nat → Nat} {cs : Nat → ClassId} {i : Nat} (c : Nat → Int32) (w : Int64) : lay ad cs 15 i c w = .inl (cs 0, 16, .inl c) := rfl
theorem ly_16 {ad : Nat → Nat → Nat} {cs : Nat → ClassId} {i : Nat} (c : Nat → Int32) (w : Int64) : lay ad cs 16 i c w = .inl (cs 0, 16, .inl c) := rfl
theorem ly_17 {ad : Nat → Nat → Nat} {cs : Nat → ClassId} {i : Nat} (c : Nat → Int32) (w : Int64) : lay ad cs 17 i c w = .inl (cs 0, 7, .inl c) := rfl
theorem ly_19 {ad : Nat → Nat → Nat} {cs : Nat → ClassId} {i : Nat} (c : Nat → Int32) (w : Int64) : lay ad cs 19 i c w = .inl (cs 0, 2, .inl c) := rfl
theorem ly_20 {ad : Nat → Nat → Nat} {cs : Nat → ClassId} {i : Nat} (c : Nat → Int32) (w : Int64) : lay ad cs 20 i c w = .inl (cs 0, 2, .inl c) := rfl
theorem ly_21 {ad : Nat → Nat → Nat} {cs : Nat → ClassId} {i : Nat} (c : Nat → Int32) (w : Int64) : lay ad cs 21 i c w = .inl (cs 0, 8, .inl c) := rfl
theorem ly_22 {ad : Nat → Nat → Nat} {cs : Nat → ClassId} {i : Nat} (c : Nat → Int32) (w : Int64) : lay ad cs 22 i c w = .inl (cs 1, 16, .inl c) := rfl
theorem ly_23 {ad : Nat → Nat → Nat} {cs : Nat → ClassId} {i : Nat} (c : Nat → Int32) (w : Int64) : lay ad cs 23 i c w = .inl (cs 0, 16, .inl c) := rfl
theorem ly_24 {ad : Nat → Nat → Nat} {cs : Nat → ClassId} {i : Nat} (c : Nat → Int32) (w : Int64) : lay ad cs 24 i c w = .inl (cs 0, 4, .inl c) := rfl
theorem ly_25 {ad : Nat → Nat → Nat} {cs : Nat → ClassId} {i : Nat} (c : Nat → Int32) (w : Int64) : lay ad cs 25 i c w = .inl (cs 0, 4, .inl c) := rfl
theorem ly_27 {ad : Nat → Nat → Nat} {cs : Nat → ClassId} {i : Nat} (c : Nat → Int32) (w : Int64) : lay ad cs 27 i c w = .inl (cs 0, 4, .inl c) := rfl
theorem ly_28 {ad : Nat → Nat → Nat} {cs : Nat → ClassId} {i : Nat} (c : Nat → Int32) (w : Int64) : lay ad cs 28 i c w = .inl (cs 0, 4, .inl c) := rfl
theorem ly_31 {ad : Nat → Nat → Nat} {cs : Nat → ClassId} {i : Nat} (c : Nat → Int32) (w : Int64) : lay ad cs 31 i c w = .inl (cs 0, 40, .inl c) := rfl
theorem ly_41 {ad : Nat → Nat → Nat} {cs : Nat → ClassId} {i : Nat} (c : Nat → Int32) (w : Int64) : lay ad cs 41 i c w = .inl (cs 0, 960, .inl c) := rfl
theorem ly_42 {ad : Nat → Nat → Nat} {cs : Nat → ClassId} {i : Nat} (c : Nat → Int32) (w : Int64) : lay ad cs 42 i c w = .inl (cs 0, 6, .inl c) := rfl
theorem ly_43 {ad : Nat → Nat → Nat} {cs : Nat → ClassId} {i : Nat} (c : Nat → Int32) (w : Int64) : lay ad cs 43 i c w = .inl (cs 0, 160, .inl c) := rfl
theorem ly_44 {ad : Nat → Nat → Nat} {cs : Nat → ClassId} {i : Nat} (c : Nat → Int32) (w : Int64) : lay ad cs 44 i c w = .inl (cs 0, 16, .inl c) := rfl
theorem ly_45 {ad : Nat → Nat → Nat} {cs : Nat → ClassId} {i : Nat} (c : Nat → Int32) (w : Int64) : lay ad cs 45 i c w = .inl (cs 0, 16, .inl c) := rfl
theorem ly_46 {ad : Nat → Nat → Nat} {cs : Nat → ClassId} {i : Nat} (c : Nat → Int32) (w : Int64) : lay ad cs 46 i c w = .inl (cs 0, 4, .inl c) := rfl
theorem ly_47 {ad : Nat → Nat → Nat} {cs : Nat → ClassId} {i : Nat} (c : Nat → Int32) (w : Int64) : lay ad cs 47 i c w = .inl (cs 0, 4, .inl c) := rfl
theorem ly_48 {ad : Nat → Nat → Nat} {cs : Nat → ClassId} {i : Nat} (c : Nat → Int32) (w : Int64) : lay ad cs 48 i c w = .inl (cs 0, 4, .inl c) := rfl
theorem ly_49 {ad : Nat → Nat → Nat} {cs : Nat → ClassId} {i : Nat} (c : Nat → Int32) (w : Int64) : lay ad cs 49 i c w = .inl (cs 0, 4, .inl c) := rfl
theorem ly_50 {ad : Nat → Nat → Nat} {cs : Nat → ClassId} {i : Nat} (c : Nat → Int32) (w : Int64) : lay ad cs 50 i c w = .inl (cs 0, 4, .inl c) := rfl
theorem ly_51 {ad : Nat → Nat → Nat} {cs : Nat → ClassId} {i : Nat} (c : Nat → Int32) (w : Int64) : lay ad cs 51 i c w = .inl (cs 0, 4, .inl c) := rfl
theorem ly_52 {ad : Nat → Nat → Nat} {cs : Nat → ClassId} {i : Nat} (c : Nat → Int32) (w : Int64) : lay ad cs 52 i c w = .inl (cs 0, 4, .inl c) := rfl
theorem ly_53 {ad : Nat → Nat → Nat} {cs : Nat → ClassId} {i : Nat} (c : Nat → Int32) (w : Int64) : lay ad cs 53 i c w = .inl (cs 0, 4, .inl c) := rfl
theorem ly_54 {ad : Nat → Nat → Nat} {cs : Nat → ClassId} {i : Nat} (c : Nat → Int32) (w : Int64) : lay ad cs 54 i c w = .inl (cs 0, 4, .inl c) := rfl
theorem ly_55 {ad : Nat → Nat → Nat} {cs : Nat → ClassId} {i : Nat} (c : Nat → Int32) (w : Int64) : lay ad cs 55 i c w = .inl (cs 0, 4, .inl c) := rfl
theorem ly_56 {ad : Nat → Nat → Nat} {cs : Nat → ClassId} {i : Nat} (c : Nat → Int32) (w : Int64) : lay ad cs 56 i c w = .inl (cs 0, 4, .inl c) := rfl
theorem ly_57 {ad : Nat → Nat → Nat} {cs : Nat → ClassId} {i : Nat} (c : Nat → Int32) (w : Int64) : lay ad cs 57 i c w = .inl (cs 0, 4, .inl c) := rfl
theorem ly_58 {ad : Nat → Nat → Nat} {cs : Nat → ClassId} {i : Nat} (c : Nat → Int32) (w : Int64) : lay ad cs 58 i c w = .inl (cs 1, 16, .inl c) := rfl
theorem ly_59 {ad : Nat → Nat → Nat} {cs : Nat → ClassId} {i : Nat} (c : Nat → Int32) (w : Int64) : lay ad cs 59 i c w = .inl (cs 0, 16, .inl c) := rfl
theorem ly_60 {ad : Nat → Nat → Nat} {cs : Nat → ClassId} {i : Nat} (c : Nat → Int32) (w : Int64) : lay ad cs 60 i c w = .inl (cs 0, 16, .inl c) := rfl
theorem ly_61 {ad : Nat → Nat → Nat} {cs : Nat → ClassId} {i : Nat} (c : Nat → Int32) (w : Int64) : lay ad cs 61 i c w = .inl (cs 0, 16, .inl c) := rfl
theorem ly_62 {ad : Nat → Nat → Nat} {cs : Nat → ClassId} {i : Nat} (c : Nat → Int32) (w : Int64) : lay ad cs 62 i c w = .inl (cs 0, 16, .inl c) := rfl
theorem ly_63 {ad : Nat → Nat → Nat} {cs : Nat → ClassId} {i : Nat} (c : Nat → Int32) (w : Int64) : lay ad cs 63 i c w = .inl (cs 0, 16, .inl c) := rfl
theorem ly_64 {ad : Nat → Nat → Nat} {cs : Nat → ClassId} {i : Nat} (c : Nat → Int32) (w : Int64) : lay ad cs 64 i c w = .inl (cs 1, 4, .inl c) := rfl
theorem ly_65 {ad : Nat → Nat → Nat} {cs : Nat → ClassId} {i : Nat} (c : Nat → Int32) (w : Int64) : lay ad cs 65 i c w = .inl (cs 0, 4, .inl c) := rfl
theorem ly_66 {ad : Nat → Nat → Nat} {cs : Nat → ClassId} {i : Nat} (c : Nat → Int32) (w : Int64) : lay ad cs 66 i c w = .inl (cs 0, 4, .inl c) := rfl
theorem ly_67 {ad : Nat → Nat → Nat} {cs : Nat → ClassId} {i : Nat} (c : Nat → Int32) (w : Int64) : lay ad cs 67 i c w = .inl (cs 0, 160, .inl c) := rfl
theorem inX1 : ∀ w ∈ u_ws RX1 TX1 7, w ∈ tG := by decide +kernel
theorem inX2 : ∀ w ∈ u_ws RX2 TX2 10, w ∈ tG := by decide +kernel
theorem inX3 : ∀ w ∈ u_ws RX3 TX3 4, w ∈ tG := by decide +kernel
theorem inX4 : ∀ w ∈ u_ws RX4 TX4 3, w ∈ tG := by decide +kernel
theorem inX5 : ∀ w ∈ u_ws RX5 TX5 13, w ∈ tG := by decide +kernel
theorem inX6 : ∀ w ∈ u_ws RX6 TX6 5, w ∈ tG := by decide +kernel
theorem inX7 : ∀ w ∈ u_ws RX7 TX7 10, w ∈ tG := by decide +kernel
theorem inX8 : ∀ w ∈ u_ws RX8 TX8 58, w ∈ tG := by decide +kernel
