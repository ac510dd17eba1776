/-! ===== what the cells are, and stay (written by wip/gen/shape.py) ===== -/
/-- the numbers of the seas -/
def SeaAd (a : Nat) : Prop := (∃ j, j < 4 ∧ a = 1001 + 37 * j) ∨ (∃ j, j < 12 ∧ a = 1151 + 37 * j)
def StrAd (w : Nat) : Prop := ∃ k, k < 94 ∧ w = 2 * k + 2
def SL : List Nat := [17, 7, 4, 5, 2, 4, 5, 4, 4, 3, 5, 6, 2, 4, 5, 4, 4, 5, 5, 5, 5, 4, 4, 6, 3, 3, 33, 4, 4, 4, 2, 2, 3, 3, 4, 4, 3, 4, 4, 4, 5, 3, 5, 3, 12, 12, 12, 12, 13, 16, 14, 21, 12, 32, 39, 28, 37, 7, 4, 5, 2, 4, 5, 4, 4, 3, 5, 6, 2, 4, 5, 4, 4, 5, 5, 5, 5, 4, 4, 6, 3, 3, 4, 4, 4, 2, 3, 4, 4, 3, 4, 5, 3, 2]
def TSf : Nat → Nat × Nat := fun k => (([(7, 17), (100, 25), (104, 8), (100, 6), (100, 6), (100, 6), (100, 6), (100, 6), (100, 6), (100, 6), (100, 6), (104, 3), (100, 3), (100, 3), (100, 3), (104, 5), (100, 4), (100, 4), (100, 4), (100, 4), (100, 4), (104, 6), (100, 2), (100, 2), (100, 2), (100, 2), (100, 2), (100, 2), (4, 3), (100, 300), (100, 8)] : List (Nat × Nat))[k]?).getD (0, 0)
def TL : List (Nat × Nat × Nat) := [(1000, 11, 15), (1149, 5, 3), (1150, 105, 12), (1595, 10, 7), (1596, 101, 400), (1597, 8, 1), (1598, 3, 7), (1599, 100, 12), (1600, 100, 12), (1601, 100, 13), (1602, 100, 400), (1603, 0, 9), (1604, 104, 6), (1611, 100, 8), (1612, 100, 136), (1613, 100, 136), (1614, 6, 6), (1615, 100, 8), (1616, 100, 6), (1617, 100, 6), (1618, 100, 256), (1619, 102, 256), (1620, 9, 5), (1621, 104, 6), (1628, 100, 8), (1629, 100, 8), (1630, 100, 8), (1631, 1, 6), (1632, 100, 20), (1633, 100, 20), (1634, 100, 2000), (1635, 100, 100), (1636, 100, 100), (1637, 100, 25), (1638, 12, 29), (1639, 100, 2115), (1640, 100, 1266), (1641, 100, 1266), (1642, 100, 417), (1643, 100, 5004), (1644, 101, 400), (1645, 100, 5), (1646, 100, 400), (1647, 100, 8), (1648, 100, 48), (1649, 100, 1792), (1650, 100, 6), (1651, 100, 100), (1652, 102, 2000), (1653, 100, 100), (1654, 100, 1536), (1655, 100, 256), (1656, 100, 1820), (1657, 100, 256), (1658, 103, 1)]
def RL : List (Nat × Nat × Nat) := [(1000, 0, 1001), (1000, 1, 1038), (1000, 2, 1075), (1000, 3, 1112), (1000, 5, 1149), (1000, 6, 1595), (1000, 7, 1597), (1000, 8, 1598), (1000, 9, 1603), (1000, 10, 1614), (1000, 11, 1620), (1000, 12, 1631), (1000, 13, 1636), (1000, 14, 1637), (1149, 0, 1150), (1595, 0, 1596), (1597, 0, 1595), (1598, 0, 1595), (1598, 1, 1599), (1598, 2, 1600), (1598, 3, 1601), (1598, 4, 1602), (1603, 0, 1604), (1603, 1, 1611), (1614, 0, 1615), (1614, 1, 1616), (1614, 2, 1617), (1614, 3, 1618), (1614, 4, 1619), (1620, 0, 1621), (1620, 1, 1628), (1620, 2, 1629), (1620, 3, 1630), (1631, 0, 1632), (1631, 1, 1633), (1631, 2, 1634), (1631, 3, 1635), (1638, 1, 1639), (1638, 2, 1640), (1638, 3, 1641), (1638, 4, 1642), (1638, 5, 1643), (1638, 8, 1644), (1638, 15, 1645), (1638, 17, 1646), (1638, 18, 1647), (1638, 19, 1648), (1638, 20, 1649), (1638, 21, 1650), (1638, 22, 1651), (1638, 23, 1652), (1638, 24, 1653), (1638, 25, 1654), (1638, 26, 1655), (1638, 27, 1656), (1638, 28, 1657)]
/-- a law's cells -/
def isLw (n : Nat) (t : MT) (r : MR) (l : Nat) : Prop := 1000 ≤ l ∧ l + 6 ≤ n ∧ t l = (2, 6) ∧ r l 1 = l + 2 ∧ r l 2 = l + 3 ∧ r l 3 = l + 4 ∧ r l 4 = l + 5 ∧ r l 5 = l + 1 ∧ t (l + 1) = (100, 32) ∧ (t (l + 2)).1 = 100 ∧ (t (l + 3)).1 = 100 ∧ (t (l + 4)).1 = 100 ∧ (t (l + 5)).1 = 100
def isSea (n : Nat) (t : MT) (r : MR) (a : Nat) : Prop := (∀ k, k < 31 → t (a + k) = TSf k) ∧ r a 0 = a + 1 ∧ r a 1 = a + 2 ∧ r a 2 = a + 11 ∧ r a 3 = a + 15 ∧ r a 4 = a + 21 ∧ r a 5 = a + 28 ∧ r a 6 = a + 30 ∧ r (a + 28) 0 = a + 29 ∧ (∀ j, j < 8 → r (a + 2) j = a + 3 + j) ∧ (∀ j, j < 3 → r (a + 11) j = a + 12 + j) ∧ (∀ j, j < 5 → r (a + 15) j = a + 16 + j) ∧ (∀ j, j < 6 → r (a + 21) j = a + 22 + j) ∧ isLw n t r (r a 16)
def Sh (n : Nat) (t : MT) (r : MR) : Prop := 1659 ≤ n ∧ (∀ a, SeaAd a → isSea n t r a) ∧ (∀ x ∈ TL, t x.1 = x.2) ∧ (∀ x ∈ RL, r x.1 x.2.1 = x.2.2) ∧ (∀ j, j < 12 → r 1150 j = 1151 + 37 * j) ∧
  ((∀ j, j < 6 → r 1621 j = 1622 + j ∧ t (1622 + j) = (100, 256)) ∧ (∀ j, j < 6 → r 1604 j = 1605 + j ∧ t (1605 + j) = (100, 8))) ∧ ((r 1603 7 = 1612 ∧ r 1603 8 = 1613) ∨ (r 1603 7 = 1613 ∧ r 1603 8 = 1612)) ∧
  (∀ k, k < 94 → (t (2 * k + 2)).1 = 13 ∧ r (2 * k + 2) 0 = 2 * k + 3 ∧ (t (2 * k + 3)).1 = 101)
abbrev PT {α : Type} : α → Prop := fun _ => True
abbrev PS1 (n : Nat) (t : MT) : MI × MR → Prop := fun x => Sh n t x.2
abbrev PS2 (n : Nat) (t : MT) {α : Type} : α × MI × MR → Prop := fun x => Sh n t x.2.2
def shl (x y : Int32) : Int32 := x <<< (y &&& 31)
def shr (x y : Int32) : Int32 := x >>> (y &&& 31)
def ushr (x y : Int32) : Int32 := (x.toUInt32 >>> (y.toUInt32 &&& Int32.toUInt32 31)).toInt32
def rm (x y : Int32) : Int32 := x - x / y * y
abbrev F_v1 (n u : Nat) (t : MT) (r : MR) : MI → oR × aH := fun i => (.inl none, (n, u, t, i, r))
abbrev F_v2 (n u : Nat) (t : MT) : MI × MR → oR × aH := fun x => (.inl none, (n, u, t, x.1, x.2))
abbrev F_v0 (n u : Nat) (t : MT) (i : MI) (r : MR) : Unit → oR × aH := fun _ => (.inl none, (n, u, t, i, r))
abbrev F_i0 (n u : Nat) (t : MT) (i : MI) (r : MR) : Int32 → oR × aH := fun v => (.inl (some (.int v)), (n, u, t, i, r))
abbrev F_a0 (n u : Nat) (t : MT) (i : MI) (r : MR) : Nat → oR × aH := fun v => (.inl (some (.ref v)), (n, u, t, i, r))
abbrev F_i1 (n u : Nat) (t : MT) (r : MR) : Int32 × MI → oR × aH := fun x => (.inl (some (.int x.1)), (n, u, t, x.2, r))
abbrev F_i2 (n u : Nat) (t : MT) : Int32 × MI × MR → oR × aH := fun x => (.inl (some (.int x.1)), (n, u, t, x.2.1, x.2.2))
abbrev F_tv0 (n u : Nat) (t : MT) (i : MI) (r : MR) : Unit ⊕ Nat → oR × aH := fun x => match x with
  | .inl _ => (.inl none, (n, u, t, i, r))
  | .inr c => (.inr n, aNew (n, u, t, i, r) c 0 6)
abbrev F_ti0 (n u : Nat) (t : MT) (i : MI) (r : MR) : Int32 ⊕ Nat → oR × aH := fun x => match x with
  | .inl v => (.inl (some (.int v)), (n, u, t, i, r))
  | .inr c => (.inr n, aNew (n, u, t, i, r) c 0 6)
abbrev F_tv1 (n u : Nat) (t : MT) (r : MR) : (Unit ⊕ Nat) × MI → oR × aH := fun x => match x with
  | (.inl _, i) => (.inl none, (n, u, t, i, r))
  | (.inr c, i) => (.inr n, aNew (n, u, t, i, r) c 0 6)
abbrev F_ti1 (n u : Nat) (t : MT) (r : MR) : (Int32 ⊕ Nat) × MI → oR × aH := fun x => match x with
  | (.inl v, i) => (.inl (some (.int v)), (n, u, t, i, r))
  | (.inr c, i) => (.inr n, aNew (n, u, t, i, r) c 0 6)
abbrev F_ti2 (n u : Nat) (t : MT) : (Int32 ⊕ Nat) × MI × MR → oR × aH := fun x => match x with
  | (.inl v, i, r) => (.inl (some (.int v)), (n, u, t, i, r))
  | (.inr c, i, r) => (.inr n, aNew (n, u, t, i, r) c 0 6)
section SHF
variable {n : Nat} {t : MT} {r : MR} {a l w : Nat}

theorem sge0 (ha : SeaAd a) : 1000 ≤ a := by rcases ha with ⟨j, -, rfl⟩ | ⟨j, -, rfl⟩ <;> omega
theorem sge {k : Nat} (ha : SeaAd a) : 1000 ≤ a + k := Nat.le_trans (sge0 ha) (Nat.le_add_right a k)
theorem sge2 {k j : Nat} (ha : SeaAd a) : 1000 ≤ a + k + j := Nat.le_trans (sge ha) (Nat.le_add_right (a + k) j)
theorem sge3 {k j : Nat} (ha : SeaAd a) : 1000 ≤ a + k + 1 + j := Nat.le_trans (sge2 ha) (Nat.le_add_right (a + k + 1) j)
theorem sea1001 : SeaAd 1001 := Or.inl ⟨0, by decide, rfl⟩
theorem sea1038 : SeaAd 1038 := Or.inl ⟨1, by decide, rfl⟩
theorem sea1075 : SeaAd 1075 := Or.inl ⟨2, by decide, rfl⟩
theorem sea1112 : SeaAd 1112 := Or.inl ⟨3, by decide, rfl⟩
theorem sea1151 : SeaAd 1151 := Or.inr ⟨0, by decide, rfl⟩
theorem sea1188 : SeaAd 1188 := Or.inr ⟨1, by decide, rfl⟩
theorem sea1225 : SeaAd 1225 := Or.inr ⟨2, by decide, rfl⟩
theorem sea1262 : SeaAd 1262 := Or.inr ⟨3, by decide, rfl⟩
theorem sea1299 : SeaAd 1299 := Or.inr ⟨4, by decide, rfl⟩
theorem sea1336 : SeaAd 1336 := Or.inr ⟨5, by decide, rfl⟩
theorem sea1373 : SeaAd 1373 := Or.inr ⟨6, by decide, rfl⟩
theorem sea1410 : SeaAd 1410 := Or.inr ⟨7, by decide, rfl⟩
theorem sea1447 : SeaAd 1447 := Or.inr ⟨8, by decide, rfl⟩
theorem sea1484 : SeaAd 1484 := Or.inr ⟨9, by decide, rfl⟩
theorem sea1521 : SeaAd 1521 := Or.inr ⟨10, by decide, rfl⟩
theorem sea1558 : SeaAd 1558 := Or.inr ⟨11, by decide, rfl⟩
theorem pastAd {j : Nat} (h : j < 12) : SeaAd (1151 + 37 * j) := Or.inr ⟨j, h, rfl⟩
theorem strAd (k : Nat) (h : k < 94 := by decide) : StrAd (2 * k + 2) := ⟨k, h, rfl⟩
theorem ltrN (k : Nat) (h : k < 2 ^ 31) : Ltr (nI k) k := ⟨nI_pos h, nI_clamp h⟩
theorem sT0 (s : Sh n t r) (ha : SeaAd a) : t a = (7, 17) := (s.2.1 a ha).1 0 (by decide)
theorem sT1 (s : Sh n t r) (ha : SeaAd a) : t (a + 1) = (100, 25) := (s.2.1 a ha).1 1 (by decide)
theorem sT2 (s : Sh n t r) (ha : SeaAd a) : t (a + 2) = (104, 8) := (s.2.1 a ha).1 2 (by decide)
theorem sT11 (s : Sh n t r) (ha : SeaAd a) : t (a + 11) = (104, 3) := (s.2.1 a ha).1 11 (by decide)
theorem sT15 (s : Sh n t r) (ha : SeaAd a) : t (a + 15) = (104, 5) := (s.2.1 a ha).1 15 (by decide)
theorem sT21 (s : Sh n t r) (ha : SeaAd a) : t (a + 21) = (104, 6) := (s.2.1 a ha).1 21 (by decide)
theorem sT28 (s : Sh n t r) (ha : SeaAd a) : t (a + 28) = (4, 3) := (s.2.1 a ha).1 28 (by decide)
theorem sT29 (s : Sh n t r) (ha : SeaAd a) : t (a + 29) = (100, 300) := (s.2.1 a ha).1 29 (by decide)
theorem sT30 (s : Sh n t r) (ha : SeaAd a) : t (a + 30) = (100, 8) := (s.2.1 a ha).1 30 (by decide)
theorem sR0 (s : Sh n t r) (ha : SeaAd a) : r a 0 = a + 1 := (s.2.1 a ha).2.1
theorem sR1 (s : Sh n t r) (ha : SeaAd a) : r a 1 = a + 2 := (s.2.1 a ha).2.2.1
theorem sR2 (s : Sh n t r) (ha : SeaAd a) : r a 2 = a + 11 := (s.2.1 a ha).2.2.2.1
theorem sR3 (s : Sh n t r) (ha : SeaAd a) : r a 3 = a + 15 := (s.2.1 a ha).2.2.2.2.1
theorem sR4 (s : Sh n t r) (ha : SeaAd a) : r a 4 = a + 21 := (s.2.1 a ha).2.2.2.2.2.1
theorem sR5 (s : Sh n t r) (ha : SeaAd a) : r a 5 = a + 28 := (s.2.1 a ha).2.2.2.2.2.2.1
theorem sR6 (s : Sh n t r) (ha : SeaAd a) : r a 6 = a + 30 := (s.2.1 a ha).2.2.2.2.2.2.2.1
theorem sRlog (s : Sh n t r) (ha : SeaAd a) : r (a + 28) 0 = a + 29 := (s.2.1 a ha).2.2.2.2.2.2.2.2.1
theorem sRr_fish (s : Sh n t r) (ha : SeaAd a) {j : Nat} (h : j < 8) : r (a + 2) j = a + 3 + j := (s.2.1 a ha).2.2.2.2.2.2.2.2.2.1 j h
theorem sRow_fish (s : Sh n t r) (ha : SeaAd a) {j : Nat} (h : j < 8) : t (a + 3 + j) = (100, 6) := by
  rw [Nat.add_assoc, (s.2.1 a ha).1 (3 + j) (by omega)]
  exact (by decide : ∀ j, j < 8 → TSf (3 + j) = (100, 6)) j h
theorem sRr_boat (s : Sh n t r) (ha : SeaAd a) {j : Nat} (h : j < 3) : r (a + 11) j = a + 12 + j := (s.2.1 a ha).2.2.2.2.2.2.2.2.2.2.1 j h
theorem sRow_boat (s : Sh n t r) (ha : SeaAd a) {j : Nat} (h : j < 3) : t (a + 12 + j) = (100, 3) := by
  rw [Nat.add_assoc, (s.2.1 a ha).1 (12 + j) (by omega)]
  exact (by decide : ∀ j, j < 3 → TSf (12 + j) = (100, 3)) j h
theorem sRr_buyer (s : Sh n t r) (ha : SeaAd a) {j : Nat} (h : j < 5) : r (a + 15) j = a + 16 + j := (s.2.1 a ha).2.2.2.2.2.2.2.2.2.2.2.1 j h
theorem sRow_buyer (s : Sh n t r) (ha : SeaAd a) {j : Nat} (h : j < 5) : t (a + 16 + j) = (100, 4) := by
  rw [Nat.add_assoc, (s.2.1 a ha).1 (16 + j) (by omega)]
  exact (by decide : ∀ j, j < 5 → TSf (16 + j) = (100, 4)) j h
theorem sRr_dead (s : Sh n t r) (ha : SeaAd a) {j : Nat} (h : j < 6) : r (a + 21) j = a + 22 + j := (s.2.1 a ha).2.2.2.2.2.2.2.2.2.2.2.2.1 j h
theorem sRow_dead (s : Sh n t r) (ha : SeaAd a) {j : Nat} (h : j < 6) : t (a + 22 + j) = (100, 2) := by
  rw [Nat.add_assoc, (s.2.1 a ha).1 (22 + j) (by omega)]
  exact (by decide : ∀ j, j < 6 → TSf (22 + j) = (100, 2)) j h
theorem sRx_fish (s : Sh n t r) (ha : SeaAd a) {j : Nat} (h : j < 8) : r (a + 2) j = a + 2 + 1 + j := sRr_fish s ha h
theorem sRowx_fish (s : Sh n t r) (ha : SeaAd a) {j : Nat} (h : j < 8) : t (a + 2 + 1 + j) = (100, 6) := sRow_fish s ha h
theorem sRx_boat (s : Sh n t r) (ha : SeaAd a) {j : Nat} (h : j < 3) : r (a + 11) j = a + 11 + 1 + j := sRr_boat s ha h
theorem sRowx_boat (s : Sh n t r) (ha : SeaAd a) {j : Nat} (h : j < 3) : t (a + 11 + 1 + j) = (100, 3) := sRow_boat s ha h
theorem sRx_buyer (s : Sh n t r) (ha : SeaAd a) {j : Nat} (h : j < 5) : r (a + 15) j = a + 15 + 1 + j := sRr_buyer s ha h
theorem sRowx_buyer (s : Sh n t r) (ha : SeaAd a) {j : Nat} (h : j < 5) : t (a + 15 + 1 + j) = (100, 4) := sRow_buyer s ha h
theorem sRx_dead (s : Sh n t r) (ha : SeaAd a) {j : Nat} (h : j < 6) : r (a + 21) j = a + 21 + 1 + j := sRr_dead s ha h
theorem sRowx_dead (s : Sh n t r) (ha : SeaAd a) {j : Nat} (h : j < 6) : t (a + 21 + 1 + j) = (100, 2) := sRow_dead s ha h
theorem sLaw (s : Sh n t r) (ha : SeaAd a) : isLw n t r (r a 16) := (s.2.1 a ha).2.2.2.2.2.2.2.2.2.2.2.2.2
theorem lT (h : isLw n t r l) : t l = (2, 6) := h.2.2.1
theorem lge (h : isLw n t r l) : 1000 ≤ l := h.1
theorem lgeo {k : Nat} (h : isLw n t r l) : 1000 ≤ l + k := Nat.le_trans h.1 (Nat.le_add_right l k)
theorem lR1 (h : isLw n t r l) : r l 1 = l + 2 := h.2.2.2.1
theorem lR2 (h : isLw n t r l) : r l 2 = l + 3 := h.2.2.2.2.1
theorem lR3 (h : isLw n t r l) : r l 3 = l + 4 := h.2.2.2.2.2.1
theorem lR4 (h : isLw n t r l) : r l 4 = l + 5 := h.2.2.2.2.2.2.1
theorem lR5 (h : isLw n t r l) : r l 5 = l + 1 := h.2.2.2.2.2.2.2.1
theorem lT1 (h : isLw n t r l) : t (l + 1) = (100, 32) := h.2.2.2.2.2.2.2.2.1
theorem lT2 (h : isLw n t r l) : t (l + 2) = (100, (t (l + 2)).2) := by rw [← h.2.2.2.2.2.2.2.2.2.1]
theorem lT3 (h : isLw n t r l) : t (l + 3) = (100, (t (l + 3)).2) := by rw [← h.2.2.2.2.2.2.2.2.2.2.1]
theorem lT4 (h : isLw n t r l) : t (l + 4) = (100, (t (l + 4)).2) := by rw [← h.2.2.2.2.2.2.2.2.2.2.2.1]
theorem lT5 (h : isLw n t r l) : t (l + 5) = (100, (t (l + 5)).2) := by rw [← h.2.2.2.2.2.2.2.2.2.2.2.2]
theorem strT (s : Sh n t r) (hw : StrAd w) : t w = (13, (t w).2) := by
  obtain ⟨k, hk, rfl⟩ := hw
  rw [← (s.2.2.2.2.2.2.2 k hk).1]
theorem strR (s : Sh n t r) (hw : StrAd w) : r w 0 = w + 1 := by
  obtain ⟨k, hk, rfl⟩ := hw
  exact (s.2.2.2.2.2.2.2 k hk).2.1
theorem strB (s : Sh n t r) (hw : StrAd w) : t (w + 1) = (101, (t (w + 1)).2) := by
  obtain ⟨k, hk, rfl⟩ := hw
  rw [show 2 * k + 2 + 1 = 2 * k + 3 from rfl, ← (s.2.2.2.2.2.2.2 k hk).2.2]
theorem pastR (s : Sh n t r) {j : Nat} (h : j < 12) : r 1150 j = 1151 + 37 * j := s.2.2.2.2.1 j h
theorem rowR1622 (s : Sh n t r) {j : Nat} (h : j < 6) : r 1621 j = 1622 + j := (s.2.2.2.2.2.1.1 j h).1
theorem rowT1622 (s : Sh n t r) {j : Nat} (h : j < 6) : t (1622 + j) = (100, 256) := (s.2.2.2.2.2.1.1 j h).2
theorem rowR1605 (s : Sh n t r) {j : Nat} (h : j < 6) : r 1604 j = 1605 + j := (s.2.2.2.2.2.1.2 j h).1
theorem rowT1605 (s : Sh n t r) {j : Nat} (h : j < 6) : t (1605 + j) = (100, 8) := (s.2.2.2.2.2.1.2 j h).2
theorem t1000 (s : Sh n t r) : t 1000 = (11, 15) := s.2.2.1 (1000, 11, 15) (List.mem_of_getElem? (i := 0) rfl)
theorem t1149 (s : Sh n t r) : t 1149 = (5, 3) := s.2.2.1 (1149, 5, 3) (List.mem_of_getElem? (i := 1) rfl)
theorem t1150 (s : Sh n t r) : t 1150 = (105, 12) := s.2.2.1 (1150, 105, 12) (List.mem_of_getElem? (i := 2) rfl)
theorem t1595 (s : Sh n t r) : t 1595 = (10, 7) := s.2.2.1 (1595, 10, 7) (List.mem_of_getElem? (i := 3) rfl)
theorem t1596 (s : Sh n t r) : t 1596 = (101, 400) := s.2.2.1 (1596, 101, 400) (List.mem_of_getElem? (i := 4) rfl)
theorem t1597 (s : Sh n t r) : t 1597 = (8, 1) := s.2.2.1 (1597, 8, 1) (List.mem_of_getElem? (i := 5) rfl)
theorem t1598 (s : Sh n t r) : t 1598 = (3, 7) := s.2.2.1 (1598, 3, 7) (List.mem_of_getElem? (i := 6) rfl)
theorem t1599 (s : Sh n t r) : t 1599 = (100, 12) := s.2.2.1 (1599, 100, 12) (List.mem_of_getElem? (i := 7) rfl)
theorem t1600 (s : Sh n t r) : t 1600 = (100, 12) := s.2.2.1 (1600, 100, 12) (List.mem_of_getElem? (i := 8) rfl)
theorem t1601 (s : Sh n t r) : t 1601 = (100, 13) := s.2.2.1 (1601, 100, 13) (List.mem_of_getElem? (i := 9) rfl)
theorem t1602 (s : Sh n t r) : t 1602 = (100, 400) := s.2.2.1 (1602, 100, 400) (List.mem_of_getElem? (i := 10) rfl)
theorem t1603 (s : Sh n t r) : t 1603 = (0, 9) := s.2.2.1 (1603, 0, 9) (List.mem_of_getElem? (i := 11) rfl)
theorem t1604 (s : Sh n t r) : t 1604 = (104, 6) := s.2.2.1 (1604, 104, 6) (List.mem_of_getElem? (i := 12) rfl)
theorem t1611 (s : Sh n t r) : t 1611 = (100, 8) := s.2.2.1 (1611, 100, 8) (List.mem_of_getElem? (i := 13) rfl)
theorem t1612 (s : Sh n t r) : t 1612 = (100, 136) := s.2.2.1 (1612, 100, 136) (List.mem_of_getElem? (i := 14) rfl)
theorem t1613 (s : Sh n t r) : t 1613 = (100, 136) := s.2.2.1 (1613, 100, 136) (List.mem_of_getElem? (i := 15) rfl)
theorem t1614 (s : Sh n t r) : t 1614 = (6, 6) := s.2.2.1 (1614, 6, 6) (List.mem_of_getElem? (i := 16) rfl)
theorem t1615 (s : Sh n t r) : t 1615 = (100, 8) := s.2.2.1 (1615, 100, 8) (List.mem_of_getElem? (i := 17) rfl)
theorem t1616 (s : Sh n t r) : t 1616 = (100, 6) := s.2.2.1 (1616, 100, 6) (List.mem_of_getElem? (i := 18) rfl)
theorem t1617 (s : Sh n t r) : t 1617 = (100, 6) := s.2.2.1 (1617, 100, 6) (List.mem_of_getElem? (i := 19) rfl)
theorem t1618 (s : Sh n t r) : t 1618 = (100, 256) := s.2.2.1 (1618, 100, 256) (List.mem_of_getElem? (i := 20) rfl)
theorem t1619 (s : Sh n t r) : t 1619 = (102, 256) := s.2.2.1 (1619, 102, 256) (List.mem_of_getElem? (i := 21) rfl)
theorem t1620 (s : Sh n t r) : t 1620 = (9, 5) := s.2.2.1 (1620, 9, 5) (List.mem_of_getElem? (i := 22) rfl)
theorem t1621 (s : Sh n t r) : t 1621 = (104, 6) := s.2.2.1 (1621, 104, 6) (List.mem_of_getElem? (i := 23) rfl)
theorem t1628 (s : Sh n t r) : t 1628 = (100, 8) := s.2.2.1 (1628, 100, 8) (List.mem_of_getElem? (i := 24) rfl)
theorem t1629 (s : Sh n t r) : t 1629 = (100, 8) := s.2.2.1 (1629, 100, 8) (List.mem_of_getElem? (i := 25) rfl)
theorem t1630 (s : Sh n t r) : t 1630 = (100, 8) := s.2.2.1 (1630, 100, 8) (List.mem_of_getElem? (i := 26) rfl)
theorem t1631 (s : Sh n t r) : t 1631 = (1, 6) := s.2.2.1 (1631, 1, 6) (List.mem_of_getElem? (i := 27) rfl)
theorem t1632 (s : Sh n t r) : t 1632 = (100, 20) := s.2.2.1 (1632, 100, 20) (List.mem_of_getElem? (i := 28) rfl)
theorem t1633 (s : Sh n t r) : t 1633 = (100, 20) := s.2.2.1 (1633, 100, 20) (List.mem_of_getElem? (i := 29) rfl)
theorem t1634 (s : Sh n t r) : t 1634 = (100, 2000) := s.2.2.1 (1634, 100, 2000) (List.mem_of_getElem? (i := 30) rfl)
theorem t1635 (s : Sh n t r) : t 1635 = (100, 100) := s.2.2.1 (1635, 100, 100) (List.mem_of_getElem? (i := 31) rfl)
theorem t1636 (s : Sh n t r) : t 1636 = (100, 100) := s.2.2.1 (1636, 100, 100) (List.mem_of_getElem? (i := 32) rfl)
theorem t1637 (s : Sh n t r) : t 1637 = (100, 25) := s.2.2.1 (1637, 100, 25) (List.mem_of_getElem? (i := 33) rfl)
theorem t1638 (s : Sh n t r) : t 1638 = (12, 29) := s.2.2.1 (1638, 12, 29) (List.mem_of_getElem? (i := 34) rfl)
theorem t1639 (s : Sh n t r) : t 1639 = (100, 2115) := s.2.2.1 (1639, 100, 2115) (List.mem_of_getElem? (i := 35) rfl)
theorem t1640 (s : Sh n t r) : t 1640 = (100, 1266) := s.2.2.1 (1640, 100, 1266) (List.mem_of_getElem? (i := 36) rfl)
theorem t1641 (s : Sh n t r) : t 1641 = (100, 1266) := s.2.2.1 (1641, 100, 1266) (List.mem_of_getElem? (i := 37) rfl)
theorem t1642 (s : Sh n t r) : t 1642 = (100, 417) := s.2.2.1 (1642, 100, 417) (List.mem_of_getElem? (i := 38) rfl)
theorem t1643 (s : Sh n t r) : t 1643 = (100, 5004) := s.2.2.1 (1643, 100, 5004) (List.mem_of_getElem? (i := 39) rfl)
theorem t1644 (s : Sh n t r) : t 1644 = (101, 400) := s.2.2.1 (1644, 101, 400) (List.mem_of_getElem? (i := 40) rfl)
theorem t1645 (s : Sh n t r) : t 1645 = (100, 5) := s.2.2.1 (1645, 100, 5) (List.mem_of_getElem? (i := 41) rfl)
theorem t1646 (s : Sh n t r) : t 1646 = (100, 400) := s.2.2.1 (1646, 100, 400) (List.mem_of_getElem? (i := 42) rfl)
theorem t1647 (s : Sh n t r) : t 1647 = (100, 8) := s.2.2.1 (1647, 100, 8) (List.mem_of_getElem? (i := 43) rfl)
theorem t1648 (s : Sh n t r) : t 1648 = (100, 48) := s.2.2.1 (1648, 100, 48) (List.mem_of_getElem? (i := 44) rfl)
theorem t1649 (s : Sh n t r) : t 1649 = (100, 1792) := s.2.2.1 (1649, 100, 1792) (List.mem_of_getElem? (i := 45) rfl)
theorem t1650 (s : Sh n t r) : t 1650 = (100, 6) := s.2.2.1 (1650, 100, 6) (List.mem_of_getElem? (i := 46) rfl)
theorem t1651 (s : Sh n t r) : t 1651 = (100, 100) := s.2.2.1 (1651, 100, 100) (List.mem_of_getElem? (i := 47) rfl)
theorem t1652 (s : Sh n t r) : t 1652 = (102, 2000) := s.2.2.1 (1652, 102, 2000) (List.mem_of_getElem? (i := 48) rfl)
theorem t1653 (s : Sh n t r) : t 1653 = (100, 100) := s.2.2.1 (1653, 100, 100) (List.mem_of_getElem? (i := 49) rfl)
theorem t1654 (s : Sh n t r) : t 1654 = (100, 1536) := s.2.2.1 (1654, 100, 1536) (List.mem_of_getElem? (i := 50) rfl)
theorem t1655 (s : Sh n t r) : t 1655 = (100, 256) := s.2.2.1 (1655, 100, 256) (List.mem_of_getElem? (i := 51) rfl)
theorem t1656 (s : Sh n t r) : t 1656 = (100, 1820) := s.2.2.1 (1656, 100, 1820) (List.mem_of_getElem? (i := 52) rfl)
theorem t1657 (s : Sh n t r) : t 1657 = (100, 256) := s.2.2.1 (1657, 100, 256) (List.mem_of_getElem? (i := 53) rfl)
theorem t1658 (s : Sh n t r) : t 1658 = (103, 1) := s.2.2.1 (1658, 103, 1) (List.mem_of_getElem? (i := 54) rfl)
theorem r1000_0 (s : Sh n t r) : r 1000 0 = 1001 := s.2.2.2.1 (1000, 0, 1001) (List.mem_of_getElem? (i := 0) rfl)
theorem r1000_1 (s : Sh n t r) : r 1000 1 = 1038 := s.2.2.2.1 (1000, 1, 1038) (List.mem_of_getElem? (i := 1) rfl)
theorem r1000_2 (s : Sh n t r) : r 1000 2 = 1075 := s.2.2.2.1 (1000, 2, 1075) (List.mem_of_getElem? (i := 2) rfl)
theorem r1000_3 (s : Sh n t r) : r 1000 3 = 1112 := s.2.2.2.1 (1000, 3, 1112) (List.mem_of_getElem? (i := 3) rfl)
theorem r1000_5 (s : Sh n t r) : r 1000 5 = 1149 := s.2.2.2.1 (1000, 5, 1149) (List.mem_of_getElem? (i := 4) rfl)
theorem r1000_6 (s : Sh n t r) : r 1000 6 = 1595 := s.2.2.2.1 (1000, 6, 1595) (List.mem_of_getElem? (i := 5) rfl)
theorem r1000_7 (s : Sh n t r) : r 1000 7 = 1597 := s.2.2.2.1 (1000, 7, 1597) (List.mem_of_getElem? (i := 6) rfl)
theorem r1000_8 (s : Sh n t r) : r 1000 8 = 1598 := s.2.2.2.1 (1000, 8, 1598) (List.mem_of_getElem? (i := 7) rfl)
theorem r1000_9 (s : Sh n t r) : r 1000 9 = 1603 := s.2.2.2.1 (1000, 9, 1603) (List.mem_of_getElem? (i := 8) rfl)
theorem r1000_10 (s : Sh n t r) : r 1000 10 = 1614 := s.2.2.2.1 (1000, 10, 1614) (List.mem_of_getElem? (i := 9) rfl)
theorem r1000_11 (s : Sh n t r) : r 1000 11 = 1620 := s.2.2.2.1 (1000, 11, 1620) (List.mem_of_getElem? (i := 10) rfl)
theorem r1000_12 (s : Sh n t r) : r 1000 12 = 1631 := s.2.2.2.1 (1000, 12, 1631) (List.mem_of_getElem? (i := 11) rfl)
theorem r1000_13 (s : Sh n t r) : r 1000 13 = 1636 := s.2.2.2.1 (1000, 13, 1636) (List.mem_of_getElem? (i := 12) rfl)
theorem r1000_14 (s : Sh n t r) : r 1000 14 = 1637 := s.2.2.2.1 (1000, 14, 1637) (List.mem_of_getElem? (i := 13) rfl)
theorem r1149_0 (s : Sh n t r) : r 1149 0 = 1150 := s.2.2.2.1 (1149, 0, 1150) (List.mem_of_getElem? (i := 14) rfl)
theorem r1595_0 (s : Sh n t r) : r 1595 0 = 1596 := s.2.2.2.1 (1595, 0, 1596) (List.mem_of_getElem? (i := 15) rfl)
theorem r1597_0 (s : Sh n t r) : r 1597 0 = 1595 := s.2.2.2.1 (1597, 0, 1595) (List.mem_of_getElem? (i := 16) rfl)
theorem r1598_0 (s : Sh n t r) : r 1598 0 = 1595 := s.2.2.2.1 (1598, 0, 1595) (List.mem_of_getElem? (i := 17) rfl)
theorem r1598_1 (s : Sh n t r) : r 1598 1 = 1599 := s.2.2.2.1 (1598, 1, 1599) (List.mem_of_getElem? (i := 18) rfl)
theorem r1598_2 (s : Sh n t r) : r 1598 2 = 1600 := s.2.2.2.1 (1598, 2, 1600) (List.mem_of_getElem? (i := 19) rfl)
theorem r1598_3 (s : Sh n t r) : r 1598 3 = 1601 := s.2.2.2.1 (1598, 3, 1601) (List.mem_of_getElem? (i := 20) rfl)
theorem r1598_4 (s : Sh n t r) : r 1598 4 = 1602 := s.2.2.2.1 (1598, 4, 1602) (List.mem_of_getElem? (i := 21) rfl)
theorem r1603_0 (s : Sh n t r) : r 1603 0 = 1604 := s.2.2.2.1 (1603, 0, 1604) (List.mem_of_getElem? (i := 22) rfl)
theorem r1603_1 (s : Sh n t r) : r 1603 1 = 1611 := s.2.2.2.1 (1603, 1, 1611) (List.mem_of_getElem? (i := 23) rfl)
theorem r1614_0 (s : Sh n t r) : r 1614 0 = 1615 := s.2.2.2.1 (1614, 0, 1615) (List.mem_of_getElem? (i := 24) rfl)
theorem r1614_1 (s : Sh n t r) : r 1614 1 = 1616 := s.2.2.2.1 (1614, 1, 1616) (List.mem_of_getElem? (i := 25) rfl)
theorem r1614_2 (s : Sh n t r) : r 1614 2 = 1617 := s.2.2.2.1 (1614, 2, 1617) (List.mem_of_getElem? (i := 26) rfl)
theorem r1614_3 (s : Sh n t r) : r 1614 3 = 1618 := s.2.2.2.1 (1614, 3, 1618) (List.mem_of_getElem? (i := 27) rfl)
theorem r1614_4 (s : Sh n t r) : r 1614 4 = 1619 := s.2.2.2.1 (1614, 4, 1619) (List.mem_of_getElem? (i := 28) rfl)
theorem r1620_0 (s : Sh n t r) : r 1620 0 = 1621 := s.2.2.2.1 (1620, 0, 1621) (List.mem_of_getElem? (i := 29) rfl)
theorem r1620_1 (s : Sh n t r) : r 1620 1 = 1628 := s.2.2.2.1 (1620, 1, 1628) (List.mem_of_getElem? (i := 30) rfl)
theorem r1620_2 (s : Sh n t r) : r 1620 2 = 1629 := s.2.2.2.1 (1620, 2, 1629) (List.mem_of_getElem? (i := 31) rfl)
theorem r1620_3 (s : Sh n t r) : r 1620 3 = 1630 := s.2.2.2.1 (1620, 3, 1630) (List.mem_of_getElem? (i := 32) rfl)
theorem r1631_0 (s : Sh n t r) : r 1631 0 = 1632 := s.2.2.2.1 (1631, 0, 1632) (List.mem_of_getElem? (i := 33) rfl)
theorem r1631_1 (s : Sh n t r) : r 1631 1 = 1633 := s.2.2.2.1 (1631, 1, 1633) (List.mem_of_getElem? (i := 34) rfl)
theorem r1631_2 (s : Sh n t r) : r 1631 2 = 1634 := s.2.2.2.1 (1631, 2, 1634) (List.mem_of_getElem? (i := 35) rfl)
theorem r1631_3 (s : Sh n t r) : r 1631 3 = 1635 := s.2.2.2.1 (1631, 3, 1635) (List.mem_of_getElem? (i := 36) rfl)
theorem r1638_1 (s : Sh n t r) : r 1638 1 = 1639 := s.2.2.2.1 (1638, 1, 1639) (List.mem_of_getElem? (i := 37) rfl)
theorem r1638_2 (s : Sh n t r) : r 1638 2 = 1640 := s.2.2.2.1 (1638, 2, 1640) (List.mem_of_getElem? (i := 38) rfl)
theorem r1638_3 (s : Sh n t r) : r 1638 3 = 1641 := s.2.2.2.1 (1638, 3, 1641) (List.mem_of_getElem? (i := 39) rfl)
theorem r1638_4 (s : Sh n t r) : r 1638 4 = 1642 := s.2.2.2.1 (1638, 4, 1642) (List.mem_of_getElem? (i := 40) rfl)
theorem r1638_5 (s : Sh n t r) : r 1638 5 = 1643 := s.2.2.2.1 (1638, 5, 1643) (List.mem_of_getElem? (i := 41) rfl)
theorem r1638_8 (s : Sh n t r) : r 1638 8 = 1644 := s.2.2.2.1 (1638, 8, 1644) (List.mem_of_getElem? (i := 42) rfl)
theorem r1638_15 (s : Sh n t r) : r 1638 15 = 1645 := s.2.2.2.1 (1638, 15, 1645) (List.mem_of_getElem? (i := 43) rfl)
theorem r1638_17 (s : Sh n t r) : r 1638 17 = 1646 := s.2.2.2.1 (1638, 17, 1646) (List.mem_of_getElem? (i := 44) rfl)
theorem r1638_18 (s : Sh n t r) : r 1638 18 = 1647 := s.2.2.2.1 (1638, 18, 1647) (List.mem_of_getElem? (i := 45) rfl)
theorem r1638_19 (s : Sh n t r) : r 1638 19 = 1648 := s.2.2.2.1 (1638, 19, 1648) (List.mem_of_getElem? (i := 46) rfl)
theorem r1638_20 (s : Sh n t r) : r 1638 20 = 1649 := s.2.2.2.1 (1638, 20, 1649) (List.mem_of_getElem? (i := 47) rfl)
theorem r1638_21 (s : Sh n t r) : r 1638 21 = 1650 := s.2.2.2.1 (1638, 21, 1650) (List.mem_of_getElem? (i := 48) rfl)
theorem r1638_22 (s : Sh n t r) : r 1638 22 = 1651 := s.2.2.2.1 (1638, 22, 1651) (List.mem_of_getElem? (i := 49) rfl)
theorem r1638_23 (s : Sh n t r) : r 1638 23 = 1652 := s.2.2.2.1 (1638, 23, 1652) (List.mem_of_getElem? (i := 50) rfl)
theorem r1638_24 (s : Sh n t r) : r 1638 24 = 1653 := s.2.2.2.1 (1638, 24, 1653) (List.mem_of_getElem? (i := 51) rfl)
theorem r1638_25 (s : Sh n t r) : r 1638 25 = 1654 := s.2.2.2.1 (1638, 25, 1654) (List.mem_of_getElem? (i := 52) rfl)
theorem r1638_26 (s : Sh n t r) : r 1638 26 = 1655 := s.2.2.2.1 (1638, 26, 1655) (List.mem_of_getElem? (i := 53) rfl)
theorem r1638_27 (s : Sh n t r) : r 1638 27 = 1656 := s.2.2.2.1 (1638, 27, 1656) (List.mem_of_getElem? (i := 54) rfl)
theorem r1638_28 (s : Sh n t r) : r 1638 28 = 1657 := s.2.2.2.1 (1638, 28, 1657) (List.mem_of_getElem? (i := 55) rfl)
theorem crsT7 (s : Sh n t r) : t (r 1603 7) = (100, 136) := by
  rcases s.2.2.2.2.2.2.1 with h | h
  · rw [h.1]; exact t1612 s
  · rw [h.1]; exact t1613 s
theorem crsG7 (s : Sh n t r) : 1000 ≤ r 1603 7 := by
  rcases s.2.2.2.2.2.2.1 with h | h <;> rw [h.1] <;> exact Nat.le_of_ble_eq_true rfl
theorem crsT8 (s : Sh n t r) : t (r 1603 8) = (100, 136) := by
  rcases s.2.2.2.2.2.2.1 with h | h
  · rw [h.2]; exact t1613 s
  · rw [h.2]; exact t1612 s
theorem crsG8 (s : Sh n t r) : 1000 ≤ r 1603 8 := by
  rcases s.2.2.2.2.2.2.1 with h | h <;> rw [h.2] <;> exact Nat.le_of_ble_eq_true rfl
/-- a law is put to a sea -/
theorem isLw_set {v : Nat} (h : isLw n t r l) (ha : t a = (7, 17)) : isLw n t (wrR r a 16 v) l := by
  have hne : l ≠ a := by
    rintro rfl
    rw [h.2.2.1] at ha
    cases ha
  obtain ⟨h1, h2, h3, h4, h5, h6, h7, h8, h9⟩ := h
  refine ⟨h1, h2, h3, ?_, ?_, ?_, ?_, ?_, h9⟩ <;> (unfold wrR; rw [if_neg (fun q => hne q.1)]; assumption)
theorem shLaw {v : Nat} (s : Sh n t r) (ha : SeaAd a) (hv : isLw n t r v) : Sh n t (wrR r a 16 v) := by
  have hT := sT0 s ha
  have hne : ∀ b k, b ≠ a → wrR r a 16 v b k = r b k := fun b k hb => by unfold wrR; rw [if_neg (fun q => hb q.1)]
  have hnk : ∀ k, k ≠ 16 → wrR r a 16 v a k = r a k := fun k hk => by unfold wrR; rw [if_neg (fun q => hk q.2)]
  have hlt : ∀ b k, k ≠ 16 → wrR r a 16 v b k = r b k := fun b k hk => by unfold wrR; rw [if_neg (fun q => hk q.2)]
  obtain ⟨s1, s2, s3, s4, s5, ⟨s6, s7⟩, s8, s9⟩ := s
  refine ⟨s1, fun b hb => ?_, s3, ?_, ?_, ⟨?_, ?_⟩, ?_, ?_⟩
  · obtain ⟨q1, q2, q3, q4, q5, q6, q7, q8, q9, p1, p2, p3, p4, p5⟩ := s2 b hb
    refine ⟨q1, ?_, ?_, ?_, ?_, ?_, ?_, ?_, ?_, ?_, ?_, ?_, ?_, ?_⟩
    · rw [hlt b 0 (by decide)]; exact q2
    · rw [hlt b 1 (by decide)]; exact q3
    · rw [hlt b 2 (by decide)]; exact q4
    · rw [hlt b 3 (by decide)]; exact q5
    · rw [hlt b 4 (by decide)]; exact q6
    · rw [hlt b 5 (by decide)]; exact q7
    · rw [hlt b 6 (by decide)]; exact q8
    · rw [hlt (b + 28) 0 (by decide)]; exact q9
    · intro j hj; rw [hlt (b + 2) j (by omega)]; exact p1 j hj
    · intro j hj; rw [hlt (b + 11) j (by omega)]; exact p2 j hj
    · intro j hj; rw [hlt (b + 15) j (by omega)]; exact p3 j hj
    · intro j hj; rw [hlt (b + 21) j (by omega)]; exact p4 j hj
    · by_cases hba : b = a
      · subst hba
        have : wrR r b 16 v b 16 = v := by unfold wrR; rw [if_pos ⟨rfl, rfl⟩]
        rw [this]
        exact isLw_set hv hT
      · rw [hne b 16 hba]
        exact isLw_set p5 hT
  · intro x hx
    by_cases hk : x.2.1 = 16
    · have h9 : ∀ x ∈ RL, x.2.1 = 16 → x.1 = 1000 ∨ 1600 ≤ x.1 := by decide
      rw [hne x.1 x.2.1 ?_]
      · exact s4 x hx
      · have := h9 x hx hk
        intro h8
        rcases ha with ⟨j, hj, rfl⟩ | ⟨j, hj, rfl⟩ <;> omega
    · rw [hlt x.1 x.2.1 hk]; exact s4 x hx
  · intro j hj; rw [hlt 1150 j (by omega)]; exact s5 j hj
  · intro j hj; rw [hlt 1621 j (by omega)]; exact s6 j hj
  · intro j hj; rw [hlt 1604 j (by omega)]; exact s7 j hj
  · rw [hlt 1603 7 (by decide), hlt 1603 8 (by decide)]; exact s8
  · intro k hk
    rw [hlt (2 * k + 2) 0 (by decide)]; exact s9 k hk
theorem wrR_o {b k v b' k' : Nat} (h : ¬ (b' = b ∧ k' = k)) : wrR r b k v b' k' = r b' k' := by unfold wrR; rw [if_neg h]
theorem wrR_s {b k v : Nat} : wrR r b k v b k = v := by unfold wrR; rw [if_pos ⟨rfl, rfl⟩]
/-- the two rows of the chase are changed over -/
theorem shCrs (s : Sh n t r) : Sh n t (wrR (wrR r 1603 7 (r 1603 8)) 1603 8 (r 1603 7)) := by
  have ho : ∀ b k, b ≠ 1603 → wrR (wrR r 1603 7 (r 1603 8)) 1603 8 (r 1603 7) b k = r b k := fun b k hb => by
    rw [wrR_o (fun q => hb q.1), wrR_o (fun q => hb q.1)]
  have ho2 : ∀ b k, k ≠ 7 → k ≠ 8 → wrR (wrR r 1603 7 (r 1603 8)) 1603 8 (r 1603 7) b k = r b k := fun b k h7 h8 => by
    rw [wrR_o (fun q => h8 q.2), wrR_o (fun q => h7 q.2)]
  have hsea : ∀ b, SeaAd b → b + 30 < 1603 := fun b hb => by rcases hb with ⟨j, hj, rfl⟩ | ⟨j, hj, rfl⟩ <;> omega
  have hT := t1603 s
  obtain ⟨s1, s2, s3, s4, s5, ⟨s6, s7⟩, s8, s9⟩ := s
  refine ⟨s1, fun b hb => ?_, s3, ?_, ?_, ⟨?_, ?_⟩, ?_, ?_⟩
  · obtain ⟨q1, q2, q3, q4, q5, q6, q7, q8, q9, p1, p2, p3, p4, p5⟩ := s2 b hb
    have hb3 := hsea b hb
    refine ⟨q1, ?_, ?_, ?_, ?_, ?_, ?_, ?_, ?_, ?_, ?_, ?_, ?_, ?_⟩
    · rw [ho b 0 (by omega)]; exact q2
    · rw [ho b 1 (by omega)]; exact q3
    · rw [ho b 2 (by omega)]; exact q4
    · rw [ho b 3 (by omega)]; exact q5
    · rw [ho b 4 (by omega)]; exact q6
    · rw [ho b 5 (by omega)]; exact q7
    · rw [ho b 6 (by omega)]; exact q8
    · rw [ho (b + 28) 0 (by omega)]; exact q9
    · intro j hj; rw [ho (b + 2) j (by omega)]; exact p1 j hj
    · intro j hj; rw [ho (b + 11) j (by omega)]; exact p2 j hj
    · intro j hj; rw [ho (b + 15) j (by omega)]; exact p3 j hj
    · intro j hj; rw [ho (b + 21) j (by omega)]; exact p4 j hj
    · rw [ho b 16 (by omega)]
      have hne : r b 16 ≠ 1603 := by
        intro h; rw [h] at p5; have h3 := p5.2.2.1; rw [hT] at h3; cases h3
      obtain ⟨h1, h2, h3, h4, h5, h6, h7, h8, h9⟩ := p5
      refine ⟨h1, h2, h3, ?_, ?_, ?_, ?_, ?_, h9⟩ <;> (rw [ho _ _ hne]; assumption)
  · intro x hx
    have h9 : ∀ x ∈ RL, x.1 = 1603 → x.2.1 ≠ 7 ∧ x.2.1 ≠ 8 := by decide
    by_cases hk : x.1 = 1603
    · have := h9 x hx hk
      rw [ho2 x.1 x.2.1 this.1 this.2]; exact s4 x hx
    · rw [ho x.1 x.2.1 hk]; exact s4 x hx
  · intro j hj; rw [ho 1150 j (by decide)]; exact s5 j hj
  · intro j hj; rw [ho 1621 j (by decide)]; exact s6 j hj
  · intro j hj; rw [ho 1604 j (by decide)]; exact s7 j hj
  · rw [wrR_o (b := 1603) (k := 8) (fun q => by cases q.2), wrR_s, wrR_s]
    rcases s8 with h | h
    · exact Or.inr ⟨h.2, h.1⟩
    · exact Or.inl ⟨h.2, h.1⟩
  · intro k hk
    rw [ho2 (2 * k + 2) 0 (by decide) (by decide)]; exact s9 k hk
end SHF
theorem lk0 : Ltr (0 : Int32) 0 := ⟨by decide, by decide⟩
theorem lk1 : Ltr (1 : Int32) 1 := ⟨by decide, by decide⟩
theorem lk2 : Ltr (2 : Int32) 2 := ⟨by decide, by decide⟩
theorem lk3 : Ltr (3 : Int32) 3 := ⟨by decide, by decide⟩
theorem lk4 : Ltr (4 : Int32) 4 := ⟨by decide, by decide⟩
theorem lk5 : Ltr (5 : Int32) 5 := ⟨by decide, by decide⟩
theorem lk6 : Ltr (6 : Int32) 6 := ⟨by decide, by decide⟩
theorem lk7 : Ltr (7 : Int32) 7 := ⟨by decide, by decide⟩
theorem lk8 : Ltr (8 : Int32) 8 := ⟨by decide, by decide⟩
theorem lk9 : Ltr (9 : Int32) 9 := ⟨by decide, by decide⟩
theorem lk10 : Ltr (10 : Int32) 10 := ⟨by decide, by decide⟩
theorem lk25 : Ltr (25 : Int32) 25 := ⟨by decide, by decide⟩
theorem lk117 : Ltr (117 : Int32) 117 := ⟨by decide, by decide⟩
theorem lk118 : Ltr (118 : Int32) 118 := ⟨by decide, by decide⟩
theorem lk119 : Ltr (119 : Int32) 119 := ⟨by decide, by decide⟩
theorem lk120 : Ltr (120 : Int32) 120 := ⟨by decide, by decide⟩
theorem lk121 : Ltr (121 : Int32) 121 := ⟨by decide, by decide⟩
theorem lk417 : Ltr (417 : Int32) 417 := ⟨by decide, by decide⟩
theorem lk1266 : Ltr (1266 : Int32) 1266 := ⟨by decide, by decide⟩
