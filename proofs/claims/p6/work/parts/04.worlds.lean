/-! ===== the desk's world: what its cells hold, by numbers =====
σ.1 f i: the int fields (0 Row.size; 1..4 Entry.start, size, packed, crc; 5 Shelf.count; 6..11 Reader's; 12..14 Header.method, crc, nameSize); σ.2.1: Header.packed, size; σ.2.2.1: the int arrays (0 ready, 1 tape, 2 output, 3 all bytes, 4 unpacked, 5.. names, 25 centralAt, 26 packedAt); σ.2.2.2: which entry lies at a place -/
abbrev SD : Type := (Nat → Nat → Int32) × (Nat → Int64) × (Nat → Nat → Int32) × (Nat → Nat)
def u2 {α : Type} (f : Nat → Nat → α) (a b : Nat) (v : α) : Nat → Nat → α := fun i j => if i = a ∧ j = b then v else f i j
def SDi (σ : SD) (f i : Nat) (v : Int32) : SD := (u2 σ.1 f i v, σ.2)
def SDj (σ : SD) (f : Nat) (v : Int64) : SD := (σ.1, va_up σ.2.1 f v, σ.2.2)
def SDc (σ : SD) (a : Nat) (g : Nat → Int32) : SD := (σ.1, σ.2.1, va_up σ.2.2.1 a g, σ.2.2.2)
def SDe (σ : SD) (k e : Nat) : SD := (σ.1, σ.2.1, σ.2.2.1, va_up σ.2.2.2 k e)
def capD (a : Nat) : Nat := if a = 0 then 20 else if a = 1 then 9000 else if a = 2 then 9000 else if a = 3 then 6000 else if a = 4 then 1500 else if a < 25 then 30 else 20
def cD (cyI cyE : ClassId) (ad : Nat → Nat) (σ : SD) (i : Nat) : va_E :=
  if i < 25 then .inr (3, [.ref (ad (25 + i)), .int (σ.1 0 i)])
  else if i < 52 then .inl (cyI, capD (i - 25), .inl (σ.2.2.1 (i - 25)))
  else if i < 72 then .inr (0, [.ref (ad (5 + (i - 52))), .int (σ.1 1 (i - 52)), .int (σ.1 2 (i - 52)), .int (σ.1 3 (i - 52)), .int (σ.1 4 (i - 52))])
  else if i = 72 then .inl (cyE, 20, .inr (.inr (.inr (.inr (fun k => some (ad (52 + σ.2.2.2 k)))))))
  else if i = 73 then .inr (1, [.int (σ.1 12 0), .int (σ.1 13 0), .long (σ.2.1 0), .long (σ.2.1 1), .int (σ.1 14 0)])
  else if i = 74 then .inr (2, [.ref (ad (25 + 25)), .ref (ad (25 + 26)), .ref (ad 73), .ref (ad 4), .int (σ.1 6 0), .int (σ.1 7 0), .int (σ.1 8 0), .int (σ.1 9 0), .int (σ.1 10 0), .int (σ.1 11 0)])
  else if i = 75 then .inr (4, [.ref (ad 72), .ref (ad 3), .int (σ.1 5 0)])
  else .inr (5, [.ref (ad 0), .ref (ad 1), .ref (ad 2), .ref (ad 75), .ref (ad 74)])
def SM0 : Type := (Nat → Int32) × (Nat → Nat → Int32)
abbrev SM : Type := (Nat → Int32) × (Nat → Nat → Int32)
def SMi (σ : SM) (f : Nat) (v : Int32) : SM := (va_up σ.1 f v, σ.2)
def SMc (σ : SM) (a : Nat) (g : Nat → Int32) : SM := (σ.1, va_up σ.2 a g)
def capM (a : Nat) : Nat := ([20, 9000, 9000, 630, 21, 31500, 21, 1600, 20, 20, 21] : List Nat).getD a 0
def cM (cyI : ClassId) (ad : Nat → Nat) (σ : SM) (i : Nat) : va_E := if i < 11 then .inl (cyI, capM i, .inl (σ.2 i)) else .inr (6, [.int (σ.1 0), .ref (ad 0), .ref (ad 1), .int (σ.1 1), .ref (ad 2), .int (σ.1 2), .int (σ.1 3), .ref (ad 3), .ref (ad 4), .ref (ad 5), .ref (ad 6), .int (σ.1 4), .int (σ.1 5), .int (σ.1 6), .ref (ad 7), .int (σ.1 7), .ref (ad 8), .ref (ad 9), .ref (ad 10)])
theorem cD_Row {cyI cyE : ClassId} {ad : Nat → Nat} {σ : SD} {r : Nat} (h : r < 25) : cD cyI cyE ad σ r = .inr (3, [.ref (ad (25 + r)), .int (σ.1 0 r)]) := by simp [cD, h]
theorem cD_Entry {cyI cyE : ClassId} {ad : Nat → Nat} {σ : SD} {k : Nat} (h : k < 20) : cD cyI cyE ad σ (52 + k) = .inr (0, [.ref (ad (5 + k)), .int (σ.1 1 k), .int (σ.1 2 k), .int (σ.1 3 k), .int (σ.1 4 k)]) := by
  have h1 : ¬ 52 + k < 25 := by omega
  have h2 : ¬ 52 + k < 52 := by omega
  have h3 : 52 + k < 72 := by omega
  have h4 : 52 + k - 52 = k := by omega
  simp only [cD, if_neg h1, if_neg h2, if_pos h3, h4]
theorem cD_Header {cyI cyE : ClassId} {ad : Nat → Nat} {σ : SD} : cD cyI cyE ad σ 73 = .inr (1, [.int (σ.1 12 0), .int (σ.1 13 0), .long (σ.2.1 0), .long (σ.2.1 1), .int (σ.1 14 0)]) := rfl
theorem cD_Reader {cyI cyE : ClassId} {ad : Nat → Nat} {σ : SD} : cD cyI cyE ad σ 74 = .inr (2, [.ref (ad (25 + 25)), .ref (ad (25 + 26)), .ref (ad 73), .ref (ad 4), .int (σ.1 6 0), .int (σ.1 7 0), .int (σ.1 8 0), .int (σ.1 9 0), .int (σ.1 10 0), .int (σ.1 11 0)]) := rfl
theorem cD_Shelf {cyI cyE : ClassId} {ad : Nat → Nat} {σ : SD} : cD cyI cyE ad σ 75 = .inr (4, [.ref (ad 72), .ref (ad 3), .int (σ.1 5 0)]) := rfl
theorem cD_Desk {cyI cyE : ClassId} {ad : Nat → Nat} {σ : SD} : cD cyI cyE ad σ 76 = .inr (5, [.ref (ad 0), .ref (ad 1), .ref (ad 2), .ref (ad 75), .ref (ad 74)]) := rfl
theorem cD_A {cyI cyE : ClassId} {ad : Nat → Nat} {σ : SD} {a : Nat} (h : a < 27) : cD cyI cyE ad σ (25 + a) = .inl (cyI, capD a, .inl (σ.2.2.1 a)) := by
  have h1 : ¬ 25 + a < 25 := by omega
  have h2 : 25 + a < 52 := by omega
  have h4 : 25 + a - 25 = a := by omega
  simp only [cD, if_neg h1, if_pos h2, h4]
theorem cD_E {cyI cyE : ClassId} {ad : Nat → Nat} {σ : SD} : cD cyI cyE ad σ 72 = .inl (cyE, 20, .inr (.inr (.inr (.inr (fun k => some (ad (52 + σ.2.2.2 k))))))) := rfl
theorem cM_A {cyI : ClassId} {ad : Nat → Nat} {σ : SM} {a : Nat} (h : a < 11) : cM cyI ad σ a = .inl (cyI, capM a, .inl (σ.2 a)) := by simp only [cM, if_pos h]
theorem cM_O {cyI : ClassId} {ad : Nat → Nat} {σ : SM} : cM cyI ad σ 11 = .inr (6, [.int (σ.1 0), .ref (ad 0), .ref (ad 1), .int (σ.1 1), .ref (ad 2), .int (σ.1 2), .int (σ.1 3), .ref (ad 3), .ref (ad 4), .ref (ad 5), .ref (ad 6), .int (σ.1 4), .int (σ.1 5), .int (σ.1 6), .ref (ad 7), .int (σ.1 7), .ref (ad 8), .ref (ad 9), .ref (ad 10)]) := rfl
theorem oD_0 {cyI cyE : ClassId} {ad : Nat → Nat} {σ : SD} {r : Nat} {v : Int32} (j : Nat) (h : j ≠ r) : cD cyI cyE ad σ j = cD cyI cyE ad (SDi σ 0 r v) j := by
  simp [cD, SDi, u2, h]
theorem oD_e {cyI cyE : ClassId} {ad : Nat → Nat} {σ : SD} {f k : Nat} {v : Int32} (hf : 1 ≤ f ∧ f ≤ 4) (j : Nat) (h : j ≠ 52 + k) : cD cyI cyE ad σ j = cD cyI cyE ad (SDi σ f k v) j := by
  obtain ⟨h1, h2⟩ := hf
  have n0 : ¬ (0 = f) := by omega
  have n5 : ∀ x, 5 ≤ x → ¬ (x = f) := by intro x hx; omega
  by_cases a1 : j < 25
  · simp [cD, SDi, u2, a1, n0]
  by_cases a2 : j < 52
  · simp [cD, SDi, u2, a1, a2]
  by_cases a3 : j < 72
  · have hj : ¬ (j - 52 = k) := by omega
    simp [cD, SDi, u2, a1, a2, a3, hj]
  · have b5 : ¬ (5 = f) := by omega
    have b6 : ¬ (6 = f) := by omega
    have b7 : ¬ (7 = f) := by omega
    have b8 : ¬ (8 = f) := by omega
    have b9 : ¬ (9 = f) := by omega
    have b10 : ¬ (10 = f) := by omega
    have b11 : ¬ (11 = f) := by omega
    have b12 : ¬ (12 = f) := by omega
    have b13 : ¬ (13 = f) := by omega
    have b14 : ¬ (14 = f) := by omega
    simp [cD, SDi, u2, a1, a2, a3, b5, b6, b7, b8, b9, b10, b11, b12, b13, b14]
theorem oD_s {cyI cyE : ClassId} {ad : Nat → Nat} {σ : SD} {f k : Nat} {v : Int32} (hf : 5 ≤ f ∧ f ≤ 5) (j : Nat) (h : j ≠ 75) : cD cyI cyE ad σ j = cD cyI cyE ad (SDi σ f k v) j := by
  have b0 : ¬ (0 = f) := by omega
  have b1 : ¬ (1 = f) := by omega
  have b2 : ¬ (2 = f) := by omega
  have b3 : ¬ (3 = f) := by omega
  have b4 : ¬ (4 = f) := by omega
  have b6 : ¬ (6 = f) := by omega
  have b7 : ¬ (7 = f) := by omega
  have b8 : ¬ (8 = f) := by omega
  have b9 : ¬ (9 = f) := by omega
  have b10 : ¬ (10 = f) := by omega
  have b11 : ¬ (11 = f) := by omega
  have b12 : ¬ (12 = f) := by omega
  have b13 : ¬ (13 = f) := by omega
  have b14 : ¬ (14 = f) := by omega
  simp [cD, SDi, u2, h, b0, b1, b2, b3, b4, b6, b7, b8, b9, b10, b11, b12, b13, b14]
theorem oD_r {cyI cyE : ClassId} {ad : Nat → Nat} {σ : SD} {f k : Nat} {v : Int32} (hf : 6 ≤ f ∧ f ≤ 11) (j : Nat) (h : j ≠ 74) : cD cyI cyE ad σ j = cD cyI cyE ad (SDi σ f k v) j := by
  have b0 : ¬ (0 = f) := by omega
  have b1 : ¬ (1 = f) := by omega
  have b2 : ¬ (2 = f) := by omega
  have b3 : ¬ (3 = f) := by omega
  have b4 : ¬ (4 = f) := by omega
  have b5 : ¬ (5 = f) := by omega
  have b12 : ¬ (12 = f) := by omega
  have b13 : ¬ (13 = f) := by omega
  have b14 : ¬ (14 = f) := by omega
  simp [cD, SDi, u2, h, b0, b1, b2, b3, b4, b5, b12, b13, b14]
theorem oD_h {cyI cyE : ClassId} {ad : Nat → Nat} {σ : SD} {f k : Nat} {v : Int32} (hf : 12 ≤ f ∧ f ≤ 14) (j : Nat) (h : j ≠ 73) : cD cyI cyE ad σ j = cD cyI cyE ad (SDi σ f k v) j := by
  have b0 : ¬ (0 = f) := by omega
  have b1 : ¬ (1 = f) := by omega
  have b2 : ¬ (2 = f) := by omega
  have b3 : ¬ (3 = f) := by omega
  have b4 : ¬ (4 = f) := by omega
  have b5 : ¬ (5 = f) := by omega
  have b6 : ¬ (6 = f) := by omega
  have b7 : ¬ (7 = f) := by omega
  have b8 : ¬ (8 = f) := by omega
  have b9 : ¬ (9 = f) := by omega
  have b10 : ¬ (10 = f) := by omega
  have b11 : ¬ (11 = f) := by omega
  simp [cD, SDi, u2, h, b0, b1, b2, b3, b4, b5, b6, b7, b8, b9, b10, b11]
theorem oD_j {cyI cyE : ClassId} {ad : Nat → Nat} {σ : SD} {f : Nat} {v : Int64} (j : Nat) (h : j ≠ 73) : cD cyI cyE ad σ j = cD cyI cyE ad (SDj σ f v) j := by
  simp [cD, SDj, h]
theorem oD_c {cyI cyE : ClassId} {ad : Nat → Nat} {σ : SD} {a : Nat} {g : Nat → Int32} (j : Nat) (h : j ≠ 25 + a) : cD cyI cyE ad σ j = cD cyI cyE ad (SDc σ a g) j := by
  by_cases a1 : j < 25
  · simp [cD, SDc, a1]
  by_cases a2 : j < 52
  · have hj : ¬ (j - 25 = a) := by omega
    simp [cD, SDc, va_up, a1, a2, hj]
  · simp [cD, SDc, a1, a2]
theorem oD_x {cyI cyE : ClassId} {ad : Nat → Nat} {σ : SD} {k x : Nat} (j : Nat) (h : j ≠ 72) : cD cyI cyE ad σ j = cD cyI cyE ad (SDe σ k x) j := by
  simp [cD, SDe, h]
theorem oM_i {cyI : ClassId} {ad : Nat → Nat} {σ : SM} {f : Nat} {v : Int32} (j : Nat) (hj : j < 12) (h : j ≠ 11) : cM cyI ad σ j = cM cyI ad (SMi σ f v) j := by
  have : j < 11 := by omega
  simp [cM, SMi, this]
theorem oM_c {cyI : ClassId} {ad : Nat → Nat} {σ : SM} {a : Nat} {g : Nat → Int32} (j : Nat) (h : j ≠ a) : cM cyI ad σ j = cM cyI ad (SMc σ a g) j := by
  by_cases a1 : j < 11
  · simp [cM, SMc, va_up, a1, h]
  · simp [cM, SMc, a1]
