/-! ===== PURE: the CRC, four bits at once and one by one ===== -/
def crP : Nat := 3988292384
def bsN (n : Nat) : Nat := if n % 2 = 1 then n / 2 ^^^ crP else n / 2
theorem bsN_xor (a b : Nat) : bsN (a ^^^ b) = bsN a ^^^ bsN b := by
  unfold bsN
  have hx : (a ^^^ b) % 2 = 1 ↔ ¬ ((a % 2 = 1) ↔ (b % 2 = 1)) := Nat.xor_mod_two_eq_one
  rw [Nat.xor_div_two]
  have ha : a % 2 = 0 ∨ a % 2 = 1 := by omega
  have hb : b % 2 = 0 ∨ b % 2 = 1 := by omega
  rcases ha with ha | ha <;> rcases hb with hb | hb
  · rw [if_neg (by omega), if_neg (by omega), if_neg (by omega)]
  · rw [if_pos (by omega), if_neg (by omega), if_pos (by omega), Nat.xor_assoc]
  · rw [if_pos (by omega), if_pos (by omega), if_neg (by omega), Nat.xor_assoc, Nat.xor_assoc, Nat.xor_comm crP]
  · rw [if_neg (by omega), if_pos (by omega), if_pos (by omega), Nat.xor_assoc, ← Nat.xor_assoc crP, Nat.xor_comm crP, Nat.xor_assoc, Nat.xor_self, Nat.xor_zero]
theorem bsN_e {n m : Nat} (h : n = 2 * m) : bsN n = m := by
  unfold bsN
  rw [if_neg (by omega)]
  omega
theorem bsN_o {n m : Nat} (h : n = 2 * m + 1) : bsN n = m ^^^ crP := by
  unfold bsN
  rw [if_pos (by omega), show n / 2 = m by omega]

def crT (r : Nat) : Nat := ([0, 498536548, 997073096, 651767980, 1994146192, 1802195444, 1303535960, 1342533948, 3988292384, 4027552580, 3604390888, 3412177804, 2607071920, 2262029012, 2685067896, 3183342108] : List Nat).getD r 0
theorem bs4_0 (q : Nat) : bsN (bsN (bsN (bsN (16 * q + 0)))) = q ^^^ 0 := by
  rw [bsN_e (show 16 * q + 0 = 2 * (8 * q + 0) by omega), bsN_e (show 8 * q + 0 = 2 * (4 * q + 0) by omega), bsN_e (show 4 * q + 0 = 2 * (2 * q + 0) by omega), bsN_e (show 2 * q + 0 = 2 * (1 * q + 0) by omega), Nat.one_mul, Nat.add_zero, Nat.xor_zero]
theorem bs4_1 (q : Nat) : bsN (bsN (bsN (bsN (16 * q + 1)))) = q ^^^ 498536548 := by
  rw [bsN_o (show 16 * q + 1 = 2 * (8 * q + 0) + 1 by omega), show crP = 3988292384 from rfl, bsN_xor, bsN_e (show 8 * q + 0 = 2 * (4 * q + 0) by omega), show bsN 3988292384 = 1994146192 from by decide, bsN_xor, bsN_e (show 4 * q + 0 = 2 * (2 * q + 0) by omega), show bsN 1994146192 = 997073096 from by decide, bsN_xor, bsN_e (show 2 * q + 0 = 2 * (1 * q + 0) by omega), show bsN 997073096 = 498536548 from by decide, Nat.one_mul, Nat.add_zero]
theorem bs4_2 (q : Nat) : bsN (bsN (bsN (bsN (16 * q + 2)))) = q ^^^ 997073096 := by
  rw [bsN_e (show 16 * q + 2 = 2 * (8 * q + 1) by omega), bsN_o (show 8 * q + 1 = 2 * (4 * q + 0) + 1 by omega), show crP = 3988292384 from rfl, bsN_xor, bsN_e (show 4 * q + 0 = 2 * (2 * q + 0) by omega), show bsN 3988292384 = 1994146192 from by decide, bsN_xor, bsN_e (show 2 * q + 0 = 2 * (1 * q + 0) by omega), show bsN 1994146192 = 997073096 from by decide, Nat.one_mul, Nat.add_zero]
theorem bs4_3 (q : Nat) : bsN (bsN (bsN (bsN (16 * q + 3)))) = q ^^^ 651767980 := by
  rw [bsN_o (show 16 * q + 3 = 2 * (8 * q + 1) + 1 by omega), show crP = 3988292384 from rfl, bsN_xor, bsN_o (show 8 * q + 1 = 2 * (4 * q + 0) + 1 by omega), show bsN 3988292384 = 1994146192 from by decide, Nat.xor_assoc, show crP ^^^ 1994146192 = 2607071920 from by decide, bsN_xor, bsN_e (show 4 * q + 0 = 2 * (2 * q + 0) by omega), show bsN 2607071920 = 1303535960 from by decide, bsN_xor, bsN_e (show 2 * q + 0 = 2 * (1 * q + 0) by omega), show bsN 1303535960 = 651767980 from by decide, Nat.one_mul, Nat.add_zero]
theorem bs4_4 (q : Nat) : bsN (bsN (bsN (bsN (16 * q + 4)))) = q ^^^ 1994146192 := by
  rw [bsN_e (show 16 * q + 4 = 2 * (8 * q + 2) by omega), bsN_e (show 8 * q + 2 = 2 * (4 * q + 1) by omega), bsN_o (show 4 * q + 1 = 2 * (2 * q + 0) + 1 by omega), show crP = 3988292384 from rfl, bsN_xor, bsN_e (show 2 * q + 0 = 2 * (1 * q + 0) by omega), show bsN 3988292384 = 1994146192 from by decide, Nat.one_mul, Nat.add_zero]
theorem bs4_5 (q : Nat) : bsN (bsN (bsN (bsN (16 * q + 5)))) = q ^^^ 1802195444 := by
  rw [bsN_o (show 16 * q + 5 = 2 * (8 * q + 2) + 1 by omega), show crP = 3988292384 from rfl, bsN_xor, bsN_e (show 8 * q + 2 = 2 * (4 * q + 1) by omega), show bsN 3988292384 = 1994146192 from by decide, bsN_xor, bsN_o (show 4 * q + 1 = 2 * (2 * q + 0) + 1 by omega), show bsN 1994146192 = 997073096 from by decide, Nat.xor_assoc, show crP ^^^ 997073096 = 3604390888 from by decide, bsN_xor, bsN_e (show 2 * q + 0 = 2 * (1 * q + 0) by omega), show bsN 3604390888 = 1802195444 from by decide, Nat.one_mul, Nat.add_zero]
theorem bs4_6 (q : Nat) : bsN (bsN (bsN (bsN (16 * q + 6)))) = q ^^^ 1303535960 := by
  rw [bsN_e (show 16 * q + 6 = 2 * (8 * q + 3) by omega), bsN_o (show 8 * q + 3 = 2 * (4 * q + 1) + 1 by omega), show crP = 3988292384 from rfl, bsN_xor, bsN_o (show 4 * q + 1 = 2 * (2 * q + 0) + 1 by omega), show bsN 3988292384 = 1994146192 from by decide, Nat.xor_assoc, show crP ^^^ 1994146192 = 2607071920 from by decide, bsN_xor, bsN_e (show 2 * q + 0 = 2 * (1 * q + 0) by omega), show bsN 2607071920 = 1303535960 from by decide, Nat.one_mul, Nat.add_zero]
theorem bs4_7 (q : Nat) : bsN (bsN (bsN (bsN (16 * q + 7)))) = q ^^^ 1342533948 := by
  rw [bsN_o (show 16 * q + 7 = 2 * (8 * q + 3) + 1 by omega), show crP = 3988292384 from rfl, bsN_xor, bsN_o (show 8 * q + 3 = 2 * (4 * q + 1) + 1 by omega), show bsN 3988292384 = 1994146192 from by decide, Nat.xor_assoc, show crP ^^^ 1994146192 = 2607071920 from by decide, bsN_xor, bsN_o (show 4 * q + 1 = 2 * (2 * q + 0) + 1 by omega), show bsN 2607071920 = 1303535960 from by decide, Nat.xor_assoc, show crP ^^^ 1303535960 = 2685067896 from by decide, bsN_xor, bsN_e (show 2 * q + 0 = 2 * (1 * q + 0) by omega), show bsN 2685067896 = 1342533948 from by decide, Nat.one_mul, Nat.add_zero]
theorem bs4_8 (q : Nat) : bsN (bsN (bsN (bsN (16 * q + 8)))) = q ^^^ 3988292384 := by
  rw [bsN_e (show 16 * q + 8 = 2 * (8 * q + 4) by omega), bsN_e (show 8 * q + 4 = 2 * (4 * q + 2) by omega), bsN_e (show 4 * q + 2 = 2 * (2 * q + 1) by omega), bsN_o (show 2 * q + 1 = 2 * (1 * q + 0) + 1 by omega), show crP = 3988292384 from rfl, Nat.one_mul, Nat.add_zero]
theorem bs4_9 (q : Nat) : bsN (bsN (bsN (bsN (16 * q + 9)))) = q ^^^ 4027552580 := by
  rw [bsN_o (show 16 * q + 9 = 2 * (8 * q + 4) + 1 by omega), show crP = 3988292384 from rfl, bsN_xor, bsN_e (show 8 * q + 4 = 2 * (4 * q + 2) by omega), show bsN 3988292384 = 1994146192 from by decide, bsN_xor, bsN_e (show 4 * q + 2 = 2 * (2 * q + 1) by omega), show bsN 1994146192 = 997073096 from by decide, bsN_xor, bsN_o (show 2 * q + 1 = 2 * (1 * q + 0) + 1 by omega), show bsN 997073096 = 498536548 from by decide, Nat.xor_assoc, show crP ^^^ 498536548 = 4027552580 from by decide, Nat.one_mul, Nat.add_zero]
theorem bs4_10 (q : Nat) : bsN (bsN (bsN (bsN (16 * q + 10)))) = q ^^^ 3604390888 := by
  rw [bsN_e (show 16 * q + 10 = 2 * (8 * q + 5) by omega), bsN_o (show 8 * q + 5 = 2 * (4 * q + 2) + 1 by omega), show crP = 3988292384 from rfl, bsN_xor, bsN_e (show 4 * q + 2 = 2 * (2 * q + 1) by omega), show bsN 3988292384 = 1994146192 from by decide, bsN_xor, bsN_o (show 2 * q + 1 = 2 * (1 * q + 0) + 1 by omega), show bsN 1994146192 = 997073096 from by decide, Nat.xor_assoc, show crP ^^^ 997073096 = 3604390888 from by decide, Nat.one_mul, Nat.add_zero]
theorem bs4_11 (q : Nat) : bsN (bsN (bsN (bsN (16 * q + 11)))) = q ^^^ 3412177804 := by
  rw [bsN_o (show 16 * q + 11 = 2 * (8 * q + 5) + 1 by omega), show crP = 3988292384 from rfl, bsN_xor, bsN_o (show 8 * q + 5 = 2 * (4 * q + 2) + 1 by omega), show bsN 3988292384 = 1994146192 from by decide, Nat.xor_assoc, show crP ^^^ 1994146192 = 2607071920 from by decide, bsN_xor, bsN_e (show 4 * q + 2 = 2 * (2 * q + 1) by omega), show bsN 2607071920 = 1303535960 from by decide, bsN_xor, bsN_o (show 2 * q + 1 = 2 * (1 * q + 0) + 1 by omega), show bsN 1303535960 = 651767980 from by decide, Nat.xor_assoc, show crP ^^^ 651767980 = 3412177804 from by decide, Nat.one_mul, Nat.add_zero]
theorem bs4_12 (q : Nat) : bsN (bsN (bsN (bsN (16 * q + 12)))) = q ^^^ 2607071920 := by
  rw [bsN_e (show 16 * q + 12 = 2 * (8 * q + 6) by omega), bsN_e (show 8 * q + 6 = 2 * (4 * q + 3) by omega), bsN_o (show 4 * q + 3 = 2 * (2 * q + 1) + 1 by omega), show crP = 3988292384 from rfl, bsN_xor, bsN_o (show 2 * q + 1 = 2 * (1 * q + 0) + 1 by omega), show bsN 3988292384 = 1994146192 from by decide, Nat.xor_assoc, show crP ^^^ 1994146192 = 2607071920 from by decide, Nat.one_mul, Nat.add_zero]
theorem bs4_13 (q : Nat) : bsN (bsN (bsN (bsN (16 * q + 13)))) = q ^^^ 2262029012 := by
  rw [bsN_o (show 16 * q + 13 = 2 * (8 * q + 6) + 1 by omega), show crP = 3988292384 from rfl, bsN_xor, bsN_e (show 8 * q + 6 = 2 * (4 * q + 3) by omega), show bsN 3988292384 = 1994146192 from by decide, bsN_xor, bsN_o (show 4 * q + 3 = 2 * (2 * q + 1) + 1 by omega), show bsN 1994146192 = 997073096 from by decide, Nat.xor_assoc, show crP ^^^ 997073096 = 3604390888 from by decide, bsN_xor, bsN_o (show 2 * q + 1 = 2 * (1 * q + 0) + 1 by omega), show bsN 3604390888 = 1802195444 from by decide, Nat.xor_assoc, show crP ^^^ 1802195444 = 2262029012 from by decide, Nat.one_mul, Nat.add_zero]
theorem bs4_14 (q : Nat) : bsN (bsN (bsN (bsN (16 * q + 14)))) = q ^^^ 2685067896 := by
  rw [bsN_e (show 16 * q + 14 = 2 * (8 * q + 7) by omega), bsN_o (show 8 * q + 7 = 2 * (4 * q + 3) + 1 by omega), show crP = 3988292384 from rfl, bsN_xor, bsN_o (show 4 * q + 3 = 2 * (2 * q + 1) + 1 by omega), show bsN 3988292384 = 1994146192 from by decide, Nat.xor_assoc, show crP ^^^ 1994146192 = 2607071920 from by decide, bsN_xor, bsN_o (show 2 * q + 1 = 2 * (1 * q + 0) + 1 by omega), show bsN 2607071920 = 1303535960 from by decide, Nat.xor_assoc, show crP ^^^ 1303535960 = 2685067896 from by decide, Nat.one_mul, Nat.add_zero]
theorem bs4_15 (q : Nat) : bsN (bsN (bsN (bsN (16 * q + 15)))) = q ^^^ 3183342108 := by
  rw [bsN_o (show 16 * q + 15 = 2 * (8 * q + 7) + 1 by omega), show crP = 3988292384 from rfl, bsN_xor, bsN_o (show 8 * q + 7 = 2 * (4 * q + 3) + 1 by omega), show bsN 3988292384 = 1994146192 from by decide, Nat.xor_assoc, show crP ^^^ 1994146192 = 2607071920 from by decide, bsN_xor, bsN_o (show 4 * q + 3 = 2 * (2 * q + 1) + 1 by omega), show bsN 2607071920 = 1303535960 from by decide, Nat.xor_assoc, show crP ^^^ 1303535960 = 2685067896 from by decide, bsN_xor, bsN_o (show 2 * q + 1 = 2 * (1 * q + 0) + 1 by omega), show bsN 2685067896 = 1342533948 from by decide, Nat.xor_assoc, show crP ^^^ 1342533948 = 3183342108 from by decide, Nat.one_mul, Nat.add_zero]
theorem bs4 (n : Nat) : bsN (bsN (bsN (bsN n))) = n / 16 ^^^ crT (n % 16) := by
  have e : n = 16 * (n / 16) + n % 16 := by omega
  have hr : n % 16 < 16 := Nat.mod_lt _ (by decide)
  generalize n / 16 = q at e ⊢
  generalize n % 16 = r at e hr ⊢
  subst e
  rcases (show r = 0 ∨ r = 1 ∨ r = 2 ∨ r = 3 ∨ r = 4 ∨ r = 5 ∨ r = 6 ∨ r = 7 ∨ r = 8 ∨ r = 9 ∨ r = 10 ∨ r = 11 ∨ r = 12 ∨ r = 13 ∨ r = 14 ∨ r = 15 by omega) with rfl | rfl | rfl | rfl | rfl | rfl | rfl | rfl | rfl | rfl | rfl | rfl | rfl | rfl | rfl | rfl
  · exact bs4_0 q
  · exact bs4_1 q
  · exact bs4_2 q
  · exact bs4_3 q
  · exact bs4_4 q
  · exact bs4_5 q
  · exact bs4_6 q
  · exact bs4_7 q
  · exact bs4_8 q
  · exact bs4_9 q
  · exact bs4_10 q
  · exact bs4_11 q
  · exact bs4_12 q
  · exact bs4_13 q
  · exact bs4_14 q
  · exact bs4_15 q
def bstp (x : Int32) : Int32 := if (x &&& 1) = 1 then ush x 1 ^^^ (-306674912) else ush x 1
theorem bsN_lt {n : Nat} (h : n < 2 ^ 32) : bsN n < 2 ^ 32 := by
  unfold bsN
  by_cases c : n % 2 = 1
  · rw [if_pos c]; exact Nat.xor_lt_two_pow (by omega) (by decide)
  · rw [if_neg c]; omega
theorem ush_n {n k : Nat} (h : n < 2 ^ 32) (hk : k < 32) : ush (nI n) k = nI (n / 2 ^ k) := pk_ushrN h (nI k) k (s_u k hk)
theorem bstp_n {n : Nat} (h : n < 2 ^ 32) : bstp (nI n) = nI (bsN n) := by
  unfold bstp bsN
  have e1 : nI n &&& 1 = nI (n % 2) := pk_andN (k := 1) h (by decide +kernel)
  rw [e1, ush_n h (by decide)]
  by_cases c : n % 2 = 1
  · rw [if_pos c, if_pos (by rw [c]; rfl), show (-306674912 : Int32) = nI crP by decide +kernel, nx_xor]
  · have c0 : n % 2 = 0 := by omega
    rw [if_neg c, if_neg (by rw [c0]; decide)]
theorem crT_n : ∀ r, r < 16 → ax_crc r = nI (crT r) := by decide +kernel
theorem nib_n {n : Nat} (h : n < 2 ^ 32) : nib (nI n) = nI (n / 16 ^^^ crT (n % 16)) := by
  unfold nib
  have e1 : nI n &&& 15 = nI (n % 16) := pk_andN (k := 4) h (by decide +kernel)
  have hr : n % 16 < 16 := Nat.mod_lt _ (by decide)
  rw [e1, nI_clamp (by omega), crT_n _ hr, ush_n h (by decide), nx_xor]
theorem nib_b (x : Int32) : nib x = bstp (bstp (bstp (bstp x))) := by
  obtain ⟨n, hn, rfl⟩ := wb_of32 x
  have h1 := bsN_lt hn
  have h2 := bsN_lt h1
  have h3 := bsN_lt h2
  rw [bstp_n hn, bstp_n h1, bstp_n h2, bstp_n h3, bs4, nib_n hn]
def itB : Nat → Int32 → Int32
  | 0, x => x
  | m + 1, x => itB m (bstp x)
theorem crcB_it (c x : Int32) : crcB c x = itB 8 (c ^^^ x) := by
  unfold crcB
  rw [nib_b, nib_b]
  rfl
theorem m_crc_32 (x1 : Int32) (k4 : SM → Int32 → Int32 → Option (Int32 × SM)) (τ : SM) (x3 : Int32) : ∀ (m j n : Nat) (x : Int32), j + m = 8 → m < n → f_X8_crc_32 x1 k4 n τ x x3 (nI j) = k4 τ (itB m x) (x3 + 1) := by
  intro m
  induction m with
  | zero =>
    intro j n x hj hn
    obtain ⟨i, rfl⟩ : ∃ i, n = i + 1 := ⟨n - 1, by omega⟩
    rw [f_X8_crc_32, if_pos (show (8 : Int32) ≤ nI j from nI_le (a := 8) (by omega) (by omega))]
    rfl
  | succ m ih =>
    intro j n x hj hn
    obtain ⟨i, rfl⟩ : ∃ i, n = i + 1 := ⟨n - 1, by omega⟩
    rw [f_X8_crc_32, if_neg (show ¬ (8 : Int32) ≤ nI j from nI_ge (b := 8) (by omega) (by decide))]
    unfold f_X8_crc_58
    rw [nI_1, ih (j + 1) i _ (by omega) (by omega), ih (j + 1) i _ (by omega) (by omega), itB]
    unfold bstp
    by_cases c : x &&& 1 = 1
    · rw [if_pos c, if_pos c]
      rfl
    · rw [if_neg c, if_neg c]
      rfl
theorem m_crc_l {τ : SM} {k : Nat} (hk : k ≤ 20) {b : List Int32} (hb : b.length ≤ 1500) (h6 : τ.2 6 k = nI b.length) (h5 : ∀ i, i < b.length → τ.2 5 (1500 * k + i) = b.getD i 0) : ∀ (m j n : Nat) (c : Int32), j + m = b.length → m < n → f_X8_crc_4 (nI k) n τ c (nI j) = some ((b.drop j).foldl crcB c ^^^ (-1), τ) := by
  have C := cms
  intro m
  induction m with
  | zero =>
    intro j n c hj hn
    obtain ⟨i, rfl⟩ : ∃ i, n = i + 1 := ⟨n - 1, by omega⟩
    rw [f_X8_crc_4, if_pos (inb_t (by omega) (by omega)), nI_clamp (by omega), h6, if_pos (nI_le (by omega) (by omega)), List.drop_of_length_le (by omega)]
    rfl
  | succ m ih =>
    intro j n c hj hn
    obtain ⟨i, rfl⟩ : ∃ i, n = i + 1 := ⟨n - 1, by omega⟩
    have hd : b.drop j = b.getD j 0 :: b.drop (j + 1) := by
      rw [List.drop_eq_getElem_cons (by omega), List.getD_eq_getElem?_getD, List.getElem?_eq_getElem (by omega)]
      rfl
    rw [f_X8_crc_4, if_pos (inb_t (by omega) (by omega)), nI_clamp (by omega), h6, if_neg (nI_ge (by omega) (by omega)), k1500, if_pos (inb_t (by omega) (by omega)), nI_clamp (by omega), h5 j (by omega), show (0 : Int32) = nI 0 from rfl, m_crc_32 _ _ _ _ 8 0 fu _ (by omega) (by unfold fu; omega), nI_1, ih (j + 1) i _ (by omega) (by omega), hd, List.foldl_cons, crcB_it]
    rfl
theorem m_crc {τ : SM} {k : Nat} (hk : k ≤ 20) {f : List Int32 × List Int32} (hs : fSz f) (hf : flM τ k f) : f_X8_crc τ (nI k) = some (crcS f.2, τ) := by
  have h2 := hs.2
  unfold f_X8_crc crcS
  exact m_crc_l hk hs.2 hf.2.2.1 hf.2.2.2 f.2.length 0 fu (-1) (by omega) (by unfold fu; omega)
