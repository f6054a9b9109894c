/-! ===== PURE: more of the desk's simple calls ===== -/
def rep : Nat → List Int32 → List Int32
  | 0, _ => []
  | n + 1, xs => rep n xs ++ xs
theorem rep_len (n : Nat) (xs : List Int32) : (rep n xs).length = n * xs.length := by
  induction n with
  | zero => simp [rep]
  | succ n ih => rw [rep, List.length_append, ih, Nat.succ_mul]
theorem rep_byte {n : Nat} {xs : List Int32} (h : ∀ x ∈ xs, byteP x) : ∀ x ∈ rep n xs, byteP x := by
  induction n with
  | zero => intro x hx; exact absurd hx List.not_mem_nil
  | succ n ih =>
    intro x hx
    rw [rep] at hx
    rcases List.mem_append.mp hx with q | q
    · exact ih x q
    · exact h x q
/-- whether end(n, t) comes to the tape -/
def endB (len : Nat) (n t : Int32) : Bool := decide (0 ≤ n.toInt ∧ n.toInt ≤ 20 ∧ 1 ≤ t.toInt ∧ t.toInt ≤ 100 ∧ (len : Int) + n.toInt * t.toInt ≤ 9000)
def blank20 : List Int32 := List.replicate 20 0
theorem blank_byte : ∀ x ∈ blank20, byteP x := fun x hx => by
  rw [blank20, List.mem_replicate] at hx
  rw [hx.2]
  exact byte_0
section DSK2
variable {pk : List Int32 → Nat} {σ : SD} {rd tp ou : List Int32} {fs : FL}
theorem d_end_l (a b : Nat) (hb : b ≤ 100) (ha : a ≤ 20) : ∀ (m j n : Nat) (σ : SD), j + m = b → m < n → RD pk σ (rd, tp ++ rep j (rd.take a), ou, fs) → tp.length + b * a ≤ 9000 → ∃ σ', f_X7_end_38 (nI a) (nI b) n σ (nI j) = some (nI (tp.length + b * a), σ') ∧ RD pk σ' (blank20, tp ++ rep b (rd.take a), ou, fs) := by
  intro m
  induction m with
  | zero =>
    intro j n σ hj hn h hc
    obtain rfl : j = b := by omega
    obtain ⟨i, rfl⟩ : ∃ i, n = i + 1 := ⟨n - 1, by omega⟩
    have hl : (rd.take a).length = a := by rw [List.length_take, h.1.1]; omega
    obtain ⟨σ1, e1, r1, x1⟩ := r_blank σ 0
    have h2 : RD pk σ1 (blank20, tp ++ rep j (rd.take a), ou, fs) := h.ready x1 r1 (by simp [blank20]) blank_byte
    refine ⟨σ1, ?_, h2⟩
    rw [f_X7_end_38, if_pos (nI_le (Nat.le_refl j) (by omega)), e1]
    simp only [Option.bind_some]
    rw [r_size h2.2.2.1, List.length_append, rep_len, hl]
    rfl
  | succ m ih =>
    intro j n σ hj hn h hc
    obtain ⟨i, rfl⟩ : ∃ i, n = i + 1 := ⟨n - 1, by omega⟩
    have hrd : rd.length = 20 := h.1.1
    have hl : (rd.take a).length = a := by rw [List.length_take, hrd]; omega
    have hj1 : (j + 1) * a ≤ b * a := Nat.mul_le_mul_right a (by omega)
    have ht : rowD σ 1 (tp ++ rep j (rd.take a)) := h.2.2.1
    have h0 : rowD σ 0 rd := h.2.1
    have hlen : (tp ++ rep j (rd.take a)).length = tp.length + j * a := by rw [List.length_append, rep_len, hl]
    have hs : (j + 1) * a = j * a + a := Nat.succ_mul j a
    obtain ⟨σ1, e1, r1, x1⟩ := r_append ht h0 (a := 0) (n := a) (by omega) (by rw [hlen]; show _ ≤ 9000; omega)
    have hbt : ∀ x ∈ tp ++ rep (j + 1) (rd.take a), byteP x := by
      intro x hx
      rcases List.mem_append.mp hx with q | q
      · exact h.1.2.2.2.2.2.1 x (List.mem_append_left _ q)
      · exact rep_byte (fun y hy => h.1.2.2.2.2.1 y (List.mem_of_mem_take hy)) x q
    have h2 : RD pk σ1 (rd, tp ++ rep (j + 1) (rd.take a), ou, fs) := h.tape x1 (by rw [rep, ← List.append_assoc]; simpa using r1) hbt
    rw [f_X7_end_38, if_neg (nI_ge (by omega) (by omega)), show (0 : Int32) = nI 0 from rfl, e1]
    simp only [Option.bind_some]
    rw [nI_1]
    exact ih (j + 1) i σ1 (by omega) (by omega) h2 hc
theorem d_end (h : RD pk σ (rd, tp, ou, fs)) (x t : Int32) : ∃ σ', f_X7_end σ x t = some (if endB tp.length x t = true then nI (tp.length + t.toInt.toNat * x.toInt.toNat) else -1, σ') ∧ RD pk σ' (if endB tp.length x t = true then (blank20, tp ++ rep t.toInt.toNat (rd.take x.toInt.toNat), ou, fs) else (rd, tp, ou, fs)) := by
  have ht : rowD σ 1 tp := h.2.2.1
  have h9 := ht.le
  have e20 : (20 : Int32).toInt = 20 := rfl
  have e1 : (1 : Int32).toInt = 1 := rfl
  have e100 : (100 : Int32).toInt = 100 := rfl
  unfold f_X7_end
  by_cases c1 : x < 0
  · have e : endB tp.length x t = false := decide_eq_false (by rw [Int32.lt_iff_toInt_lt, Int32.toInt_zero] at c1; omega)
    rw [if_pos c1, e]; exact ⟨σ, rfl, h⟩
  rw [if_neg c1]
  by_cases c2 : (20 : Int32) < x
  · have e : endB tp.length x t = false := decide_eq_false (by rw [Int32.lt_iff_toInt_lt] at c2; omega)
    rw [if_pos c2, e]; exact ⟨σ, rfl, h⟩
  rw [if_neg c2]
  by_cases c3 : t < 1
  · have e : endB tp.length x t = false := decide_eq_false (by rw [Int32.lt_iff_toInt_lt] at c3; omega)
    rw [if_pos c3, e]; exact ⟨σ, rfl, h⟩
  rw [if_neg c3]
  by_cases c4 : (100 : Int32) < t
  · have e : endB tp.length x t = false := decide_eq_false (by rw [Int32.lt_iff_toInt_lt] at c4; omega)
    rw [if_pos c4, e]; exact ⟨σ, rfl, h⟩
  rw [if_neg c4]
  obtain ⟨a, ha, rfl⟩ := nI_of c1
  obtain ⟨b, hb, rfl⟩ : ∃ b : Nat, b < 2 ^ 31 ∧ t = nI b := nI_of (fun q => c3 (by rw [Int32.lt_iff_toInt_lt] at q ⊢; rw [Int32.toInt_zero] at q; omega))
  rw [Int32.lt_iff_toInt_lt, nI_toInt ha] at c2
  rw [Int32.lt_iff_toInt_lt, nI_toInt hb] at c3 c4
  have ha20 : a ≤ 20 := by omega
  have hb100 : b ≤ 100 := by omega
  have hab : a * b ≤ 2000 := Nat.mul_le_mul ha20 hb100
  rw [r_room ht]
  simp only [Option.bind_some]
  rw [pk_mul, nI_toInt ha, nI_toInt hb, Int.toNat_natCast, Int.toNat_natCast]
  have hcap : capD 1 = 9000 := rfl
  rw [hcap]
  by_cases c5 : a * b ≤ 9000 - tp.length
  · have e : endB tp.length (nI a) (nI b) = true := decide_eq_true (by rw [nI_toInt ha, nI_toInt hb]; refine ⟨by omega, by omega, by omega, by omega, ?_⟩; rw [← Int.natCast_mul]; omega)
    rw [if_pos ((nI_leI (by omega) (by omega)).mpr c5), if_pos e, if_pos e]
    exact d_end_l a b hb100 ha20 b 0 fu σ (by omega) (by unfold fu; omega) (by simpa [rep] using h) (by rw [Nat.mul_comm b a]; omega)
  · have e : endB tp.length (nI a) (nI b) = false := decide_eq_false (by rw [nI_toInt ha, nI_toInt hb, ← Int.natCast_mul]; omega)
    rw [if_neg (fun q => c5 ((nI_leI (by omega) (by omega)).mp q)), e]
    exact ⟨σ, rfl, h⟩
theorem xor_byte {x : Int32} (hx : byteP x) {b : Nat} (hb : b ≤ 7) : byteP (x ^^^ (1 <<< (nI b &&& 31))) := by
  obtain ⟨a, ha, rfl⟩ := hx
  have key : ∀ b, b < 8 → (1 : Int32) <<< (nI b &&& 31) = nI (2 ^ b) := by decide +kernel
  rw [key b (by omega), nx_xor]
  exact ⟨_, Nat.xor_lt_two_pow (n := 8) ha (Nat.pow_lt_pow_right (by decide) (by omega)), rfl⟩
/-- whether there is bit x of byte i -/
def flipB (len : Nat) (i x : Int32) : Bool := decide (0 ≤ i.toInt ∧ i.toInt < len ∧ 0 ≤ x.toInt ∧ x.toInt ≤ 7)
theorem d_flip (h : RD pk σ (rd, tp, ou, fs)) (i x : Int32) : ∃ σ', f_X7_flip σ i x = some (b2i (flipB tp.length i x), σ') ∧ RD pk σ' (rd, if flipB tp.length i x = true then tp.set i.toInt.toNat (tp.getD i.toInt.toNat 0 ^^^ (1 <<< (x &&& 31))) else tp, ou, fs) := by
  have ht : rowD σ 1 tp := h.2.2.1
  have h9 := ht.le
  have hby : ∀ x ∈ tp, byteP x := h.1.2.2.2.2.2.1
  have e7 : (7 : Int32).toInt = 7 := rfl
  unfold f_X7_flip
  by_cases c : flipB tp.length i x = true
  · have c2 := of_decide_eq_true c
    obtain ⟨j, hj, rfl⟩ := nI_of (x := i) (by rw [Int32.lt_iff_toInt_lt, Int32.toInt_zero]; omega)
    obtain ⟨b, hb, rfl⟩ := nI_of (x := x) (by rw [Int32.lt_iff_toInt_lt, Int32.toInt_zero]; omega)
    rw [nI_toInt hj, nI_toInt hb] at c2
    obtain ⟨σ1, e1, r1, x1⟩ := r_turn ht (a := j) (x := nI b) (by omega) (nI_pos hb) (by rw [Int32.le_iff_toInt_le, nI_toInt hb]; omega)
    refine ⟨σ1, by rw [e1, c]; rfl, ?_⟩
    rw [if_pos c, nI_toInt hj, Int.toNat_natCast]
    refine h.tape x1 r1 (fun y hy => ?_)
    rcases List.mem_or_eq_of_mem_set hy with q | q
    · exact hby y q
    · rw [q]
      obtain ⟨g1, g2⟩ := bN_of (i := j) hby
      exact xor_byte ⟨_, g1, g2⟩ (by omega)
  · have c' : flipB tp.length i x = false := by simpa using c
    refine ⟨σ, ?_, by rw [c']; exact h⟩
    rw [r_turnF ht, c']
    · rfl
    · have c3 := of_decide_eq_false c'
      rw [Int32.lt_iff_toInt_lt, Int32.le_iff_toInt_le, Int32.lt_iff_toInt_lt, Int32.le_iff_toInt_le, Int32.toInt_zero, nI_toInt (by omega)]
      omega
end DSK2
