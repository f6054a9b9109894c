/-! ===== PURE: the reference: end, drop, take ===== -/
theorem m_end_in {a : Nat} (ha : a ≤ 20) (x2 x3 : Int32) (kk : SM → Int32 → Option (Int32 × SM)) {p : Nat} (hp : p + a ≤ 9000) : ∀ (m j n : Nat) (τ : SM), j + m = a → m < n → τ.1 1 = nI p → f_X8_end_52 (nI a) x2 kk n τ x3 (nI j) = kk (SMi (SMc τ 1 (va_cpy (τ.2 0) (τ.2 1) j (p + j) m)) 1 (nI (p + a))) (x3 + 1) := by
  intro m
  have C := cms
  induction m with
  | zero =>
    intro j n τ hj hn h1
    obtain ⟨k, rfl⟩ : ∃ k, n = k + 1 := ⟨n - 1, by omega⟩
    rw [f_X8_end_52, if_pos (nI_le (by omega) (by omega)), cpy_0, SMc_id, h1, nI_add]
  | succ m ih =>
    intro j n τ hj hn h1
    obtain ⟨k, rfl⟩ : ∃ k, n = k + 1 := ⟨n - 1, by omega⟩
    rw [f_X8_end_52, if_neg (nI_ge (by omega) (by omega)), if_pos (inb_t (by omega) (by omega)), h1, nI_add, if_pos (inb_t (by omega) (by omega)), nI_clamp (by omega), nI_clamp (by omega), nI_1, ih (j + 1) k (SMc τ 1 (upd (τ.2 1) (p + j) (τ.2 0 j))) (by omega) (by omega) h1, SMc_c, SMc_g, SMc_n (by decide), ← Nat.add_assoc, cpy_step]
theorem m_end_z (x1 x2 : Int32) : ∀ (m j n : Nat) (τ : SM), j + m = 20 → m < n → (∀ i, i < j → τ.2 0 i = 0) → ∃ g, f_X8_end_101 x1 x2 n τ (nI j) = some (τ.1 1, SMc τ 0 g) ∧ ∀ i, i < 20 → g i = 0 := by
  intro m
  have C := cms
  induction m with
  | zero =>
    intro j n τ hj hn h0
    obtain ⟨k, rfl⟩ : ∃ k, n = k + 1 := ⟨n - 1, by omega⟩
    refine ⟨τ.2 0, ?_, fun i hi => h0 i (by omega)⟩
    rw [f_X8_end_101, show (20 : Int32) = nI 20 from rfl, if_pos (nI_le (by omega) (by omega)), SMc_id]
  | succ m ih =>
    intro j n τ hj hn h0
    obtain ⟨k, rfl⟩ : ∃ k, n = k + 1 := ⟨n - 1, by omega⟩
    obtain ⟨g, e1, e2⟩ := ih (j + 1) k (SMc τ 0 (upd (τ.2 0) j 0)) (by omega) (by omega) (fun i hi => by
      rw [SMc_g]
      by_cases c : i = j
      · subst c; exact pk_us
      · rw [pk_un c]; exact h0 i (by omega))
    refine ⟨g, ?_, e2⟩
    rw [SMc_c] at e1
    rw [f_X8_end_101, show (20 : Int32) = nI 20 from rfl, if_neg (nI_ge (by omega) (by omega)), if_pos (inb_t (by omega) (by omega)), nI_clamp (by omega), nI_1, e1]
    rfl
section MR2
variable {τ : SM} {rd tp ou : List Int32} {fs : FL}
theorem m_end_l (a b : Nat) (hb : b ≤ 100) (ha : a ≤ 20) : ∀ (m j n : Nat) (τ : SM), j + m = b → m < n → RM τ (rd, tp ++ rep j (rd.take a), ou, fs) → tp.length + b * a ≤ 9000 → ∃ τ', f_X8_end_44 (nI a) (nI b) n τ (nI j) = some (nI (tp.length + b * a), τ') ∧ RM τ' (blank20, tp ++ rep b (rd.take a), ou, fs) := by
  intro m
  induction m with
  | zero =>
    intro j n τ hj hn h hc
    obtain rfl : j = b := by omega
    obtain ⟨i, rfl⟩ : ∃ i, n = i + 1 := ⟨n - 1, by omega⟩
    have hl : (rd.take a).length = a := by rw [List.length_take, h.1.1]; omega
    obtain ⟨g, e1, e2⟩ := m_end_z (nI a) (nI j) 20 0 fu τ (by omega) (by unfold fu; omega) (fun i hi => absurd hi (by omega))
    refine ⟨SMc τ 0 g, ?_, h.ready (by simp [blank20]) (fun i hi => ?_) blank_byte rfl rfl rfl (fun a ha => SMc_n ha)⟩
    · rw [f_X8_end_44, if_pos (nI_le (Nat.le_refl j) (by omega)), show (0 : Int32) = nI 0 from rfl, e1, h.n1, List.length_append, rep_len, hl]
    · rw [SMc_g, e2 i hi]
      unfold blank20
      rw [List.getD_eq_getElem?_getD, List.getElem?_replicate, if_pos hi]
      rfl
  | succ m ih =>
    intro j n τ hj hn h hc
    obtain ⟨i, rfl⟩ : ∃ i, n = i + 1 := ⟨n - 1, by omega⟩
    have hrd : rd.length = 20 := h.1.1
    have hl : (rd.take a).length = a := by rw [List.length_take, hrd]; omega
    have hj1 : (j + 1) * a ≤ b * a := Nat.mul_le_mul_right a (by omega)
    have hs : (j + 1) * a = j * a + a := Nat.succ_mul j a
    have hlen : (tp ++ rep j (rd.take a)).length = tp.length + j * a := by rw [List.length_append, rep_len, hl]
    have hlen2 : (tp ++ rep (j + 1) (rd.take a)).length = tp.length + j * a + a := by rw [List.length_append, rep_len, hl, hs, Nat.add_assoc]
    have hbt : ∀ x ∈ tp ++ rep (j + 1) (rd.take a), byteP x := by
      intro x hx
      rcases List.mem_append.mp hx with q | q
      · exact h.b1 x (List.mem_append_left _ q)
      · exact rep_byte (fun y hy => h.1.2.2.2.2.1 y (List.mem_of_mem_take hy)) x q
    have hn1 : τ.1 1 = nI (tp.length + j * a) := by rw [h.n1, hlen]
    rw [f_X8_end_44, if_neg (nI_ge (by omega) (by omega)), show (0 : Int32) = nI 0 from rfl, m_end_in ha _ _ _ (p := tp.length + j * a) (by omega) a 0 fu τ (by omega) (by unfold fu; omega) hn1, nI_1]
    refine ih (j + 1) i _ (by omega) (by omega) (h.tape (by rw [SMi_g, hlen2]) (by omega) (fun k hk => ?_) hbt rfl rfl (fun a ha => SMc_n ha)) hc
    rw [hlen2] at hk
    rw [SMi_a, SMc_g, rep, ← List.append_assoc, getD_app, hlen]
    by_cases c : k < tp.length + j * a
    · rw [if_pos c, pk_cpy_out (Or.inl (by omega)), h.a1 (by omega)]
    · rw [if_neg c, pk_cpy_in (by omega) (by omega), h.a0 (by omega)]
      simp only [List.getD_eq_getElem?_getD, List.getElem?_take, Nat.add_zero, Nat.zero_add]
      rw [if_pos (by omega)]
theorem m_end (h : RM τ (rd, tp, ou, fs)) (x t : Int32) : ∃ τ', f_X8_end τ x t = some (if endB tp.length x t = true then nI (tp.length + t.toInt.toNat * x.toInt.toNat) else -1, τ') ∧ RM τ' (if endB tp.length x t = true then (blank20, tp ++ rep t.toInt.toNat (rd.take x.toInt.toNat), ou, fs) else (rd, tp, ou, fs)) := by
  have h9 := h.l1
  have e20 : (20 : Int32).toInt = 20 := rfl
  have e1 : (1 : Int32).toInt = 1 := rfl
  have e100 : (100 : Int32).toInt = 100 := rfl
  unfold f_X8_end
  rw [show (SMi τ 0 0).1 1 = nI tp.length from h.n1]
  by_cases c1 : x < 0
  · have e : endB tp.length x t = false := decide_eq_false (by rw [Int32.lt_iff_toInt_lt, Int32.toInt_zero] at c1; omega)
    rw [if_pos c1, e]; exact ⟨_, rfl, h.th⟩
  rw [if_neg c1]
  by_cases c2 : (20 : Int32) < x
  · have e : endB tp.length x t = false := decide_eq_false (by rw [Int32.lt_iff_toInt_lt] at c2; omega)
    rw [if_pos c2, e]; exact ⟨_, rfl, h.th⟩
  rw [if_neg c2]
  by_cases c3 : t < 1
  · have e : endB tp.length x t = false := decide_eq_false (by rw [Int32.lt_iff_toInt_lt] at c3; omega)
    rw [if_pos c3, e]; exact ⟨_, rfl, h.th⟩
  rw [if_neg c3]
  by_cases c4 : (100 : Int32) < t
  · have e : endB tp.length x t = false := decide_eq_false (by rw [Int32.lt_iff_toInt_lt] at c4; omega)
    rw [if_pos c4, e]; exact ⟨_, rfl, h.th⟩
  rw [if_neg c4]
  obtain ⟨a, ha, rfl⟩ := nI_of c1
  obtain ⟨b, hb, rfl⟩ : ∃ b : Nat, b < 2 ^ 31 ∧ t = nI b := nI_of (fun q => c3 (by rw [Int32.lt_iff_toInt_lt] at q ⊢; rw [Int32.toInt_zero] at q; omega))
  rw [Int32.lt_iff_toInt_lt, nI_toInt ha] at c2
  rw [Int32.lt_iff_toInt_lt, nI_toInt hb] at c3 c4
  have ha20 : a ≤ 20 := by omega
  have hb100 : b ≤ 100 := by omega
  have hab : a * b ≤ 2000 := Nat.mul_le_mul ha20 hb100
  rw [pk_mul, nI_add, nI_toInt ha, nI_toInt hb, Int.toNat_natCast, Int.toNat_natCast]
  have e9 : nI (tp.length + a * b) ≤ 9000 ↔ tp.length + a * b ≤ 9000 := nI_leI (b := 9000) (by omega) (by decide)
  by_cases c5 : tp.length + a * b ≤ 9000
  · have e : endB tp.length (nI a) (nI b) = true := decide_eq_true (by rw [nI_toInt ha, nI_toInt hb]; refine ⟨by omega, by omega, by omega, by omega, ?_⟩; rw [← Int.natCast_mul]; omega)
    rw [if_pos (e9.mpr c5), if_pos e, if_pos e]
    exact m_end_l a b hb100 ha20 b 0 fu _ (by omega) (by unfold fu; omega) (by simpa [rep] using h.th) (by rw [Nat.mul_comm b a]; omega)
  · have e : endB tp.length (nI a) (nI b) = false := decide_eq_false (by rw [nI_toInt ha, nI_toInt hb, ← Int.natCast_mul]; omega)
    rw [if_neg (fun q => c5 (e9.mp q)), e]
    exact ⟨_, rfl, h.th⟩
theorem m_drop_l {s a : Nat} (hs : s ≤ 9000) (old : Nat → Int32) : ∀ (m j n : Nat) (τ : SM), j + m = s → a ≤ j → m < n → τ.1 1 = nI s → (∀ i, i < j - a → τ.2 1 i = old (i + a)) → (∀ i, j ≤ i → τ.2 1 i = old i) → ∃ g, f_X8_drop_21 (nI a) n τ (nI j) = some (1, SMi (SMc τ 1 g) 1 (nI (s - a))) ∧ ∀ i, i < s - a → g i = old (i + a) := by
  intro m
  have C := cms
  induction m with
  | zero =>
    intro j n τ hj haj hn h1 h2 h3
    obtain ⟨k, rfl⟩ : ∃ k, n = k + 1 := ⟨n - 1, by omega⟩
    refine ⟨τ.2 1, ?_, fun i hi => h2 i (by omega)⟩
    rw [f_X8_drop_21, h1, if_pos (nI_le (by omega) (by omega)), pk_sub (by omega), SMc_id]
  | succ m ih =>
    intro j n τ hj haj hn h1 h2 h3
    obtain ⟨k, rfl⟩ : ∃ k, n = k + 1 := ⟨n - 1, by omega⟩
    obtain ⟨g, e1, e2⟩ := ih (j + 1) k (SMc τ 1 (upd (τ.2 1) (j - a) (τ.2 1 j))) (by omega) (by omega) (by omega) h1 (fun i hi => by
      rw [SMc_g]
      by_cases c : i = j - a
      · subst c
        rw [pk_us, h3 j (Nat.le_refl j), Nat.sub_add_cancel haj]
      · rw [pk_un c]; exact h2 i (by omega)) (fun i hi => by
      rw [SMc_g, pk_un (by omega)]
      exact h3 i (by omega))
    refine ⟨g, ?_, e2⟩
    rw [SMc_c] at e1
    rw [f_X8_drop_21, h1, if_neg (nI_ge (by omega) (by omega)), if_pos (inb_t (by omega) (by omega)), pk_sub haj, if_pos (inb_t (by omega) (by omega)), nI_clamp (by omega), nI_clamp (by omega), nI_1, e1]
theorem m_drop (h : RM τ (rd, tp, ou, fs)) (x : Int32) : ∃ τ', f_X8_drop τ x = some (b2i (hb tp.length 0 x), τ') ∧ RM τ' (rd, if hb tp.length 0 x = true then tp.drop x.toInt.toNat else tp, ou, fs) := by
  have hl := h.l1
  unfold f_X8_drop
  rcases i32_cases x with hx | ⟨a, ha, rfl⟩
  · rw [if_pos hx, hb_neg hx]
    exact ⟨_, rfl, h.th⟩
  · rw [if_neg (nI_pos ha), hb0 ha, show (SMi τ 0 0).1 1 = nI tp.length from h.n1]
    by_cases c : a ≤ tp.length
    · rw [if_pos (nI_le c (by omega)), decide_eq_true c, if_pos rfl, nI_toInt ha, Int.toNat_natCast]
      obtain ⟨g, e1, e2⟩ := m_drop_l (s := tp.length) (a := a) hl (τ.2 1) (tp.length - a) a fu (SMi τ 0 0) (by omega) (Nat.le_refl a) (by unfold fu; omega) h.n1 (fun i hi => absurd hi (by omega)) (fun i hi => rfl)
      have hlen : (tp.drop a).length = tp.length - a := List.length_drop
      refine ⟨_, e1, h.tape (by rw [SMi_g, hlen]) (by omega) (fun i hi => ?_) (fun y hy => h.b1 y (List.mem_of_mem_drop hy)) rfl rfl (fun b hb => SMc_n hb)⟩
      rw [hlen] at hi
      rw [SMi_a, SMc_g, e2 i hi, h.a1 (by omega)]
      simp only [List.getD_eq_getElem?_getD, List.getElem?_drop, Nat.add_comm]
    · rw [if_neg (fun q => c ((nI_leI ha (by omega)).mp q)), decide_eq_false c]
      exact ⟨_, rfl, h.th⟩
theorem m_take_l {p q : Nat} (hq : p + q ≤ 9000) : ∀ (m j n : Nat) (τ : SM), j + m = q → m < n → τ.1 1 = nI p → τ.1 2 = nI q → f_X8_take_35 n τ (nI j) = some (nI (p + q), SMi (SMc τ 1 (va_cpy (τ.2 2) (τ.2 1) j (p + j) m)) 1 (nI (p + q))) := by
  intro m
  have C := cms
  induction m with
  | zero =>
    intro j n τ hj hn h1 h2
    obtain ⟨k, rfl⟩ : ∃ k, n = k + 1 := ⟨n - 1, by omega⟩
    rw [f_X8_take_35, h1, h2, if_pos (nI_le (by omega) (by omega)), nI_add, SMi_g, cpy_0, SMc_id]
  | succ m ih =>
    intro j n τ hj hn h1 h2
    obtain ⟨k, rfl⟩ : ∃ k, n = k + 1 := ⟨n - 1, by omega⟩
    rw [f_X8_take_35, h1, h2, if_neg (nI_ge (by omega) (by omega)), if_pos (inb_t (by omega) (by omega)), nI_add, if_pos (inb_t (by omega) (by omega)), nI_clamp (by omega), nI_clamp (by omega), nI_1, ih (j + 1) k (SMc τ 1 (upd (τ.2 1) (p + j) (τ.2 2 j))) (by omega) (by omega) h1 h2, SMc_c, SMc_g, SMc_n (by decide), ← Nat.add_assoc, cpy_step]
theorem m_take1 (h : RM τ (rd, tp, ou, fs)) (c : tp.length + ou.length ≤ 9000) : ∃ τ', f_X8_take τ = some (nI (tp.length + ou.length), τ') ∧ RM τ' (rd, tp ++ ou, ou, fs) ∧ τ'.1 0 = 0 := by
  have e9 : nI (tp.length + ou.length) ≤ 9000 ↔ tp.length + ou.length ≤ 9000 := nI_leI (b := 9000) (by omega) (by decide)
  have e1 := m_take_l c ou.length 0 fu (SMi τ 0 0) (by omega) (by unfold fu; omega) h.n1 h.n2
  refine ⟨SMi (SMc (SMi τ 0 0) 1 (va_cpy (τ.2 2) (τ.2 1) 0 (tp.length + 0) ou.length)) 1 (nI (tp.length + ou.length)), ?_, h.tape (by rw [SMi_g, List.length_append]) (by rw [List.length_append]; exact c) (fun i hi => ?_) (fun x hx => ?_) rfl rfl (fun b hb => SMc_n hb), rfl⟩
  · unfold f_X8_take f_X8_take_21
    rw [h.n1, h.n2, nI_add, if_pos (e9.mpr c), SMi_g, if_pos (by decide)]
    exact e1
  · rw [List.length_append] at hi
    rw [SMi_a, SMc_g, getD_app]
    by_cases c2 : i < tp.length
    · rw [if_pos c2, pk_cpy_out (Or.inl (by omega))]; exact h.a1 c2
    · rw [if_neg c2, pk_cpy_in (by omega) (by omega), Nat.zero_add, Nat.add_zero]; exact h.a2 (by omega)
  · rcases List.mem_append.mp hx with q | q
    · exact h.b1 x q
    · exact h.1.2.2.2.2.2.2 x q
theorem m_take2 (h : RM τ (rd, tp, ou, fs)) (c : ¬ tp.length + ou.length ≤ 9000) : f_X8_take τ = some (0, SMi τ 0 1) := by
  have h9 := h.l1
  have o9 := h.l2
  have e9 : nI (tp.length + ou.length) ≤ 9000 ↔ tp.length + ou.length ≤ 9000 := nI_leI (b := 9000) (by omega) (by decide)
  unfold f_X8_take f_X8_take_21
  rw [h.n1, h.n2, nI_add, if_neg (fun q => c (e9.mp q)), SMi_g, if_neg (by decide)]
end MR2
