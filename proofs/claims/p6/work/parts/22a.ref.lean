/-! ===== PURE: the reference: words, rows copied ===== -/
theorem cms : capM 0 = 20 ∧ capM 1 = 9000 ∧ capM 2 = 9000 ∧ capM 3 = 630 ∧ capM 4 = 21 ∧ capM 5 = 31500 ∧ capM 6 = 21 ∧ capM 7 = 1600 ∧ capM 8 = 20 ∧ capM 9 = 20 ∧ capM 10 = 21 := ⟨rfl, rfl, rfl, rfl, rfl, rfl, rfl, rfl, rfl, rfl, rfl⟩
theorem SMc_c {τ : SM} {a : Nat} {g g' : Nat → Int32} : SMc (SMc τ a g) a g' = SMc τ a g' := by
  unfold SMc
  congr 1
  funext j
  unfold va_up
  by_cases h : j = a <;> simp [h]
theorem SMc_id {τ : SM} {a : Nat} : SMc τ a (τ.2 a) = τ := by
  apply Prod.ext
  · rfl
  · funext j
    show va_up τ.2 a (τ.2 a) j = τ.2 j
    unfold va_up
    by_cases h : j = a
    · rw [if_pos h, h]
    · rw [if_neg h]
theorem SMc_g {τ : SM} {a : Nat} {g : Nat → Int32} : (SMc τ a g).2 a = g := if_pos rfl
theorem SMc_n {τ : SM} {a b : Nat} {g : Nat → Int32} (h : b ≠ a) : (SMc τ a g).2 b = τ.2 b := if_neg h
theorem SMc_i {τ : SM} {a : Nat} {g : Nat → Int32} : (SMc τ a g).1 = τ.1 := rfl
theorem SMi_g {τ : SM} {f : Nat} {v : Int32} : (SMi τ f v).1 f = v := if_pos rfl
theorem SMi_n {τ : SM} {f k : Nat} {v : Int32} (h : k ≠ f) : (SMi τ f v).1 k = τ.1 k := if_neg h
theorem SMi_a {τ : SM} {f : Nat} {v : Int32} : (SMi τ f v).2 = τ.2 := rfl
theorem cpy_0 {f g : Nat → Int32} {s d : Nat} : va_cpy f g s d 0 = g := by
  funext k
  unfold va_cpy
  rw [if_neg (by omega)]
theorem cpy_step {f g : Nat → Int32} {s d m : Nat} : va_cpy f (upd g d (f s)) (s + 1) (d + 1) m = va_cpy f g s d (m + 1) := by
  funext k
  unfold va_cpy upd
  by_cases c1 : d + 1 ≤ k ∧ k < d + 1 + m
  · rw [if_pos c1, if_pos (by omega)]
    congr 1
    omega
  · rw [if_neg c1]
    by_cases c2 : k = d
    · subst c2
      rw [if_pos rfl, if_pos (by omega), Nat.sub_self, Nat.add_zero]
    · rw [if_neg c2, if_neg (by omega)]
theorem cpy_up {f g : Nat → Int32} {s d m : Nat} : upd (va_cpy f g s d m) (d + m) (f (s + m)) = va_cpy f g s d (m + 1) := by
  funext k
  unfold va_cpy upd
  by_cases c2 : k = d + m
  · subst c2
    rw [if_pos rfl, if_pos (by omega)]
    congr 1
    omega
  · rw [if_neg c2]
    show (if d ≤ k ∧ k < d + m then _ else _) = _
    by_cases c1 : d ≤ k ∧ k < d + m
    · rw [if_pos c1, if_pos (by omega)]
    · rw [if_neg c1, if_neg (by omega)]
theorem k30 (k j : Nat) : (30 : Int32) * nI k + nI j = nI (30 * k + j) := by rw [show (30 : Int32) = nI 30 from rfl, pk_mul, nI_add]
theorem k1500 (k j : Nat) : (1500 : Int32) * nI k + nI j = nI (1500 * k + j) := by rw [show (1500 : Int32) = nI 1500 from rfl, pk_mul, nI_add]
/-- a row of the reference has changed to the tape's -/
theorem RM.tape {τ τ' : SM} {rd tp tp' ou : List Int32} {fs : FL} (h : RM τ (rd, tp, ou, fs)) (h1 : τ'.1 1 = nI tp'.length) (hl : tp'.length ≤ 9000) (hg : ∀ i, i < tp'.length → τ'.2 1 i = tp'.getD i 0) (hb : ∀ x ∈ tp', byteP x) (e2 : τ'.1 2 = τ.1 2) (e3 : τ'.1 3 = τ.1 3) (eA : ∀ a, a ≠ 1 → τ'.2 a = τ.2 a) : RM τ' (rd, tp', ou, fs) := by
  obtain ⟨⟨w1, w2, w3, w4, w5, w6, w7⟩, a0, a1, a2, a3, a4, a5⟩ := h
  refine ⟨⟨w1, hl, w3, w4, w5, hb, w7⟩, ⟨a0.1, ?_⟩, h1, ⟨hl, hg⟩, e2.trans a3, ⟨a4.1, ?_⟩, e3.trans a5.1, ?_⟩
  · rw [eA 0 (by decide)]; exact a0.2
  · rw [eA 2 (by decide)]; exact a4.2
  · rw [eA 3 (by decide), eA 4 (by decide), eA 5 (by decide), eA 6 (by decide)]; exact a5.2
theorem RM.ready {τ τ' : SM} {rd rd' tp ou : List Int32} {fs : FL} (h : RM τ (rd, tp, ou, fs)) (hl : rd'.length = 20) (hg : ∀ i, i < 20 → τ'.2 0 i = rd'.getD i 0) (hb : ∀ x ∈ rd', byteP x) (e1 : τ'.1 1 = τ.1 1) (e2 : τ'.1 2 = τ.1 2) (e3 : τ'.1 3 = τ.1 3) (eA : ∀ a, a ≠ 0 → τ'.2 a = τ.2 a) : RM τ' (rd', tp, ou, fs) := by
  obtain ⟨⟨w1, w2, w3, w4, w5, w6, w7⟩, a0, a1, a2, a3, a4, a5⟩ := h
  refine ⟨⟨hl, w2, w3, w4, hb, w6, w7⟩, ⟨Nat.le_of_eq hl, fun i hi => hg i (by rw [hl] at hi; exact hi)⟩, e1.trans a1, ⟨a2.1, ?_⟩, e2.trans a3, ⟨a4.1, ?_⟩, e3.trans a5.1, ?_⟩
  · rw [eA 1 (by decide)]; exact a2.2
  · rw [eA 2 (by decide)]; exact a4.2
  · rw [eA 3 (by decide), eA 4 (by decide), eA 5 (by decide), eA 6 (by decide)]; exact a5.2
/-- fields that aren't held against anything -/
theorem RM.th {τ : SM} {s : SP} {v : Int32} (h : RM τ s) : RM (SMi τ 0 v) s := h
theorem RM.n1 {τ : SM} {rd tp ou : List Int32} {fs : FL} (h : RM τ (rd, tp, ou, fs)) : τ.1 1 = nI tp.length := h.2.2.1
theorem RM.n2 {τ : SM} {rd tp ou : List Int32} {fs : FL} (h : RM τ (rd, tp, ou, fs)) : τ.1 2 = nI ou.length := h.2.2.2.2.1
theorem RM.n3 {τ : SM} {rd tp ou : List Int32} {fs : FL} (h : RM τ (rd, tp, ou, fs)) : τ.1 3 = nI fs.length := h.2.2.2.2.2.2.1
theorem RM.a0 {τ : SM} {rd tp ou : List Int32} {fs : FL} (h : RM τ (rd, tp, ou, fs)) {i : Nat} (hi : i < 20) : τ.2 0 i = rd.getD i 0 := h.2.1.2 i (by rw [h.1.1]; exact hi)
theorem RM.a1 {τ : SM} {rd tp ou : List Int32} {fs : FL} (h : RM τ (rd, tp, ou, fs)) {i : Nat} (hi : i < tp.length) : τ.2 1 i = tp.getD i 0 := h.2.2.2.1.2 i hi
theorem RM.a2 {τ : SM} {rd tp ou : List Int32} {fs : FL} (h : RM τ (rd, tp, ou, fs)) {i : Nat} (hi : i < ou.length) : τ.2 2 i = ou.getD i 0 := h.2.2.2.2.2.1.2 i hi
theorem RM.l1 {τ : SM} {rd tp ou : List Int32} {fs : FL} (h : RM τ (rd, tp, ou, fs)) : tp.length ≤ 9000 := h.1.2.1
theorem RM.l2 {τ : SM} {rd tp ou : List Int32} {fs : FL} (h : RM τ (rd, tp, ou, fs)) : ou.length ≤ 9000 := h.1.2.2.1
theorem RM.b1 {τ : SM} {rd tp ou : List Int32} {fs : FL} (h : RM τ (rd, tp, ou, fs)) : ∀ x ∈ tp, byteP x := h.1.2.2.2.2.2.1
theorem RM.wf {τ : SM} {rd tp ou : List Int32} {fs : FL} (h : RM τ (rd, tp, ou, fs)) : wfF fs := h.1.2.2.2.1
/-! feed -/
theorem sh0 (x : Int32) : x >>> (nI 0 &&& 31) = x := by
  apply b_ext
  intro i hi
  rw [b_sshr 0 (by decide) x hi, Nat.zero_add, if_pos hi]
theorem fe_sh : ∀ j, j < 20 → ((24 - (8 * (nI j - nI j / 4 * 4))) &&& 31 : Int32) = nI (24 - 8 * (j % 4)) &&& 31 := by decide +kernel
def fe5 (a b c d e : Int32) : List Int32 := be4 a ++ be4 b ++ be4 c ++ be4 d ++ be4 e
theorem fe_get (a b c d e : Int32) : ∀ j, j < 20 → (fe5 a b c d e).getD j 0 = ((if j < 4 then a else if j < 8 then b else if j < 12 then c else if j < 16 then d else e) >>> (nI (24 - 8 * (j % 4)) &&& 31)) &&& 255 := by
  intro j hj
  have h0 : j = 0 ∨ j = 1 ∨ j = 2 ∨ j = 3 ∨ j = 4 ∨ j = 5 ∨ j = 6 ∨ j = 7 ∨ j = 8 ∨ j = 9 ∨ j = 10 ∨ j = 11 ∨ j = 12 ∨ j = 13 ∨ j = 14 ∨ j = 15 ∨ j = 16 ∨ j = 17 ∨ j = 18 ∨ j = 19 := by omega
  rcases h0 with rfl | rfl | rfl | rfl | rfl | rfl | rfl | rfl | rfl | rfl | rfl | rfl | rfl | rfl | rfl | rfl | rfl | rfl | rfl | rfl <;> first | rfl | (simp only [Nat.reduceMod, Nat.reduceMul, Nat.reduceSub, Nat.reduceLT, if_true, if_false, sh0]; rfl)
theorem m_feed_l (a b c d e : Int32) : ∀ (m j n : Nat) (τ : SM), j + m = 20 → m < n → (∀ i, i < j → τ.2 0 i = (fe5 a b c d e).getD i 0) → ∃ g, f_X8_feed_8 a b c d e n τ (nI j) = some (SMc τ 0 g) ∧ ∀ i, i < 20 → g i = (fe5 a b c d e).getD i 0 := by
  intro m
  have C := cms
  induction m with
  | zero =>
    intro j n τ hj hn h0
    obtain ⟨k, rfl⟩ : ∃ k, n = k + 1 := ⟨n - 1, by omega⟩
    refine ⟨τ.2 0, ?_, fun i hi => h0 i (by omega)⟩
    rw [f_X8_feed_8, show (20 : Int32) = nI 20 from rfl, if_pos (nI_le (by omega) (by omega)), SMc_id]
  | succ m ih =>
    intro j n τ hj hn h0
    obtain ⟨k, rfl⟩ : ∃ k, n = k + 1 := ⟨n - 1, by omega⟩
    have e20 : ¬ (20 : Int32) ≤ nI j := nI_ge (b := 20) (by omega) (by decide)
    have e4 : (4 : Int32) ≤ nI j ↔ 4 ≤ j := nI_leI (a := 4) (by decide) (by omega)
    have e8 : (8 : Int32) ≤ nI j ↔ 8 ≤ j := nI_leI (a := 8) (by decide) (by omega)
    have e12 : (12 : Int32) ≤ nI j ↔ 12 ≤ j := nI_leI (a := 12) (by decide) (by omega)
    have e16 : (16 : Int32) ≤ nI j ↔ 16 ≤ j := nI_leI (a := 16) (by decide) (by omega)
    have hi : inb (nI j) (capM 0) = true := inb_t (by omega) (by omega)
    obtain ⟨g, e1, e2⟩ := ih (j + 1) k (SMc τ 0 (upd (τ.2 0) j ((fe5 a b c d e).getD j 0))) (by omega) (by omega) (fun i hi => by
      rw [SMc_g]
      by_cases c : i = j
      · subst c; exact pk_us
      · rw [pk_un c]; exact h0 i (by omega))
    refine ⟨g, ?_, e2⟩
    rw [SMc_c] at e1
    rw [← e1, f_X8_feed_8, if_neg e20]
    unfold f_X8_feed_61
    rw [if_pos hi, fe_sh j (by omega), nI_clamp (by omega), nI_1, fe_get a b c d e j (by omega)]
    by_cases c4 : j < 4
    · rw [if_neg (fun q => by have := e4.mp q; omega), if_pos hi, if_pos c4]
    rw [if_pos (e4.mpr (by omega)), if_neg c4]
    by_cases c8 : j < 8
    · rw [if_neg (fun q => by have := e8.mp q; omega), if_pos hi, if_pos c8]
    rw [if_pos (e8.mpr (by omega)), if_neg c8]
    by_cases c12 : j < 12
    · rw [if_neg (fun q => by have := e12.mp q; omega), if_pos hi, if_pos c12]
    rw [if_pos (e12.mpr (by omega)), if_neg c12]
    by_cases c16 : j < 16
    · rw [if_neg (fun q => by have := e16.mp q; omega), if_pos hi, if_pos c16]
    rw [if_pos (e16.mpr (by omega)), if_neg c16]
theorem m_feed {τ : SM} {rd tp ou : List Int32} {fs : FL} (h : RM τ (rd, tp, ou, fs)) (a b c d e : Int32) : ∃ τ', f_X8_feed τ a b c d e = some τ' ∧ RM τ' (be4 a ++ be4 b ++ be4 c ++ be4 d ++ be4 e, tp, ou, fs) := by
  obtain ⟨g, e1, e2⟩ := m_feed_l a b c d e 20 0 fu (SMi τ 0 0) (by omega) (by unfold fu; omega) (fun i hi => absurd hi (by omega))
  refine ⟨_, e1, h.ready (by simp [be4]) (fun i hi => ?_) (fun x hx => ?_) rfl rfl rfl (fun a ha => by rw [SMc_n ha]; rfl)⟩
  · rw [SMc_g]; exact e2 i hi
  · simp only [List.mem_append] at hx
    rcases hx with (((hx | hx) | hx) | hx) | hx <;> exact be4_byte _ x hx
/-! cut, flip, clear, output -/
section MR
variable {τ : SM} {rd tp ou : List Int32} {fs : FL}
theorem hb_neg {n : Nat} {x : Int32} (h : x < 0) : hb n 0 x = false := by
  unfold hb
  apply decide_eq_false
  rw [Int32.lt_iff_toInt_lt, Int32.toInt_zero] at h
  omega
theorem hb0 {n a : Nat} (ha : a < 2 ^ 31) : hb n 0 (nI a) = decide (a ≤ n) := by
  rw [show (0 : Int32) = nI 0 from rfl, hb_n (by decide) ha, Nat.zero_add]
theorem m_cut (h : RM τ (rd, tp, ou, fs)) (x : Int32) : ∃ τ', f_X8_cut τ x = some (b2i (hb tp.length 0 x), τ') ∧ RM τ' (rd, if hb tp.length 0 x = true then tp.take x.toInt.toNat else tp, ou, fs) := by
  have hl := h.l1
  unfold f_X8_cut
  rcases i32_cases x with hx | ⟨a, ha, rfl⟩
  · rw [if_pos hx, hb_neg hx]
    exact ⟨_, rfl, h.th⟩
  · rw [if_neg (nI_pos ha), hb0 ha, show (SMi τ 0 0).1 1 = nI tp.length from h.n1]
    by_cases c : a ≤ tp.length
    · rw [if_pos (nI_le c (by omega)), decide_eq_true c, if_pos rfl, nI_toInt ha, Int.toNat_natCast]
      have hlen : (tp.take a).length = a := by rw [List.length_take]; omega
      refine ⟨_, rfl, h.tape (by rw [SMi_g, hlen]) (by omega) (fun i hi => ?_) (fun y hy => h.b1 y (List.mem_of_mem_take hy)) rfl rfl (fun b hb => rfl)⟩
      rw [hlen] at hi
      show τ.2 1 i = _
      rw [h.a1 (by omega)]
      simp only [List.getD_eq_getElem?_getD, List.getElem?_take, if_pos hi]
    · rw [if_neg (fun q => c ((nI_leI ha (by omega)).mp q)), decide_eq_false c]
      exact ⟨_, rfl, h.th⟩
theorem m_flip (h : RM τ (rd, tp, ou, fs)) (i x : Int32) : ∃ τ', f_X8_flip τ i x = some (b2i (flipB tp.length i x), τ') ∧ RM τ' (rd, if flipB tp.length i x = true then tp.set i.toInt.toNat (tp.getD i.toInt.toNat 0 ^^^ (1 <<< (x &&& 31))) else tp, ou, fs) := by
  have hl := h.l1
  have C := cms
  have e7 : (7 : Int32).toInt = 7 := rfl
  unfold f_X8_flip
  rw [show (SMi τ 0 0).1 1 = nI tp.length from h.n1]
  by_cases c1 : i < 0
  · have e : flipB tp.length i x = false := decide_eq_false (by rw [Int32.lt_iff_toInt_lt, Int32.toInt_zero] at c1; omega)
    rw [if_pos c1, e]; exact ⟨_, rfl, h.th⟩
  rw [if_neg c1]
  obtain ⟨j, hj, rfl⟩ := nI_of c1
  by_cases c2 : nI tp.length ≤ nI j
  · have e : flipB tp.length (nI j) x = false := decide_eq_false (by have := (nI_leI (by omega) hj).mp c2; rw [nI_toInt hj]; omega)
    rw [if_pos c2, e]; exact ⟨_, rfl, h.th⟩
  rw [if_neg c2]
  have hj2 : j < tp.length := by
    rcases Nat.lt_or_ge j tp.length with q | q
    · exact q
    · exact absurd (nI_le q hj) c2
  by_cases c3 : x < 0
  · have e : flipB tp.length (nI j) x = false := decide_eq_false (by rw [Int32.lt_iff_toInt_lt, Int32.toInt_zero] at c3; omega)
    rw [if_pos c3, e]; exact ⟨_, rfl, h.th⟩
  rw [if_neg c3]
  obtain ⟨b, hb, rfl⟩ := nI_of c3
  by_cases c4 : nI b ≤ 7
  · rw [Int32.le_iff_toInt_le, nI_toInt hb] at c4
    have e : flipB tp.length (nI j) (nI b) = true := decide_eq_true (by rw [nI_toInt hj, nI_toInt hb]; omega)
    have hin : inb (nI j) (capM 1) = true := inb_t (by omega) (by omega)
    rw [if_pos (by rw [Int32.le_iff_toInt_le, nI_toInt hb]; exact c4), if_pos hin, if_pos hin, e, if_pos rfl, nI_toInt hj, Int.toNat_natCast, nI_clamp hj]
    refine ⟨_, rfl, h.th.tape (by rw [List.length_set]; exact h.n1) (by rw [List.length_set]; omega) (fun k hk => ?_) (fun y hy => ?_) rfl rfl (fun a ha => SMc_n ha)⟩
    · rw [List.length_set] at hk
      rw [SMc_g]
      show upd (τ.2 1) j (τ.2 1 j ^^^ _) k = _
      rw [h.a1 hj2]
      by_cases c : k = j
      · subst c
        rw [pk_us]
        simp [List.getD_eq_getElem?_getD, hj2]
      · rw [pk_un c, h.a1 hk]
        simp only [List.getD_eq_getElem?_getD, List.getElem?_set]
        rw [if_neg (fun q => c q.symm)]
    · rcases List.mem_or_eq_of_mem_set hy with q | q
      · exact h.b1 y q
      · rw [q]
        obtain ⟨g1, g2⟩ := bN_of (i := j) h.b1
        exact xor_byte ⟨_, g1, g2⟩ (by omega)
  · have e : flipB tp.length (nI j) (nI b) = false := decide_eq_false (by rw [Int32.le_iff_toInt_le] at c4; omega)
    rw [if_neg c4, e]; exact ⟨_, rfl, h.th⟩
theorem m_clear (h : RM τ (rd, tp, ou, fs)) : ∃ τ', f_X8_clear τ = some τ' ∧ RM τ' (rd, tp, ou, []) := by
  refine ⟨_, rfl, ?_⟩
  obtain ⟨⟨w1, w2, w3, w4, w5, w6, w7⟩, a0, a1, a2, a3, a4, a5⟩ := h
  exact ⟨⟨w1, w2, w3, wf_nil, w5, w6, w7⟩, a0, a1, a2, a3, a4, rfl, fun k hk => absurd hk (Nat.not_lt_zero k)⟩
theorem m_output (h : RM τ (rd, tp, ou, fs)) (x : Int32) : f_X8_output τ x = some (atx ou x, SMi τ 0 0) := by
  have hl := h.l2
  have C := cms
  unfold f_X8_output
  rw [show (SMi τ 0 0).1 2 = nI ou.length from h.n2]
  rcases i32_cases x with hx | ⟨a, ha, rfl⟩
  · rw [if_pos hx]
    unfold atx
    rw [if_neg]
    intro h1
    rw [Int32.lt_iff_toInt_lt, Int32.toInt_zero] at hx
    omega
  · rw [if_neg (nI_pos ha), atx_n ha]
    by_cases c : a < ou.length
    · rw [if_pos (nI_lt c (by omega)), if_pos (inb_t (by omega) (by omega)), if_pos c, nI_clamp ha, show (SMi τ 0 0).2 2 a = _ from h.a2 c]
    · rw [if_neg (fun q => c ((nI_ltI ha (by omega)).mp q)), if_neg c]
end MR
