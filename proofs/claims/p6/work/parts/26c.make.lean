/-! ===== PURE: the reference's make ===== -/
def byK (v : Int32) (k : Nat) : Int32 := (v >>> (nI (8 * k) &&& 31)) &&& 255
/-- the output that the reference holds -/
def ouM (τ : SM) (ys : List Int32) : Prop := τ.1 2 = nI ys.length ∧ ∀ i, i < ys.length → τ.2 2 i = ys.getD i 0
/-- all but the output is as it was -/
def ex2 (τ τ' : SM) : Prop := (∀ f, f ≠ 2 → τ'.1 f = τ.1 f) ∧ ∀ a, a ≠ 2 → τ'.2 a = τ.2 a
theorem ex2.rf {τ : SM} : ex2 τ τ := ⟨fun _ _ => rfl, fun _ _ => rfl⟩
theorem ex2.tr {τ1 τ2 τ3 : SM} (h : ex2 τ1 τ2) (g : ex2 τ2 τ3) : ex2 τ1 τ3 := ⟨fun f n => (g.1 f n).trans (h.1 f n), fun a n => (g.2 a n).trans (h.2 a n)⟩
/-- all but the output, the folded bytes and the places is as it was -/
def exW (τ τ' : SM) : Prop := (∀ f, f ≠ 2 → f ≠ 7 → τ'.1 f = τ.1 f) ∧ ∀ a, a ≠ 2 → a ≠ 7 → a ≠ 10 → τ'.2 a = τ.2 a
theorem exW.rf {τ : SM} : exW τ τ := ⟨fun _ _ _ => rfl, fun _ _ _ _ => rfl⟩
theorem exW.tr {τ1 τ2 τ3 : SM} (h : exW τ1 τ2) (g : exW τ2 τ3) : exW τ1 τ3 := ⟨fun f n m => (g.1 f n m).trans (h.1 f n m), fun a n m p => (g.2 a n m p).trans (h.2 a n m p)⟩
theorem ex2.w {τ τ' : SM} (h : ex2 τ τ') : exW τ τ' := ⟨fun f n _ => h.1 f n, fun a n _ _ => h.2 a n⟩
theorem exP.w {τ τ' : SM} (h : exP τ τ') : exW τ τ' := ⟨fun f _ n => h.1 f n, fun a _ n _ => h.2 a n⟩
theorem flM.w {τ τ' : SM} {k : Nat} {f : List Int32 × List Int32} (h : flM τ k f) (e : exW τ τ') : flM τ' k f := by
  unfold flM
  rw [e.2 6 (by decide) (by decide) (by decide), e.2 5 (by decide) (by decide) (by decide), e.2 4 (by decide) (by decide) (by decide), e.2 3 (by decide) (by decide) (by decide)]
  exact h
theorem ouM.p {τ τ' : SM} {ys : List Int32} (h : ouM τ ys) (e : exP τ τ') : ouM τ' ys := by
  unfold ouM
  rw [e.1 2 (by decide), e.2 2 (by decide)]
  exact h
theorem m_write_l (v : Int32) {c : Nat} (hc8 : c ≤ 8) : ∀ (m j n : Nat) (τ : SM) (ys : List Int32), j + m = c → m < n → ouM τ ys → ys.length + m ≤ 9000 → ∃ τ', f_X8_write_2 v (nI c) n τ (nI j) = some τ' ∧ ouM τ' (ys ++ (List.range' j m).map (byK v)) ∧ ex2 τ τ' := by
  have C := cms
  intro m
  induction m with
  | zero =>
    intro j n τ ys hj hn h hl
    obtain ⟨i, rfl⟩ : ∃ i, n = i + 1 := ⟨n - 1, by omega⟩
    refine ⟨τ, by rw [f_X8_write_2, if_pos (nI_le (by omega) (by omega))], ?_, ex2.rf⟩
    rw [List.range'_zero, List.map_nil, List.append_nil]
    exact h
  | succ m ih =>
    intro j n τ ys hj hn h hl
    obtain ⟨i, rfl⟩ : ∃ i, n = i + 1 := ⟨n - 1, by omega⟩
    have h1 : ouM (SMi (SMc τ 2 (upd (τ.2 2) ys.length (byK v j))) 2 (nI (ys.length + 1))) (ys ++ [byK v j]) := by
      refine ⟨by rw [SMi_g, List.length_append]; rfl, fun x hx => ?_⟩
      rw [List.length_append, List.length_singleton] at hx
      rw [SMi_a, SMc_g, getD_app]
      by_cases c : x < ys.length
      · rw [if_pos c, pk_un (by omega), h.2 x c]
      · obtain rfl : x = ys.length := by omega
        rw [if_neg c, pk_us, Nat.sub_self]
        rfl
    have x1 : ex2 τ (SMi (SMc τ 2 (upd (τ.2 2) ys.length (byK v j))) 2 (nI (ys.length + 1))) := ⟨fun f hf => by rw [SMi_n hf]; rfl, fun a ha => by rw [SMi_a, SMc_n ha]⟩
    obtain ⟨τ', e2, g2, x2⟩ := ih (j + 1) i _ _ (by omega) (by omega) h1 (by rw [List.length_append, List.length_singleton]; omega)
    refine ⟨τ', ?_, ?_, x1.tr x2⟩
    · rw [f_X8_write_2, if_neg (nI_ge (by omega) (by omega)), h.1, if_pos (inb_t (by omega) (by omega)), nI_clamp (by omega), show (8 : Int32) = nI 8 from rfl, pk_mul]
      rw [show (SMc τ 2 (upd (τ.2 2) ys.length ((v >>> (nI (8 * j) &&& 31)) &&& 255))).1 2 = nI ys.length from h.1, nI_1, nI_1]
      exact e2
    · rw [List.range'_succ, List.map_cons]
      rw [List.append_assoc] at g2
      exact g2
theorem byK_0 (v : Int32) : byK v 0 = v &&& 255 := by
  unfold byK
  rw [Nat.mul_zero, sh0]
theorem m_w1 {τ : SM} {ys : List Int32} (h : ouM τ ys) (v : Int32) (hl : ys.length + 1 ≤ 9000) : ∃ τ', f_X8_write τ v 1 = some τ' ∧ ouM τ' (ys ++ [v &&& 255]) ∧ ex2 τ τ' := by
  have := m_write_l v (c := 1) (by decide) 1 0 fu τ ys (by omega) (by unfold fu; omega) h hl
  rw [show (List.range' 0 1).map (byK v) = [byK v 0] from rfl, byK_0] at this
  exact this
theorem m_w2 {τ : SM} {ys : List Int32} (h : ouM τ ys) (v : Int32) (hl : ys.length + 2 ≤ 9000) : ∃ τ', f_X8_write τ v 2 = some τ' ∧ ouM τ' (ys ++ le2 v) ∧ ex2 τ τ' := by
  have := m_write_l v (c := 2) (by decide) 2 0 fu τ ys (by omega) (by unfold fu; omega) h hl
  rw [show (List.range' 0 2).map (byK v) = [byK v 0, byK v 1] from rfl, byK_0] at this
  exact this
theorem m_w4 {τ : SM} {ys : List Int32} (h : ouM τ ys) (v : Int32) (hl : ys.length + 4 ≤ 9000) : ∃ τ', f_X8_write τ v 4 = some τ' ∧ ouM τ' (ys ++ le4 v) ∧ ex2 τ τ' := by
  have := m_write_l v (c := 4) (by decide) 4 0 fu τ ys (by omega) (by unfold fu; omega) h hl
  rw [show (List.range' 0 4).map (byK v) = [byK v 0, byK v 1, byK v 2, byK v 3] from rfl, byK_0] at this
  exact this
theorem m_w8 {τ : SM} {ys : List Int32} (h : ouM τ ys) (hl : ys.length + 8 ≤ 9000) : ∃ τ', f_X8_write τ 0 8 = some τ' ∧ ouM τ' (ys ++ (le2 0 ++ (le2 0 ++ (le2 0 ++ le2 0)))) ∧ ex2 τ τ' := by
  have := m_write_l 0 (c := 8) (by decide) 8 0 fu τ ys (by omega) (by unfold fu; omega) h hl
  rw [show (List.range' 0 8).map (byK 0) = le2 0 ++ (le2 0 ++ (le2 0 ++ le2 0)) by decide +kernel] at this
  exact this
theorem m_sign {τ : SM} {ys : List Int32} (h : ouM τ ys) {c d : Int32} (hc : byteP c) (hd : byteP d) (hl : ys.length + 4 ≤ 9000) : ∃ τ', f_X8_sign τ c d = some τ' ∧ ouM τ' (ys ++ [80, 75, c, d]) ∧ ex2 τ τ' := by
  obtain ⟨τ1, e1, r1, x1⟩ := m_w1 h 80 (by omega)
  obtain ⟨τ2, e2, r2, x2⟩ := m_w1 r1 75 (by simp only [List.length_append, List.length_singleton]; omega)
  obtain ⟨τ3, e3, r3, x3⟩ := m_w1 r2 c (by simp only [List.length_append, List.length_singleton]; omega)
  obtain ⟨τ4, e4, r4, x4⟩ := m_w1 r3 d (by simp only [List.length_append, List.length_singleton]; omega)
  refine ⟨τ4, ?_, ?_, ((x1.tr x2).tr x3).tr x4⟩
  · unfold f_X8_sign
    rw [e1, Option.bind_some, e2, Option.bind_some, e3, Option.bind_some, e4, Option.bind_some]
  · rw [byte255 hc, byte255 hd, show (80 : Int32) &&& 255 = 80 from rfl, show (75 : Int32) &&& 255 = 75 from rfl] at r4
    simpa only [List.append_assoc, List.cons_append, List.nil_append] using r4
theorem m_facts {τ : SM} {ys : List Int32} (h : ouM τ ys) {k : Nat} (hk : k ≤ 20) {f : List Int32 × List Int32} (hz : fSz f) (g : flM τ k f) (hl : ys.length + 22 ≤ 9000) : ∃ τ', f_X8_writeFacts τ (nI k) = some τ' ∧ ouM τ' (ys ++ fctB f) ∧ exW τ τ' ∧ τ'.2 10 = τ.2 10 := by
  have C := cms
  have z1 := hz.1
  have z2 := hz.2
  obtain ⟨τ1, e1, r1, x1⟩ := m_w2 h 0 (by omega)
  have g1 := g.w x1.w
  obtain ⟨τ2, e2, -, x2⟩ := m_method hk z2 g1.by
  have g2 := g1.w x2.w
  obtain ⟨τ3, e3, r3, x3⟩ := m_w2 (r1.p x2) (mtd f.2) (by simp only [List.length_append, le2_len, le4_len]; omega)
  obtain ⟨τ4, e4, r4, x4⟩ := m_w2 r3 0 (by simp only [List.length_append, le2_len, le4_len]; omega)
  obtain ⟨τ5, e5, r5, x5⟩ := m_w2 r4 33 (by simp only [List.length_append, le2_len, le4_len]; omega)
  have g5 := ((g2.w x3.w).w x4.w).w x5.w
  obtain ⟨τ6, e6, r6, x6⟩ := m_w4 r5 (crcS f.2) (by simp only [List.length_append, le2_len, le4_len]; omega)
  have g6 := g5.w x6.w
  obtain ⟨τ7, e7, x7⟩ := m_packed hk z2 g6.by
  obtain ⟨τ8, e8, r8, x8⟩ := m_w4 (r6.p x7) (nI (pkS f.2)) (by simp only [List.length_append, le2_len, le4_len]; omega)
  have g8 := (g6.w x7.w).w x8.w
  obtain ⟨τ9, e9, r9, x9⟩ := m_w4 r8 (nI f.2.length) (by simp only [List.length_append, le2_len, le4_len]; omega)
  have g9 := g8.w x9.w
  obtain ⟨τa, ea, ra, xa⟩ := m_w2 r9 (nI f.1.length) (by simp only [List.length_append, le2_len, le4_len]; omega)
  refine ⟨τa, ?_, ?_, ((((((((x1.w.tr x2.w).tr x3.w).tr x4.w).tr x5.w).tr x6.w).tr x7.w).tr x8.w).tr x9.w).tr xa.w, ?_⟩
  · unfold f_X8_writeFacts
    rw [e1, Option.bind_some, e2, Option.bind_some, e3, Option.bind_some, e4, Option.bind_some, e5, Option.bind_some, m_crc hk hz g5, Option.bind_some, e6, Option.bind_some, e7, Option.bind_some, e8, Option.bind_some, if_pos (inb_t (by omega) (by omega)), nI_clamp (by omega), g8.2.2.1, e9, Option.bind_some, if_pos (inb_t (by omega) (by omega)), g9.1, ea, Option.bind_some]
  · simpa only [fctB, List.append_assoc] using ra
  · rw [xa.2 10 (by decide), x9.2 10 (by decide), x8.2 10 (by decide), x7.2 10 (by decide), x6.2 10 (by decide), x5.2 10 (by decide), x4.2 10 (by decide), x3.2 10 (by decide), x2.2 10 (by decide), x1.2 10 (by decide)]
theorem flM.x2 {τ τ' : SM} {k : Nat} {f : List Int32 × List Int32} (h : flM τ k f) (e : ex2 τ τ') : flM τ' k f := h.w e.w
theorem m_name_l {k : Nat} (hk : k ≤ 20) {f : List Int32 × List Int32} (hz : fSz f) (hb : ∀ x ∈ f.1, byteP x) : ∀ (m j n : Nat) (τ : SM) (ys : List Int32), j + m = f.1.length → m < n → flM τ k f → ouM τ ys → ys.length + m ≤ 9000 → ∃ τ', f_X8_writeName_2 (nI k) n τ (nI j) = some τ' ∧ ouM τ' (ys ++ f.1.drop j) ∧ ex2 τ τ' := by
  have C := cms
  have z1 := hz.1
  intro m
  induction m with
  | zero =>
    intro j n τ ys hj hn g h hl
    obtain ⟨i, rfl⟩ : ∃ i, n = i + 1 := ⟨n - 1, by omega⟩
    refine ⟨τ, by rw [f_X8_writeName_2, if_pos (inb_t (by omega) (by omega)), nI_clamp (by omega), g.1, if_pos (nI_le (by omega) (by omega))], ?_, ex2.rf⟩
    rw [List.drop_of_length_le (by omega), List.append_nil]
    exact h
  | succ m ih =>
    intro j n τ ys hj hn g h hl
    obtain ⟨i, rfl⟩ : ∃ i, n = i + 1 := ⟨n - 1, by omega⟩
    obtain ⟨τ1, e1, r1, x1⟩ := m_w1 h (f.1.getD j 0) (by omega)
    rw [byte255 (get_byte hb j)] at r1
    obtain ⟨τ2, e2, r2, x2⟩ := ih (j + 1) i τ1 _ (by omega) (by omega) (g.x2 x1) r1 (by rw [List.length_append, List.length_singleton]; omega)
    refine ⟨τ2, ?_, ?_, x1.tr x2⟩
    · rw [f_X8_writeName_2, if_pos (inb_t (by omega) (by omega)), nI_clamp (by omega), g.1, if_neg (nI_ge (by omega) (by omega)), k30, if_pos (inb_t (by omega) (by omega)), nI_clamp (by omega), g.2.1 j (by omega), e1, Option.bind_some, nI_1, e2]
    · rw [dr_cons (show j < f.1.length by omega)]
      rw [List.append_assoc] at r2
      exact r2
theorem m_name {τ : SM} {ys : List Int32} (h : ouM τ ys) {k : Nat} (hk : k ≤ 20) {f : List Int32 × List Int32} (hz : fSz f) (hb : ∀ x ∈ f.1, byteP x) (g : flM τ k f) (hl : ys.length + 30 ≤ 9000) : ∃ τ', f_X8_writeName τ (nI k) = some τ' ∧ ouM τ' (ys ++ f.1) ∧ ex2 τ τ' := by
  have z1 := hz.1
  exact m_name_l hk hz hb f.1.length 0 fu τ ys (by omega) (by unfold fu; omega) g h (by omega)
