/-! ===== PURE: the reference's folding ===== -/
theorem dr_get {xs : List Int32} {p i : Nat} : (xs.drop p).getD i 0 = xs.getD (p + i) 0 := by
  simp only [List.getD_eq_getElem?_getD, List.getElem?_drop]
/-- the bytes of file k -/
def byM (τ : SM) (k : Nat) (b : List Int32) : Prop := τ.2 6 k = nI b.length ∧ ∀ i, i < b.length → τ.2 5 (1500 * k + i) = b.getD i 0
theorem flM.by {τ : SM} {k : Nat} {f : List Int32 × List Int32} (h : flM τ k f) : byM τ k f.2 := ⟨h.2.2.1, h.2.2.2⟩
theorem m_alike_l {τ : SM} {k : Nat} (hk : k ≤ 20) {b : List Int32} (hb : b.length ≤ 1500) (h : byM τ k b) {p : Nat} (hp : p < b.length) : ∀ (m j n : Nat), j + m = min 128 (rl (b.drop p)) → 1 ≤ j → m < n → f_X8_alike_2 (nI k) (nI p) n τ (nI j) = some (nI (min 128 (rl (b.drop p))), τ) := by
  have C := cms
  have hl := rl_le (b.drop p)
  rw [List.length_drop] at hl
  intro m
  induction m with
  | zero =>
    intro j n hj h1 hn
    obtain ⟨i, rfl⟩ : ∃ i, n = i + 1 := ⟨n - 1, by omega⟩
    rw [f_X8_alike_2]
    by_cases c : 128 ≤ j
    · rw [if_pos (show (128 : Int32) ≤ nI j from nI_le (a := 128) c (by omega)), show j = min 128 (rl (b.drop p)) by omega]
    rw [if_neg (show ¬ (128 : Int32) ≤ nI j from nI_ge (b := 128) (by omega) (by decide)), if_pos (inb_t (by omega) (by omega)), nI_clamp (by omega), h.1, nI_add]
    by_cases c2 : b.length ≤ p + j
    · rw [if_pos (nI_le c2 (by omega)), show j = min 128 (rl (b.drop p)) by omega]
    · have h3 := rl_out (ys := b.drop p) (by rw [List.length_drop]; omega)
      rw [show rl (b.drop p) = j by omega, dr_get, dr_get, Nat.add_zero] at h3
      rw [if_neg (nI_ge (by omega) (by omega)), k1500, nI_add, if_pos (inb_t (by omega) (by omega)), if_pos (inb_t (by omega) (by omega)), nI_clamp (by omega), nI_clamp (by omega), Nat.add_assoc, h.2 _ (by omega), h.2 _ (by omega), if_neg h3, show j = min 128 (rl (b.drop p)) by omega]
  | succ m ih =>
    intro j n hj h1 hn
    obtain ⟨i, rfl⟩ : ∃ i, n = i + 1 := ⟨n - 1, by omega⟩
    have h3 := rl_in (ys := b.drop p) (i := j) (by omega)
    rw [dr_get, dr_get, Nat.add_zero] at h3
    rw [f_X8_alike_2, if_neg (show ¬ (128 : Int32) ≤ nI j from nI_ge (b := 128) (by omega) (by decide)), if_pos (inb_t (by omega) (by omega)), nI_clamp (by omega), h.1, nI_add, if_neg (nI_ge (by omega) (by omega)), k1500, nI_add, if_pos (inb_t (by omega) (by omega)), if_pos (inb_t (by omega) (by omega)), nI_clamp (by omega), nI_clamp (by omega), Nat.add_assoc, h.2 _ (by omega), h.2 _ (by omega), if_pos h3, nI_1, ih (j + 1) i (by omega) (by omega) (by omega)]
theorem m_alike {τ : SM} {k : Nat} (hk : k ≤ 20) {b : List Int32} (hb : b.length ≤ 1500) (h : byM τ k b) {p : Nat} (hp : p < b.length) : f_X8_alike τ (nI k) (nI p) = some (nI (min 128 (rl (b.drop p))), τ) := by
  have hl := rl_pos (ys := b.drop p) (by rw [List.length_drop]; omega)
  unfold f_X8_alike
  exact m_alike_l hk hb h hp (min 128 (rl (b.drop p)) - 1) 1 fu (by omega) (by omega) (by unfold fu; omega)
/-- the folded bytes that the reference holds -/
def fdM (τ : SM) (ys : List Int32) : Prop := τ.1 7 = nI ys.length ∧ ys.length ≤ 1600 ∧ ∀ i, i < ys.length → τ.2 7 i = ys.getD i 0
/-- all but the folded bytes is as it was -/
def exP (τ τ' : SM) : Prop := (∀ f, f ≠ 7 → τ'.1 f = τ.1 f) ∧ ∀ a, a ≠ 7 → τ'.2 a = τ.2 a
theorem exP.rf {τ : SM} : exP τ τ := ⟨fun _ _ => rfl, fun _ _ => rfl⟩
theorem exP.tr {τ1 τ2 τ3 : SM} (h : exP τ1 τ2) (g : exP τ2 τ3) : exP τ1 τ3 := ⟨fun f n => (g.1 f n).trans (h.1 f n), fun a n => (g.2 a n).trans (h.2 a n)⟩
theorem byM.ot {τ τ' : SM} {k : Nat} {b : List Int32} (h : byM τ k b) (e : exP τ τ') : byM τ' k b := by
  unfold byM
  rw [e.2 6 (by decide), e.2 5 (by decide)]
  exact h
theorem flM.ot {τ τ' : SM} {k : Nat} {f : List Int32 × List Int32} (h : flM τ k f) (e : exP τ τ') : flM τ' k f := by
  unfold flM
  rw [e.2 6 (by decide), e.2 5 (by decide), e.2 4 (by decide), e.2 3 (by decide)]
  exact h
theorem m_put {τ : SM} {ys : List Int32} (h : fdM τ ys) (hl : ys.length < 1600) (v : Int32) : ∃ τ', f_X8_put τ v = some τ' ∧ fdM τ' (ys ++ [v]) ∧ exP τ τ' := by
  have C := cms
  obtain ⟨h1, h2, h3⟩ := h
  unfold f_X8_put
  rw [h1, if_pos (inb_t (by omega) (by omega)), nI_clamp (by omega), show (SMc τ 7 (upd (τ.2 7) ys.length v)).1 7 = nI ys.length from h1, nI_1]
  refine ⟨_, rfl, ⟨by rw [SMi_g, List.length_append]; rfl, by rw [List.length_append]; exact hl, fun i hi => ?_⟩, fun f hf => by rw [SMi_n hf]; rfl, fun a ha => by rw [SMi_a, SMc_n ha]⟩
  rw [List.length_append, List.length_singleton] at hi
  rw [SMi_a, SMc_g, getD_app]
  by_cases c : i < ys.length
  · rw [if_pos c, pk_un (by omega), h3 i c]
  · obtain rfl : i = ys.length := by omega
    rw [if_neg c, pk_us, Nat.sub_self]
    rfl
theorem m_f133 {k : Nat} (hk : k ≤ 20) {b : List Int32} (hb : b.length ≤ 1500) {p c : Nat} (hc : p + c ≤ b.length) (k7 : SM → Int32 → Option SM) (k94 : SM → Int32 → Int32 → Option SM) (x4 : Int32) : ∀ (m j n : Nat) (τ : SM) (ys : List Int32), j + m = c → m < n → byM τ k b → fdM τ ys → ys.length + m ≤ 1600 → ∃ τ', f_X8_fold_133 (nI k) k7 k94 n τ (nI p) x4 (nI c) (nI j) = k94 τ' (nI (p + c)) x4 ∧ fdM τ' (ys ++ (b.drop (p + j)).take m) ∧ exP τ τ' := by
  have C := cms
  intro m
  induction m with
  | zero =>
    intro j n τ ys hj hn h g hl
    obtain ⟨i, rfl⟩ : ∃ i, n = i + 1 := ⟨n - 1, by omega⟩
    refine ⟨τ, by rw [f_X8_fold_133, if_pos (nI_le (by omega) (by omega)), nI_add], ?_, exP.rf⟩
    rw [List.take_zero, List.append_nil]
    exact g
  | succ m ih =>
    intro j n τ ys hj hn h g hl
    obtain ⟨i, rfl⟩ : ∃ i, n = i + 1 := ⟨n - 1, by omega⟩
    obtain ⟨τ1, e1, g1, x1⟩ := m_put g (by omega) (b.getD (p + j) 0)
    obtain ⟨τ2, e2, g2, x2⟩ := ih (j + 1) i τ1 _ (by omega) (by omega) (h.ot x1) g1 (by rw [List.length_append, List.length_singleton]; omega)
    refine ⟨τ2, ?_, ?_, x1.tr x2⟩
    · rw [f_X8_fold_133, if_neg (nI_ge (by omega) (by omega)), k1500, nI_add, if_pos (inb_t (by omega) (by omega)), nI_clamp (by omega), Nat.add_assoc, h.2 _ (by omega), e1, Option.bind_some, nI_1, e2]
    · rw [sl_succ (by omega)]
      rw [List.append_assoc, ← Nat.add_assoc] at g2
      exact g2
theorem m_f94 {k : Nat} (hk : k ≤ 20) {b : List Int32} (hb : b.length ≤ 1500) {e : Nat} (he : e ≤ b.length) (k7 : SM → Int32 → Option SM) : ∀ (m p n : Nat) (τ : SM) (ys : List Int32), e - p ≤ m → p ≤ e → m < n → lo (b.drop p) = e - p → byM τ k b → fdM τ ys → ys.length + (foldB (b.drop p)).length ≤ 1600 → ∃ τ' zs, f_X8_fold_94 (nI k) k7 n τ (nI p) (nI e) = k7 τ' (nI e) ∧ fdM τ' (ys ++ zs) ∧ foldB (b.drop p) = zs ++ foldB (b.drop e) ∧ exP τ τ' := by
  intro m
  induction m with
  | zero =>
    intro p n τ ys hm hp hn hlo h g hl
    obtain ⟨i, rfl⟩ : ∃ i, n = i + 1 := ⟨n - 1, by omega⟩
    obtain rfl : p = e := by omega
    exact ⟨τ, [], by rw [f_X8_fold_94, if_pos (nI_le (Nat.le_refl _) (by omega))], by rw [List.append_nil]; exact g, rfl, exP.rf⟩
  | succ m ih =>
    intro p n τ ys hm hp hn hlo h g hl
    obtain ⟨i, rfl⟩ : ∃ i, n = i + 1 := ⟨n - 1, by omega⟩
    by_cases c : p = e
    · subst c
      exact ⟨τ, [], by rw [f_X8_fold_94, if_pos (nI_le (Nat.le_refl _) (by omega))], by rw [List.append_nil]; exact g, rfl, exP.rf⟩
    have h3 := lo_in (b.drop p) 0 (by omega)
    rw [List.drop_zero] at h3
    have hf := foldB_lo (xs := b.drop p) (by rw [List.length_drop]; omega) h3
    rw [List.drop_drop] at hf
    have hd := lo_drop (b.drop p) (min 128 (lo (b.drop p))) (by omega)
    rw [List.drop_drop] at hd
    generalize hc : min 128 (lo (b.drop p)) = c at hf hd
    have hc2 : c = min 128 (e - p) := by rw [← hc, hlo]
    rw [hf, List.length_cons, List.length_append, sl_len (by omega)] at hl
    obtain ⟨τ1, e1, g1, x1⟩ := m_put g (by omega) (nI (c - 1))
    obtain ⟨τ2, e2, g2, x2⟩ := m_f133 hk hb (p := p) (c := c) (by omega) k7 (f_X8_fold_94 (nI k) k7 i) (nI e) c 0 fu τ1 _ (by omega) (by unfold fu; omega) (h.ot x1) g1 (by rw [List.length_append, List.length_singleton]; omega)
    obtain ⟨τ3, zs, e3, g3, z3, x3⟩ := ih (p + c) i τ2 _ (by omega) (by omega) (by omega) (by rw [hd, hlo]; omega) ((h.ot x1).ot x2) g2 (by rw [List.length_append, List.length_append, List.length_singleton, sl_len (by omega)]; omega)
    have e4 : f_X8_fold_120 (nI k) k7 (f_X8_fold_94 (nI k) k7 i) τ (nI p) (nI e) (nI c) = k7 τ3 (nI e) := by
      unfold f_X8_fold_120
      rw [show (1 : Int32) = nI 1 from rfl, pk_sub (by omega), e1, Option.bind_some, show (0 : Int32) = nI 0 from rfl, e2, e3]
    refine ⟨τ3, nI (c - 1) :: ((b.drop p).take c ++ zs), ?_, ?_, ?_, (x1.tr x2).tr x3⟩
    · rw [f_X8_fold_94, if_neg (nI_ge (by omega) (by omega)), pk_sub (by omega)]
      by_cases c2 : 128 ≤ e - p
      · rw [if_pos (show (128 : Int32) ≤ nI (e - p) from nI_le (a := 128) c2 (by omega)), show (128 : Int32) = nI c by rw [hc2, Nat.min_eq_left c2]; rfl, e4]
      · rw [if_neg (show ¬ (128 : Int32) ≤ nI (e - p) from nI_ge (b := 128) (by omega) (by decide)), show e - p = c by omega, e4]
    · simpa using g3
    · rw [hf, z3, List.cons_append, List.append_assoc]
theorem m_f66 {k : Nat} (hk : k ≤ 20) {b : List Int32} (hb : b.length ≤ 1500) {τ : SM} (h : byM τ k b) (k7 : SM → Int32 → Option SM) {p : Nat} (hp : p < b.length) : ∀ (m j n : Nat), j + m = lo (b.drop p) → 1 ≤ j → m < n → f_X8_fold_66 (nI k) k7 n τ (nI p) (nI (p + j)) = f_X8_fold_94 (nI k) k7 fu τ (nI p) (nI (p + lo (b.drop p))) := by
  have C := cms
  have hl := lo_le (b.drop p)
  rw [List.length_drop] at hl
  intro m
  induction m with
  | zero =>
    intro j n hj h1 hn
    obtain ⟨i, rfl⟩ : ∃ i, n = i + 1 := ⟨n - 1, by omega⟩
    obtain rfl : j = lo (b.drop p) := by omega
    rw [f_X8_fold_66, if_pos (inb_t (by omega) (by omega)), nI_clamp (by omega), h.1]
    by_cases c : b.length ≤ p + lo (b.drop p)
    · rw [if_pos (nI_le c (by omega))]
    · have h3 := lo_out (b.drop p) (by rw [List.length_drop]; omega)
      rw [List.drop_drop] at h3
      rw [if_neg (nI_ge (by omega) (by omega)), m_alike hk hb h (by omega), Option.bind_some, if_pos (show (3 : Int32) ≤ nI (min 128 (rl (b.drop (p + lo (b.drop p))))) from nI_le (a := 3) (by omega) (by omega))]
  | succ m ih =>
    intro j n hj h1 hn
    obtain ⟨i, rfl⟩ : ∃ i, n = i + 1 := ⟨n - 1, by omega⟩
    have h3 := lo_in (b.drop p) j (by omega)
    rw [List.drop_drop] at h3
    have ih2 := ih (j + 1) i (by omega) (by omega) (by omega)
    rw [← Nat.add_assoc] at ih2
    rw [f_X8_fold_66, if_pos (inb_t (by omega) (by omega)), nI_clamp (by omega), h.1, if_neg (nI_ge (by omega) (by omega)), m_alike hk hb h (by omega), Option.bind_some, if_neg (show ¬ (3 : Int32) ≤ nI (min 128 (rl (b.drop (p + j)))) from nI_ge (b := 3) (by omega) (by decide)), nI_1, ih2]
theorem m_f7 {k : Nat} (hk : k ≤ 20) {b : List Int32} (hb : b.length ≤ 1500) : ∀ (m p n : Nat) (τ : SM) (ys : List Int32), b.length - p ≤ m → p ≤ b.length → m < n → byM τ k b → fdM τ ys → ys.length + (foldB (b.drop p)).length ≤ 1600 → ∃ τ', f_X8_fold_7 (nI k) n τ (nI p) = some τ' ∧ fdM τ' (ys ++ foldB (b.drop p)) ∧ exP τ τ' := by
  have C := cms
  intro m
  induction m with
  | zero =>
    intro p n τ ys hm hp hn h g hl
    obtain ⟨i, rfl⟩ : ∃ i, n = i + 1 := ⟨n - 1, by omega⟩
    refine ⟨τ, ?_, ?_, exP.rf⟩
    · rw [f_X8_fold_7, if_pos (inb_t (by omega) (by omega)), nI_clamp (by omega), h.1, if_pos (nI_le (by omega) (by omega))]
    · rw [List.drop_of_length_le (by omega), foldB_nil, List.append_nil]
      exact g
  | succ m ih =>
    intro p n τ ys hm hp hn h g hl
    obtain ⟨i, rfl⟩ : ∃ i, n = i + 1 := ⟨n - 1, by omega⟩
    by_cases c : p = b.length
    · refine ⟨τ, ?_, ?_, exP.rf⟩
      · rw [f_X8_fold_7, if_pos (inb_t (by omega) (by omega)), nI_clamp (by omega), h.1, if_pos (nI_le (by omega) (by omega))]
      · rw [List.drop_of_length_le (by omega), foldB_nil, List.append_nil]
        exact g
    by_cases c3 : 3 ≤ rl (b.drop p)
    · have hl2 := rl_le (b.drop p)
      rw [List.length_drop] at hl2
      have hf := foldB_run c3
      rw [dr_get, Nat.add_zero, List.drop_drop] at hf
      rw [hf, List.length_cons, List.length_cons] at hl
      obtain ⟨τ1, e1, g1, x1⟩ := m_put g (by omega) (nI (257 - min 128 (rl (b.drop p))))
      obtain ⟨τ2, e2, g2, x2⟩ := m_put g1 (by rw [List.length_append, List.length_singleton]; omega) (b.getD p 0)
      obtain ⟨τ3, e3, g3, x3⟩ := ih (p + min 128 (rl (b.drop p))) i τ2 _ (by omega) (by omega) (by omega) ((h.ot x1).ot x2) g2 (by rw [List.length_append, List.length_append, List.length_singleton, List.length_singleton]; omega)
      refine ⟨τ3, ?_, ?_, (x1.tr x2).tr x3⟩
      · rw [f_X8_fold_7, if_pos (inb_t (by omega) (by omega)), nI_clamp (by omega), h.1, if_neg (nI_ge (by omega) (by omega)), m_alike hk hb h (by omega), Option.bind_some, if_neg (show ¬ nI (min 128 (rl (b.drop p))) ≤ 2 from nI_ge (a := 2) (by omega) (by omega)), show (257 : Int32) = nI 257 from rfl, pk_sub (by omega), e1, Option.bind_some, k1500, if_pos (inb_t (by omega) (by omega)), nI_clamp (by omega), (h.ot x1).2 p (by omega), e2, Option.bind_some, nI_add, e3]
      · rw [hf]
        simpa using g3
    · have hlo := lo_pos (ys := b.drop p) (by rw [List.length_drop]; omega) (by omega)
      have hll := lo_le (b.drop p)
      rw [List.length_drop] at hll
      obtain ⟨τ1, zs, e1, g1, z1, x1⟩ := m_f94 hk hb (e := p + lo (b.drop p)) (by omega) (f_X8_fold_7 (nI k) i) (lo (b.drop p)) p fu τ ys (by omega) (by omega) (by unfold fu; omega) (by omega) h g hl
      rw [z1, List.length_append] at hl
      obtain ⟨τ2, e2, g2, x2⟩ := ih (p + lo (b.drop p)) i τ1 _ (by omega) (by omega) (by omega) (h.ot x1) g1 (by rw [List.length_append]; omega)
      refine ⟨τ2, ?_, ?_, x1.tr x2⟩
      · rw [f_X8_fold_7, if_pos (inb_t (by omega) (by omega)), nI_clamp (by omega), h.1, if_neg (nI_ge (by omega) (by omega)), m_alike hk hb h (by omega), Option.bind_some, if_pos (show nI (min 128 (rl (b.drop p))) ≤ 2 from nI_le (b := 2) (by omega) (by decide)), nI_1, m_f66 hk hb h _ (by omega) (lo (b.drop p) - 1) 1 fu (by omega) (by omega) (by unfold fu; omega), e1, e2]
      · rw [z1, ← List.append_assoc]
        exact g2
theorem m_fold {τ : SM} {k : Nat} (hk : k ≤ 20) {b : List Int32} (hb : b.length ≤ 1500) (h : byM τ k b) : ∃ τ', f_X8_fold τ (nI k) = some τ' ∧ fdM τ' (foldB b) ∧ exP τ τ' := by
  have h16 := foldB_1600 hb
  have x0 : exP τ (SMi τ 7 0) := ⟨fun f hf => SMi_n hf, fun a ha => rfl⟩
  obtain ⟨τ', e1, g1, x1⟩ := m_f7 hk hb b.length 0 fu (SMi τ 7 0) [] (by omega) (by omega) (by unfold fu; omega) (h.ot x0) ⟨rfl, by decide, fun i hi => absurd hi (Nat.not_lt_zero i)⟩ (by rw [List.drop_zero]; show 0 + _ ≤ _; omega)
  rw [List.drop_zero, List.nil_append] at g1
  exact ⟨τ', e1, g1, x0.tr x1⟩
def mtd (b : List Int32) : Int32 := if b.length ≤ (foldB b).length then 0 else 99
theorem m_method {τ : SM} {k : Nat} (hk : k ≤ 20) {b : List Int32} (hb : b.length ≤ 1500) (h : byM τ k b) : ∃ τ', f_X8_method τ (nI k) = some (mtd b, τ') ∧ fdM τ' (foldB b) ∧ exP τ τ' := by
  have C := cms
  have h16 := foldB_1600 hb
  obtain ⟨τ', e1, g1, x1⟩ := m_fold hk hb h
  refine ⟨τ', ?_, g1, x1⟩
  unfold f_X8_method mtd
  rw [e1, Option.bind_some, if_pos (inb_t (by omega) (by omega)), nI_clamp (by omega), (h.ot x1).1, g1.1]
  by_cases c : b.length ≤ (foldB b).length
  · rw [if_pos c, if_pos (nI_le c (by omega))]
  · rw [if_neg c, if_neg (nI_ge (by omega) (by omega))]
theorem m_packed {τ : SM} {k : Nat} (hk : k ≤ 20) {b : List Int32} (hb : b.length ≤ 1500) (h : byM τ k b) : ∃ τ', f_X8_packedSize τ (nI k) = some (nI (pkS b), τ') ∧ exP τ τ' := by
  have C := cms
  obtain ⟨τ', e1, g1, x1⟩ := m_method hk hb h
  refine ⟨τ', ?_, x1⟩
  unfold f_X8_packedSize pkS
  rw [e1, Option.bind_some, if_pos (inb_t (by omega) (by omega)), nI_clamp (by omega), (h.ot x1).1, g1.1]
  unfold mtd
  by_cases c : b.length ≤ (foldB b).length
  · rw [if_pos c, if_neg (show ¬ (0 : Int32) = 99 by decide), Nat.min_eq_left c]
  · rw [if_neg c, if_pos rfl, Nat.min_eq_right (by omega)]
/-- file's answer -/
def filS (fs : FL) (k w : Int32) : Int32 := if isF fs.length k = true then (if w = 0 then nI (fnm fs k.toInt.toNat).length else if w = 1 then nI (fby fs k.toInt.toNat).length else if w = 2 then nI (pkS (fby fs k.toInt.toNat)) else if w = 3 then mtd (fby fs k.toInt.toNat) else if w = 4 then crcS (fby fs k.toInt.toNat) else -1) else -1
theorem RM.fd {τ τ' : SM} {s : SP} (h : RM τ s) (e : exP τ τ') : RM τ' s := by
  unfold RM arrM filesM at h ⊢
  rw [e.1 1 (by decide), e.1 2 (by decide), e.1 3 (by decide), e.2 0 (by decide), e.2 1 (by decide), e.2 2 (by decide), e.2 3 (by decide), e.2 4 (by decide), e.2 5 (by decide), e.2 6 (by decide)]
  exact h
theorem w_cases {x : Int32} (h : ¬ (x.toInt < 0 ∨ 4 < x.toInt)) : x = 0 ∨ x = 1 ∨ x = 2 ∨ x = 3 ∨ x = 4 := by
  have key : ∀ y : Int32, x.toInt = y.toInt → x = y := fun y hy => Int32.toInt_inj.mp hy
  have t0 : (0 : Int32).toInt = 0 := rfl
  have t1 : (1 : Int32).toInt = 1 := rfl
  have t2 : (2 : Int32).toInt = 2 := rfl
  have t3 : (3 : Int32).toInt = 3 := rfl
  have t4 : (4 : Int32).toInt = 4 := rfl
  rcases (show x.toInt = 0 ∨ x.toInt = 1 ∨ x.toInt = 2 ∨ x.toInt = 3 ∨ x.toInt = 4 by omega) with q | q | q | q | q
  · exact Or.inl (key 0 (by omega))
  · exact Or.inr (Or.inl (key 1 (by omega)))
  · exact Or.inr (Or.inr (Or.inl (key 2 (by omega))))
  · exact Or.inr (Or.inr (Or.inr (Or.inl (key 3 (by omega)))))
  · exact Or.inr (Or.inr (Or.inr (Or.inr (key 4 (by omega)))))
theorem w_none {x : Int32} (h : x.toInt < 0 ∨ 4 < x.toInt) : x ≠ 0 ∧ x ≠ 1 ∧ x ≠ 2 ∧ x ≠ 3 ∧ x ≠ 4 := by
  refine ⟨?_, ?_, ?_, ?_, ?_⟩ <;> (intro q; rw [q] at h; exact absurd h (by decide))
theorem m_file {τ : SM} {rd tp ou : List Int32} {fs : FL} (h : RM τ (rd, tp, ou, fs)) (k w : Int32) : ∃ τ', f_X8_file τ k w = some (filS fs k w, τ') ∧ RM τ' (rd, tp, ou, fs) := by
  have C := cms
  have h20 := h.wf.1
  unfold f_X8_file filS
  rw [m_isFile (τ := SMi τ 0 0) h.n3 (by omega), Option.bind_some]
  by_cases c : isF fs.length k = true
  · obtain ⟨p, hp, hp2, rfl⟩ := isF_t c
    have hz := ok_sz (wf_f h.wf hp)
    have hfl : flM (SMi τ 0 0) p (fs.getD p ([], [])) := h.fi.2 p hp
    rw [c, if_neg (show ¬ b2i true = 0 by decide), if_pos rfl, nI_toInt hp2, Int.toNat_natCast]
    by_cases cw : w.toInt < 0 ∨ 4 < w.toInt
    · obtain ⟨n0, n1, n2, n3, n4⟩ := w_none cw
      rw [if_pos cw, if_neg n0, if_neg n1, if_neg n2, if_neg n3, if_neg n4]
      exact ⟨_, rfl, h.th⟩
    · rw [if_neg cw]
      rcases w_cases cw with rfl | rfl | rfl | rfl | rfl
      · rw [if_pos rfl, if_pos rfl, if_pos (inb_t (by omega) (by omega)), nI_clamp hp2, hfl.1]
        exact ⟨_, rfl, h.th⟩
      · have t10 : ¬ (1 : Int32) = 0 := by decide
        have t11 : (1 : Int32) = 1 := rfl
        rw [if_neg t10, if_neg t10, if_pos t11, if_pos t11, if_pos (inb_t (by omega) (by omega)), nI_clamp hp2, hfl.2.2.1]
        exact ⟨_, rfl, h.th⟩
      · obtain ⟨τ', e1, x1⟩ := m_packed (by omega) hz.2 hfl.by
        rw [if_neg (by decide), if_neg (by decide), if_pos rfl, if_neg (by decide), if_neg (by decide), if_pos rfl, e1, Option.bind_some]
        exact ⟨_, rfl, h.th.fd x1⟩
      · obtain ⟨τ', e1, g1, x1⟩ := m_method (by omega) hz.2 hfl.by
        rw [if_neg (by decide), if_neg (by decide), if_neg (by decide), if_pos rfl, if_neg (by decide), if_neg (by decide), if_neg (by decide), if_pos rfl, e1, Option.bind_some]
        exact ⟨_, rfl, h.th.fd x1⟩
      · rw [if_neg (by decide), if_neg (by decide), if_neg (by decide), if_neg (by decide), if_pos rfl, if_neg (by decide), if_neg (by decide), if_neg (by decide), if_neg (by decide), if_pos rfl, m_crc (by omega) hz hfl, Option.bind_some]
        exact ⟨_, rfl, h.th⟩
  · have c' : isF fs.length k = false := by simpa using c
    rw [c', if_pos (show b2i false = 0 from rfl), if_neg (show ¬ false = true by decide)]
    exact ⟨_, rfl, h.th⟩
