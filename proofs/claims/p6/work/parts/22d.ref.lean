/-! ===== PURE: the reference: one file of it ===== -/
def flM (τ : SM) (k : Nat) (f : List Int32 × List Int32) : Prop := τ.2 4 k = nI f.1.length ∧ (∀ i, i < f.1.length → τ.2 3 (30 * k + i) = f.1.getD i 0) ∧ τ.2 6 k = nI f.2.length ∧ ∀ i, i < f.2.length → τ.2 5 (1500 * k + i) = f.2.getD i 0
theorem filesM_fl {τ : SM} {fs : FL} : filesM τ fs ↔ τ.1 3 = nI fs.length ∧ ∀ k, k < fs.length → flM τ k (fs.getD k ([], [])) := Iff.rfl
def fSz (f : List Int32 × List Int32) : Prop := f.1.length ≤ 30 ∧ f.2.length ≤ 1500
theorem ok_sz {f : List Int32 × List Int32} (h : fileOk f) : fSz f := ⟨h.2.1, h.2.2.2.1⟩
/-- all but the files' rows is as it was, and so is every file but k -/
def exF (τ τ' : SM) (k : Nat) : Prop := τ'.1 = τ.1 ∧ (∀ a, a < 3 ∨ 6 < a → τ'.2 a = τ.2 a) ∧ ∀ j f, j ≠ k → fSz f → flM τ j f → flM τ' j f
theorem m_setName_l {k a n : Nat} (hk : k ≤ 20) (hn : n ≤ 30) (ha : a + n ≤ 9000) : ∀ (m j f : Nat) (τ : SM), j + m = n → m < f → f_X8_setName_3 (nI k) (nI a) (nI n) f τ (nI j) = some (SMc (SMc τ 3 (va_cpy (τ.2 1) (τ.2 3) (a + j) (30 * k + j) m)) 4 (upd (τ.2 4) k (nI n))) := by
  intro m
  have C := cms
  induction m with
  | zero =>
    intro j f τ hj hf
    obtain ⟨i, rfl⟩ : ∃ i, f = i + 1 := ⟨f - 1, by omega⟩
    rw [f_X8_setName_3, if_pos (nI_le (by omega) (by omega)), if_pos (inb_t (by omega) (by omega)), nI_clamp (by omega), cpy_0, SMc_id]
  | succ m ih =>
    intro j f τ hj hf
    obtain ⟨i, rfl⟩ : ∃ i, f = i + 1 := ⟨f - 1, by omega⟩
    rw [f_X8_setName_3, if_neg (nI_ge (by omega) (by omega)), nI_add, if_pos (inb_t (by omega) (by omega)), k30, if_pos (inb_t (by omega) (by omega)), nI_clamp (by omega), nI_clamp (by omega), nI_1, ih (j + 1) i _ (by omega) (by omega), SMc_c, SMc_g, SMc_n (by decide), SMc_n (by decide), ← Nat.add_assoc, ← Nat.add_assoc, cpy_step]
theorem m_setName {k a n : Nat} (hk : k ≤ 20) (hn : n ≤ 30) (ha : a + n ≤ 9000) (τ : SM) : f_X8_setName τ (nI k) (nI a) (nI n) = some (SMc (SMc τ 3 (va_cpy (τ.2 1) (τ.2 3) a (30 * k) n)) 4 (upd (τ.2 4) k (nI n))) := by
  unfold f_X8_setName
  exact m_setName_l hk hn ha n 0 fu τ (by omega) (by unfold fu; omega)
theorem m_setBytes_l {k a n : Nat} (hk : k ≤ 20) (hn : n ≤ 1500) (ha : a + n ≤ 9000) : ∀ (m j f : Nat) (τ : SM), j + m = n → m < f → f_X8_setBytes_3 (nI k) (nI a) (nI n) f τ (nI j) = some (SMc (SMc τ 5 (va_cpy (τ.2 1) (τ.2 5) (a + j) (1500 * k + j) m)) 6 (upd (τ.2 6) k (nI n))) := by
  intro m
  have C := cms
  induction m with
  | zero =>
    intro j f τ hj hf
    obtain ⟨i, rfl⟩ : ∃ i, f = i + 1 := ⟨f - 1, by omega⟩
    rw [f_X8_setBytes_3, if_pos (nI_le (by omega) (by omega)), if_pos (inb_t (by omega) (by omega)), nI_clamp (by omega), cpy_0, SMc_id]
  | succ m ih =>
    intro j f τ hj hf
    obtain ⟨i, rfl⟩ : ∃ i, f = i + 1 := ⟨f - 1, by omega⟩
    rw [f_X8_setBytes_3, if_neg (nI_ge (by omega) (by omega)), nI_add, if_pos (inb_t (by omega) (by omega)), k1500, if_pos (inb_t (by omega) (by omega)), nI_clamp (by omega), nI_clamp (by omega), nI_1, ih (j + 1) i _ (by omega) (by omega), SMc_c, SMc_g, SMc_n (by decide), SMc_n (by decide), ← Nat.add_assoc, ← Nat.add_assoc, cpy_step]
theorem m_setBytes {k a n : Nat} (hk : k ≤ 20) (hn : n ≤ 1500) (ha : a + n ≤ 9000) (τ : SM) : f_X8_setBytes τ (nI k) (nI a) (nI n) = some (SMc (SMc τ 5 (va_cpy (τ.2 1) (τ.2 5) a (1500 * k) n)) 6 (upd (τ.2 6) k (nI n))) := by
  unfold f_X8_setBytes
  exact m_setBytes_l hk hn ha n 0 fu τ (by omega) (by unfold fu; omega)
theorem m_copy5 {i j n : Nat} (hi : i ≤ 20) (hj : j ≤ 20) (hij : i ≠ j) (hn : n ≤ 1500) (A : Nat → Int32) : ∀ (m x f : Nat) (τ : SM), x + m = n → m < f → τ.2 6 i = nI n → τ.2 5 = va_cpy A A (1500 * i) (1500 * j) x → f_X8_copyFile_50 (nI i) (nI j) f τ (nI x) = some (SMc (SMc τ 5 (va_cpy A A (1500 * i) (1500 * j) n)) 6 (upd (τ.2 6) j (nI n))) := by
  intro m
  have C := cms
  induction m with
  | zero =>
    intro x f τ hx hf h6 h5
    obtain ⟨k, rfl⟩ : ∃ k, f = k + 1 := ⟨f - 1, by omega⟩
    obtain rfl : x = n := by omega
    rw [f_X8_copyFile_50, if_pos (inb_t (by omega) (by omega)), nI_clamp (by omega), h6, if_pos (nI_le (by omega) (by omega)), if_pos (inb_t (by omega) (by omega)), if_pos (inb_t (by omega) (by omega)), nI_clamp (by omega), ← h5, SMc_id]
  | succ m ih =>
    intro x f τ hx hf h6 h5
    obtain ⟨k, rfl⟩ : ∃ k, f = k + 1 := ⟨f - 1, by omega⟩
    have hrd : τ.2 5 (1500 * i + x) = A (1500 * i + x) := by rw [h5, pk_cpy_out (by omega)]
    rw [f_X8_copyFile_50, if_pos (inb_t (by omega) (by omega)), nI_clamp (by omega), h6, if_neg (nI_ge (by omega) (by omega)), k1500, k1500, if_pos (inb_t (by omega) (by omega)), if_pos (inb_t (by omega) (by omega)), nI_clamp (by omega), nI_clamp (by omega), nI_1, hrd, h5, cpy_up, ih (x + 1) k (SMc τ 5 (va_cpy A A (1500 * i) (1500 * j) (x + 1))) (by omega) (by omega) h6 SMc_g, SMc_c]
    rfl
theorem m_copy3 {i j n : Nat} (hi : i ≤ 20) (hj : j ≤ 20) (hij : i ≠ j) (hn : n ≤ 1500) (A : Nat → Int32) : ∀ (m x f : Nat) (τ : SM), x + m = 30 → m < f → τ.2 6 i = nI n → τ.2 3 = va_cpy A A (30 * i) (30 * j) x → f_X8_copyFile_2 (nI i) (nI j) f τ (nI x) = some (SMc (SMc (SMc (SMc τ 3 (va_cpy A A (30 * i) (30 * j) 30)) 4 (upd (τ.2 4) j (τ.2 4 i))) 5 (va_cpy (τ.2 5) (τ.2 5) (1500 * i) (1500 * j) n)) 6 (upd (τ.2 6) j (nI n))) := by
  intro m
  have C := cms
  induction m with
  | zero =>
    intro x f τ hx hf h6 h3
    obtain ⟨k, rfl⟩ : ∃ k, f = k + 1 := ⟨f - 1, by omega⟩
    obtain rfl : x = 30 := by omega
    rw [f_X8_copyFile_2, show (30 : Int32) = nI 30 from rfl, if_pos (nI_le (by omega) (by omega)), if_pos (inb_t (by omega) (by omega)), if_pos (inb_t (by omega) (by omega)), nI_clamp (by omega), nI_clamp (by omega), show (0 : Int32) = nI 0 from rfl, m_copy5 hi hj hij hn (τ.2 5) n 0 fu (SMc τ 4 (upd (τ.2 4) j (τ.2 4 i))) (by omega) (by unfold fu; omega) h6 (by rw [cpy_0]; rfl), ← h3, SMc_id]
    rfl
  | succ m ih =>
    intro x f τ hx hf h6 h3
    obtain ⟨k, rfl⟩ : ∃ k, f = k + 1 := ⟨f - 1, by omega⟩
    have hrd : τ.2 3 (30 * i + x) = A (30 * i + x) := by rw [h3, pk_cpy_out (by omega)]
    rw [f_X8_copyFile_2, if_neg (show ¬ (30 : Int32) ≤ nI x from nI_ge (b := 30) (by omega) (by decide)), k30, k30, if_pos (inb_t (by omega) (by omega)), if_pos (inb_t (by omega) (by omega)), nI_clamp (by omega), nI_clamp (by omega), nI_1, hrd, h3, cpy_up, ih (x + 1) k (SMc τ 3 (va_cpy A A (30 * i) (30 * j) (x + 1))) (by omega) (by omega) h6 SMc_g, SMc_c]
    rfl
theorem m_copyFile {i j : Nat} (hi : i ≤ 20) (hj : j ≤ 20) (hij : i ≠ j) {τ : SM} {f : List Int32 × List Int32} (hf : flM τ i f) (hs : fSz f) : ∃ τ', f_X8_copyFile τ (nI i) (nI j) = some τ' ∧ flM τ' j f ∧ exF τ τ' j := by
  have e := m_copy3 hi hj hij hs.2 (τ.2 3) 30 0 fu τ (by omega) (by unfold fu; omega) hf.2.2.1 (by rw [cpy_0])
  obtain ⟨f1, f2, f3, f4⟩ := hf
  obtain ⟨s1, s2⟩ := hs
  refine ⟨_, e, ⟨?_, fun x hx => ?_, ?_, fun x hx => ?_⟩, rfl, fun a ha => ?_, fun k g hk hg hm => ?_⟩
  · show upd (τ.2 4) j (τ.2 4 i) j = _
    rw [pk_us, f1]
  · show va_cpy (τ.2 3) (τ.2 3) (30 * i) (30 * j) 30 (30 * j + x) = _
    rw [pk_cpy_in (by omega) (by omega), show 30 * i + (30 * j + x - 30 * j) = 30 * i + x by omega]
    exact f2 x hx
  · show upd (τ.2 6) j (nI f.2.length) j = _
    rw [pk_us]
  · show va_cpy (τ.2 5) (τ.2 5) (1500 * i) (1500 * j) f.2.length (1500 * j + x) = _
    rw [pk_cpy_in (by omega) (by omega), show 1500 * i + (1500 * j + x - 1500 * j) = 1500 * i + x by omega]
    exact f4 x hx
  · rw [SMc_n (by omega), SMc_n (by omega), SMc_n (by omega), SMc_n (by omega)]
  · obtain ⟨g1, g2, g3, g4⟩ := hm
    obtain ⟨q1, q2⟩ := hg
    refine ⟨?_, fun x hx => ?_, ?_, fun x hx => ?_⟩
    · show upd (τ.2 4) j (τ.2 4 i) k = _
      rw [pk_un hk, g1]
    · show va_cpy (τ.2 3) (τ.2 3) (30 * i) (30 * j) 30 (30 * k + x) = _
      rw [pk_cpy_out (by omega), g2 x hx]
    · show upd (τ.2 6) j (nI f.2.length) k = _
      rw [pk_un hk, g3]
    · show va_cpy (τ.2 5) (τ.2 5) (1500 * i) (1500 * j) f.2.length (1500 * k + x) = _
      rw [pk_cpy_out (by omega), g4 x hx]
/-- file k gets a name of the tape -/
theorem m_nameF {τ : SM} {xs : List Int32} (hx : ∀ i, i < xs.length → τ.2 1 i = xs.getD i 0) (h9 : xs.length ≤ 9000) {k a n : Nat} (hk : k ≤ 20) (hn : n ≤ 30) (ha : a + n ≤ xs.length) : ∃ τ', f_X8_setName τ (nI k) (nI a) (nI n) = some τ' ∧ τ'.1 = τ.1 ∧ (∀ b, b ≠ 3 → b ≠ 4 → τ'.2 b = τ.2 b) ∧ (∀ j g, j ≠ k → fSz g → flM τ j g → flM τ' j g) ∧ τ'.2 4 k = nI n ∧ ∀ i, i < n → τ'.2 3 (30 * k + i) = ((xs.drop a).take n).getD i 0 := by
  refine ⟨_, m_setName hk hn (by omega) τ, rfl, fun b h3 h4 => by rw [SMc_n h4, SMc_n h3], fun j g hj hg hm => ?_, ?_, fun i hi => ?_⟩
  · obtain ⟨g1, g2, g3, g4⟩ := hm
    obtain ⟨q1, q2⟩ := hg
    refine ⟨?_, fun x hx => ?_, g3, g4⟩
    · show upd (τ.2 4) k (nI n) j = _
      rw [pk_un hj, g1]
    · show va_cpy (τ.2 1) (τ.2 3) a (30 * k) n (30 * j + x) = _
      rw [pk_cpy_out (by omega), g2 x hx]
  · show upd (τ.2 4) k (nI n) k = _
    rw [pk_us]
  · show va_cpy (τ.2 1) (τ.2 3) a (30 * k) n (30 * k + i) = _
    rw [pk_cpy_in (by omega) (by omega), hx _ (by omega), sl_get hi]
    congr 1
    omega
theorem m_bytesF {τ : SM} {xs : List Int32} (hx : ∀ i, i < xs.length → τ.2 1 i = xs.getD i 0) (h9 : xs.length ≤ 9000) {k a n : Nat} (hk : k ≤ 20) (hn : n ≤ 1500) (ha : a + n ≤ xs.length) : ∃ τ', f_X8_setBytes τ (nI k) (nI a) (nI n) = some τ' ∧ τ'.1 = τ.1 ∧ (∀ b, b ≠ 5 → b ≠ 6 → τ'.2 b = τ.2 b) ∧ (∀ j g, j ≠ k → fSz g → flM τ j g → flM τ' j g) ∧ τ'.2 6 k = nI n ∧ ∀ i, i < n → τ'.2 5 (1500 * k + i) = ((xs.drop a).take n).getD i 0 := by
  refine ⟨_, m_setBytes hk hn (by omega) τ, rfl, fun b h3 h4 => by rw [SMc_n h4, SMc_n h3], fun j g hj hg hm => ?_, ?_, fun i hi => ?_⟩
  · obtain ⟨g1, g2, g3, g4⟩ := hm
    obtain ⟨q1, q2⟩ := hg
    refine ⟨g1, g2, ?_, fun x hx => ?_⟩
    · show upd (τ.2 6) k (nI n) j = _
      rw [pk_un hj, g3]
    · show va_cpy (τ.2 1) (τ.2 5) a (1500 * k) n (1500 * j + x) = _
      rw [pk_cpy_out (by omega), g4 x hx]
  · show upd (τ.2 6) k (nI n) k = _
    rw [pk_us]
  · show va_cpy (τ.2 1) (τ.2 5) a (1500 * k) n (1500 * k + i) = _
    rw [pk_cpy_in (by omega) (by omega), hx _ (by omega), sl_get hi]
    congr 1
    omega
theorem getD_erase {fs : FL} {k j : Nat} : (fs.eraseIdx k).getD j ([], []) = if j < k then fs.getD j ([], []) else fs.getD (j + 1) ([], []) := by
  simp only [List.getD_eq_getElem?_getD, List.getElem?_eraseIdx]
  by_cases c : j < k
  · rw [if_pos c, if_pos c]
  · rw [if_neg c, if_neg c]
theorem m_goes_l {fs : FL} (hw : wfF fs) {k : Nat} : ∀ (m i f : Nat) (τ : SM), i + m + 1 = fs.length → k ≤ i → m < f → τ.1 3 = nI fs.length → (∀ j, j < i → flM τ j ((fs.eraseIdx k).getD j ([], []))) → (∀ j, i < j → j < fs.length → flM τ j (fs.getD j ([], []))) → ∃ τ', f_X8_goes_2 (nI k) f τ (nI i) = some (SMi τ' 3 (nI (fs.length - 1))) ∧ τ'.1 = τ.1 ∧ (∀ a, a < 3 ∨ 6 < a → τ'.2 a = τ.2 a) ∧ ∀ j, j < fs.length - 1 → flM τ' j ((fs.eraseIdx k).getD j ([], [])) := by
  intro m
  have h20 := hw.1
  induction m with
  | zero =>
    intro i f τ hi hk hf h3 h1 h2
    obtain ⟨p, rfl⟩ : ∃ p, f = p + 1 := ⟨f - 1, by omega⟩
    refine ⟨τ, ?_, rfl, fun a ha => rfl, fun j hj => h1 j (by omega)⟩
    rw [f_X8_goes_2, h3, nI_1, if_pos (nI_le (by omega) (by omega)), show (1 : Int32) = nI 1 from rfl, pk_sub (by omega)]
  | succ m ih =>
    intro i f τ hi hk hf h3 h1 h2
    obtain ⟨p, rfl⟩ : ∃ p, f = p + 1 := ⟨f - 1, by omega⟩
    have hz : ∀ j, j < fs.length → fSz (fs.getD j ([], [])) := fun j hj => ok_sz (wf_f hw hj)
    obtain ⟨τ1, e1, e2, e3, e4, e5⟩ := m_copyFile (i := i + 1) (j := i) (by omega) (by omega) (by omega) (h2 (i + 1) (by omega) (by omega)) (hz (i + 1) (by omega))
    obtain ⟨τ', g1, g2, g3, g4⟩ := ih (i + 1) p τ1 (by omega) (by omega) (by omega) (by rw [e3]; exact h3) (fun j hj => by
      by_cases c : j = i
      · subst c
        rw [getD_erase, if_neg (by omega)]
        exact e2
      · have hj2 := h1 j (by omega)
        refine e5 j _ c ?_ hj2
        rw [getD_erase]
        by_cases c2 : j < k
        · rw [if_pos c2]; exact hz j (by omega)
        · rw [if_neg c2]; exact hz (j + 1) (by omega)) (fun j hj hj2 => e5 j _ (by omega) (hz j hj2) (h2 j (by omega) hj2))
    refine ⟨τ', ?_, g2.trans e3, fun a ha => (g3 a ha).trans (e4 a ha), g4⟩
    rw [f_X8_goes_2, h3, nI_1, if_neg (nI_ge (by omega) (by omega)), e1, Option.bind_some, g1]
theorem m_goes {τ : SM} {fs : FL} (hf : filesM τ fs) (hw : wfF fs) {k : Nat} (hk : k < fs.length) : ∃ τ', f_X8_goes τ (nI k) = some τ' ∧ filesM τ' (fs.eraseIdx k) ∧ (∀ f, f ≠ 3 → τ'.1 f = τ.1 f) ∧ ∀ a, a < 3 ∨ 6 < a → τ'.2 a = τ.2 a := by
  have h20 := hw.1
  obtain ⟨τ', e1, e2, e3, e4⟩ := m_goes_l hw (k := k) (fs.length - 1 - k) k fu τ (by omega) (Nat.le_refl k) (by unfold fu; omega) hf.1 (fun j hj => by rw [getD_erase, if_pos hj]; exact hf.2 j (by omega)) (fun j hj hj2 => hf.2 j hj2)
  have hl : (fs.eraseIdx k).length = fs.length - 1 := by rw [List.length_eraseIdx, if_pos hk]
  refine ⟨_, e1, ⟨by rw [SMi_g, hl], fun j hj => e4 j (by omega)⟩, fun f hf2 => by rw [SMi_n hf2, e2], fun a ha => by rw [SMi_a]; exact e3 a ha⟩
