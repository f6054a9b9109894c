/-! ===== PURE: sort, on both sides ===== -/
theorem fnm_swp {fs : FL} {i j k : Nat} (hi : i < fs.length) (hj : j < fs.length) : fnm (swp fs i j) k = if k = j then fnm fs i else if k = i then fnm fs j else fnm fs k := by
  unfold fnm
  rw [swp_get hi hj]
  (repeat' split) <;> rfl
theorem fby_swp {fs : FL} {i j k : Nat} (hi : i < fs.length) (hj : j < fs.length) : fby (swp fs i j) k = if k = j then fby fs i else if k = i then fby fs j else fby fs k := by
  unfold fby
  rw [swp_get hi hj]
  (repeat' split) <;> rfl
theorem d_swap {σ : SD} {fs : FL} (h : filesD pkS σ fs) (hw : wfF fs) {i j : Nat} (hi : i < fs.length) (hj : j < fs.length) (hij : i ≠ j) : filesD pkS (SDe (SDe σ i (σ.2.2.2 j)) j (σ.2.2.2 i)) (swp fs i j) ∧ exS σ (SDe (SDe σ i (σ.2.2.2 j)) j (σ.2.2.2 i)) := by
  have h20 := hw.1
  obtain ⟨h1, h2, h3, h4, all, st, h5, h6, h7, h8⟩ := filesD_en.mp h
  have hp : ∀ k, (SDe (SDe σ i (σ.2.2.2 j)) j (σ.2.2.2 i)).2.2.2 k = σ.2.2.2 (if k = j then i else if k = i then j else k) := fun k => by
    show va_up (va_up σ.2.2.2 i (σ.2.2.2 j)) j (σ.2.2.2 i) k = _
    unfold va_up
    (repeat' split) <;> rfl
  have hl : ∀ k, k < 20 → (if k = j then i else if k = i then j else k) < 20 := fun k hk => by
    (repeat' split) <;> omega
  refine ⟨filesD_en.mpr ⟨by rw [swp_len]; exact h1, fun k hk => by rw [hp]; exact h2 _ (hl k hk), fun a b ha hb q => ?_, h4, all, fun k => st (if k = j then i else if k = i then j else k), h5, ?_, fun k hk => ?_, fun a b ha hb hab => ?_⟩, exS.se.tr exS.se⟩
  · rw [hp, hp] at q
    have := h3 _ _ (hl a ha) (hl b hb) q
    (repeat' split at this) <;> omega
  · have e : tot (swp fs i j) = tot fs := ((swp_perm hi hj).map _).sum_nat
    rw [e]; exact h6
  · rw [swp_len] at hk
    have hk2 : (if k = j then i else if k = i then j else k) < fs.length := by (repeat' split) <;> omega
    have e : (swp fs i j).getD k ([], []) = fs.getD (if k = j then i else if k = i then j else k) ([], []) := by
      rw [swp_get hi hj]
      (repeat' split) <;> rfl
    rw [hp, e]
    exact h7 _ hk2
  · rw [swp_len] at ha hb
    have e : ∀ k, fby (swp fs i j) k = fby fs (if k = j then i else if k = i then j else k) := fun k => by
      rw [fby_swp hi hj]
      (repeat' split) <;> rfl
    rw [e, e]
    refine h8 _ _ (by (repeat' split) <;> omega) (by (repeat' split) <;> omega) (fun q => ?_)
    (repeat' split at q) <;> omega
/-- files a < b ≤ k are in order, but for b = i -/
def ins (fs : FL) (k i : Nat) : Prop := ∀ a b, a < b → b ≤ k → b ≠ i → nlt (fnm fs a) (fnm fs b) = true
theorem ins_swp {fs : FL} {k i : Nat} (hk : k < fs.length) (hi : i + 1 ≤ k) (h : ins fs k (i + 1)) (g : nlt (fnm fs (i + 1)) (fnm fs i) = true) : ins (swp fs i (i + 1)) k i := by
  intro a b hab hb hbi
  rw [fnm_swp (by omega) (by omega), fnm_swp (by omega) (by omega)]
  by_cases b1 : b = i + 1
  · rw [if_pos b1, if_neg (show ¬ a = i + 1 by omega)]
    by_cases a1 : a = i
    · rw [if_pos a1]; exact g
    · rw [if_neg a1]; exact h a i (by omega) (by omega) (by omega)
  · rw [if_neg b1, if_neg (show ¬ b = i by omega)]
    by_cases a1 : a = i + 1
    · rw [if_pos a1]; exact h i b (by omega) hb b1
    · rw [if_neg a1]
      by_cases a2 : a = i
      · rw [if_pos a2]; exact h (i + 1) b (by omega) hb b1
      · rw [if_neg a2]; exact h a b hab hb b1
theorem ins_stop {fs : FL} (hw : wfF fs) {k i : Nat} (hk : k < fs.length) (hi : i + 1 ≤ k) (h : ins fs k (i + 1)) (g : ¬ nlt (fnm fs (i + 1)) (fnm fs i) = true) : ins fs k fs.length := by
  intro a b hab hb _
  by_cases b1 : b = i + 1
  · subst b1
    have g1 := wf_tri hw (show i + 1 < fs.length by omega) (show i < fs.length by omega) (by omega) g
    by_cases a1 : a = i
    · subst a1; exact g1
    · exact nlt_tr _ _ _ (h a i (by omega) (by omega) (by omega)) g1
  · exact h a b hab hb b1
theorem d_ins {fs0 : FL} (kk : SD → Int32 → Option SD) {k : Nat} : ∀ (m : Nat) (n : Nat) (σ : SD) (fs : FL), m < n → m ≤ k → k < fs.length → filesD pkS σ fs → wfF fs → ins fs k m → ∃ σ' gs, f_X5_putInOrder_12 kk n σ (nI k) (nI m) = kk σ' (nI (k + 1)) ∧ filesD pkS σ' gs ∧ List.Perm gs fs ∧ ins gs k gs.length ∧ exS σ σ' := by
  intro m
  induction m with
  | zero =>
    intro n σ fs hn hm hk h hw hi
    obtain ⟨i, rfl⟩ : ∃ i, n = i + 1 := ⟨n - 1, by omega⟩
    refine ⟨σ, fs, ?_, h, List.Perm.refl _, fun a b hab hb hbl => hi a b hab hb (by omega), exS.rf⟩
    rw [f_X5_putInOrder_12, if_pos (show nI 0 ≤ 0 by decide)]
    unfold f_X5_putInOrder_78
    rw [nI_1]
  | succ m ih =>
    intro n σ fs hn hm hk h hw hi
    have h20 := hw.1
    obtain ⟨i, rfl⟩ : ∃ i, n = i + 1 := ⟨n - 1, by omega⟩
    obtain ⟨h1, h2, h3, h4, all, st, h5, h6, h7, h8⟩ := filesD_en.mp h
    have ha := d_ahead (h7 (m + 1) (by omega)).1 (h7 m (by omega)).1 (wf_f hw (show m + 1 < fs.length by omega)).2.1 (wf_f hw (show m < fs.length by omega)).2.1 (wf_nb hw (show m + 1 < fs.length by omega)) (wf_nb hw (show m < fs.length by omega))
    have e0 : f_X5_putInOrder_12 kk (i + 1) σ (nI k) (nI (m + 1)) = if nlt (fnm fs (m + 1)) (fnm fs m) = true then f_X5_putInOrder_12 kk i (SDe (SDe σ m (σ.2.2.2 (m + 1))) (m + 1) (σ.2.2.2 m)) (nI k) (nI m) else kk σ (nI (k + 1)) := by
      rw [f_X5_putInOrder_12, if_neg (nI_nle (by omega) (by omega)), nI_pred, if_pos (inb_t (by omega) (by omega)), nI_clamp (by omega), if_pos (h2 _ (by omega)), if_pos (inb_t (by omega) (by omega)), nI_clamp (by omega), if_pos (h2 _ (by omega)), ha, Option.bind_some]
      by_cases c : nlt (fnm fs (m + 1)) (fnm fs m) = true
      · rw [if_pos c, c, if_neg (show ¬ b2i true = 0 by decide), if_pos (inb_t (by omega) (by omega)), if_pos (h2 _ (by omega)), if_pos (inb_t (by omega) (by omega)), if_pos (h2 _ (by omega)), if_pos (inb_t (by omega) (by omega)), if_pos (inb_t (by omega) (by omega)), pk_m1]
      · have c' : nlt (fnm fs (m + 1)) (fnm fs m) = false := by simpa using c
        rw [if_neg c, c', if_pos (show b2i false = 0 from rfl)]
        unfold f_X5_putInOrder_78
        rw [nI_1]
    by_cases c : nlt (fnm fs (m + 1)) (fnm fs m) = true
    · obtain ⟨s1, s2⟩ := d_swap h hw (i := m) (j := m + 1) (by omega) (by omega) (by omega)
      have hp := swp_perm (fs := fs) (i := m) (j := m + 1) (by omega) (by omega)
      obtain ⟨σ', gs, e1, e2, e3, e4, e5⟩ := ih i _ (swp fs m (m + 1)) (by omega) (by omega) (by rw [swp_len]; exact hk) s1 (wf_perm hw hp) (ins_swp hk (by omega) hi c)
      exact ⟨σ', gs, by rw [e0, if_pos c, e1], e2, e3.trans hp, e4, s2.tr e5⟩
    · exact ⟨σ, fs, by rw [e0, if_neg c], h, List.Perm.refl _, ins_stop hw hk (by omega) hi c, exS.rf⟩
theorem d_sort_l : ∀ (m k n : Nat) (σ : SD) (fs : FL), k + m = fs.length → 1 ≤ k → m < n → filesD pkS σ fs → wfF fs → (∀ a b, a < b → b < k → nlt (fnm fs a) (fnm fs b) = true) → ∃ σ' gs, f_X5_putInOrder_2 n σ (nI k) = some σ' ∧ filesD pkS σ' gs ∧ List.Perm gs fs ∧ sortd gs ∧ exS σ σ' := by
  intro m
  induction m with
  | zero =>
    intro k n σ fs hk hk1 hn h hw hs
    have h20 := hw.1
    obtain ⟨i, rfl⟩ : ∃ i, n = i + 1 := ⟨n - 1, by omega⟩
    refine ⟨σ, fs, ?_, h, List.Perm.refl _, fun a b hab hb => hs a b hab (by omega), exS.rf⟩
    rw [f_X5_putInOrder_2, h.1, if_pos (nI_le (by omega) (by omega))]
  | succ m ih =>
    intro k n σ fs hk hk1 hn h hw hs
    have h20 := hw.1
    obtain ⟨i, rfl⟩ : ∃ i, n = i + 1 := ⟨n - 1, by omega⟩
    obtain ⟨σ1, gs, e1, e2, e3, e4, e5⟩ := d_ins (fs0 := fs) (f_X5_putInOrder_2 i) (k := k) k fu σ fs (by unfold fu; omega) (Nat.le_refl _) (by omega) h hw (fun a b hab hb hne => hs a b hab (by omega))
    have hl := e3.length_eq
    obtain ⟨σ2, hs2, g1, g2, g3, g4, g5⟩ := ih (k + 1) i σ1 gs (by omega) (by omega) (by omega) e2 (wf_perm hw e3) (fun a b hab hb => e4 a b hab (by omega) (by omega))
    refine ⟨σ2, hs2, ?_, g2, g3.trans e3, g4, e5.tr g5⟩
    rw [f_X5_putInOrder_2, h.1, if_neg (nI_ge (by omega) (by omega)), e1, g1]
theorem d_sort {σ : SD} {rd tp ou : List Int32} {fs : FL} (h : RD pkS σ (rd, tp, ou, fs)) : ∃ σ' gs, f_X7_sort σ = some σ' ∧ List.Perm gs fs ∧ sortd gs ∧ RD pkS σ' (rd, tp, ou, gs) := by
  have h20 := h.wf.1
  unfold f_X7_sort f_X5_putInOrder
  by_cases c : fs.length = 0
  · refine ⟨σ, fs, ?_, List.Perm.refl _, fun a b _ hb => absurd hb (by omega), h⟩
    rw [show fu = 99999 + 1 from rfl, f_X5_putInOrder_2, h.fi.1, c, if_pos (by decide), Option.bind_some]
  · obtain ⟨σ', gs, e1, e2, e3, e4, e5⟩ := d_sort_l (fs.length - 1) 1 fu σ fs (by omega) (Nat.le_refl _) (by unfold fu; omega) h.fi h.wf (fun a b hab hb => absurd hb (by omega))
    exact ⟨σ', gs, by rw [show (1 : Int32) = nI 1 from rfl, e1, Option.bind_some], e3, e4, h.shelf e5 (wf_perm h.wf e3) e2⟩
/-! the reference's -/
theorem m_swap {τ : SM} {fs : FL} (h : filesM τ fs) (hw : wfF fs) {i j : Nat} (hi : i < fs.length) (hj : j < fs.length) (hij : i ≠ j) (kk : SM → Int32 → Option SM) (x : Int32) : ∃ τ', ((f_X8_copyFile τ (nI i) 20).bind fun q58 => (f_X8_copyFile q58 (nI j) (nI i)).bind fun q64 => (f_X8_copyFile q64 20 (nI j)).bind fun q71 => f_X8_sort_74 kk q71 x) = kk τ' (x + 1) ∧ filesM τ' (swp fs i j) ∧ τ'.1 = τ.1 ∧ ∀ a, a < 3 ∨ 6 < a → τ'.2 a = τ.2 a := by
  have h20 := hw.1
  have hz : ∀ k, k < fs.length → fSz (fs.getD k ([], [])) := fun k hk => ok_sz (wf_f hw hk)
  obtain ⟨τ1, e1, f1, g1, k1, l1⟩ := m_copyFile (i := i) (j := 20) (by omega) (by omega) (by omega) (h.2 i hi) (hz i hi)
  obtain ⟨τ2, e2, f2, g2, k2, l2⟩ := m_copyFile (i := j) (j := i) (by omega) (by omega) (fun q => hij q.symm) (l1 j _ (by omega) (hz j hj) (h.2 j hj)) (hz j hj)
  obtain ⟨τ3, e3, f3, g3, k3, l3⟩ := m_copyFile (i := 20) (j := j) (by omega) (by omega) (by omega) (l2 20 _ (by omega) (hz i hi) f1) (hz i hi)
  refine ⟨τ3, ?_, ⟨?_, fun k hk => ?_⟩, g3.trans (g2.trans g1), fun a ha => (k3 a ha).trans ((k2 a ha).trans (k1 a ha))⟩
  · rw [show (20 : Int32) = nI 20 from rfl, e1, Option.bind_some, e2, Option.bind_some, e3, Option.bind_some]
    rfl
  · rw [g3, g2, g1, swp_len]; exact h.1
  · rw [swp_len] at hk
    show flM τ3 k ((swp fs i j).getD k ([], []))
    rw [swp_get hi hj]
    by_cases c1 : k = j
    · rw [if_pos c1, c1]; exact f3
    · rw [if_neg c1]
      by_cases c2 : k = i
      · rw [if_pos c2, c2]; exact l3 i _ hij (hz j hj) f2
      · rw [if_neg c2]
        exact l3 k _ c1 (hz k hk) (l2 k _ c2 (hz k hk) (l1 k _ (by omega) (hz k hk) (h.2 k hk)))
/-- files a < k are ahead of all behind them -/
def sel (fs : FL) (k : Nat) : Prop := ∀ a b, a < k → a < b → b < fs.length → nlt (fnm fs a) (fnm fs b) = true
theorem m_sel (kk : SM → Int32 → Option SM) {k : Nat} {fs : FL} (hw : wfF fs) (hk : k < fs.length) (hs : sel fs k) : ∀ (m i f n : Nat) (τ : SM), i + m = fs.length → k < i → k ≤ f → f < i → m < n → filesM τ fs → (∀ b, k ≤ b → b < i → b ≠ f → nlt (fnm fs f) (fnm fs b) = true) → ∃ τ' gs, f_X8_sort_21 kk n τ (nI k) (nI f) (nI i) = kk τ' (nI (k + 1)) ∧ filesM τ' gs ∧ List.Perm gs fs ∧ sel gs (k + 1) ∧ τ'.1 = τ.1 ∧ ∀ a, a < 3 ∨ 6 < a → τ'.2 a = τ.2 a := by
  have h20 := hw.1
  have hz : ∀ k, k < fs.length → fSz (fs.getD k ([], [])) := fun k hk => ok_sz (wf_f hw hk)
  intro m
  induction m with
  | zero =>
    intro i f n τ hi hki hkf hfi hn h hm
    obtain ⟨p, rfl⟩ : ∃ p, n = p + 1 := ⟨n - 1, by omega⟩
    by_cases c : f = k
    · subst c
      refine ⟨τ, fs, ?_, h, List.Perm.refl _, fun a b ha hab hb => ?_, rfl, fun _ _ => rfl⟩
      · rw [f_X8_sort_21, h.1, if_pos (nI_le (by omega) (by omega)), if_pos rfl]
        unfold f_X8_sort_74
        rw [nI_1]
      · by_cases ca : a = f
        · subst ca; exact hm b (by omega) (by omega) (by omega)
        · exact hs a b (by omega) hab hb
    · obtain ⟨τ', e1, e2, e3, e4⟩ := m_swap h hw (i := k) (j := f) hk (by omega) (fun q => c q.symm) kk (nI k)
      refine ⟨τ', swp fs k f, ?_, e2, swp_perm hk (by omega), fun a b ha hab hb => ?_, e3, e4⟩
      · rw [f_X8_sort_21, h.1, if_pos (nI_le (by omega) (by omega)), if_neg (fun q => c ((nI_eq (by omega) (by omega)).mp q)), e1, nI_1]
      · rw [swp_len] at hb
        rw [fnm_swp hk (by omega), fnm_swp hk (by omega), if_neg (show ¬ a = f by omega)]
        by_cases ca : a = k
        · rw [if_pos ca]
          by_cases cb : b = f
          · rw [if_pos cb]; exact hm k (Nat.le_refl _) hki (fun q => c q.symm)
          · rw [if_neg cb, if_neg (show ¬ b = k by omega)]; exact hm b (by omega) (by omega) cb
        · rw [if_neg ca]
          by_cases cb : b = f
          · rw [if_pos cb]; exact hs a k (by omega) (by omega) hk
          · rw [if_neg cb]
            by_cases cb2 : b = k
            · rw [if_pos cb2]; exact hs a f (by omega) (by omega) (by omega)
            · rw [if_neg cb2]; exact hs a b (by omega) hab hb
  | succ m ih =>
    intro i f n τ hi hki hkf hfi hn h hm
    obtain ⟨p, rfl⟩ : ∃ p, n = p + 1 := ⟨n - 1, by omega⟩
    have ha := m_ahead (τ := τ) (p := i) (q := f) (by omega) (by omega) (h.2 i (by omega)) (h.2 f (by omega)) (hz i (by omega)) (hz f (by omega))
    by_cases c : nlt (fnm fs i) (fnm fs f) = true
    · obtain ⟨τ', gs, e1, e2⟩ := ih (i + 1) i p τ (by omega) (by omega) (by omega) (by omega) (by omega) h (fun b hb hb2 hne => by
        by_cases cf : b = f
        · rw [cf]; exact c
        · exact nlt_tr _ _ _ c (hm b hb (by omega) cf))
      refine ⟨τ', gs, ?_, e2⟩
      rw [f_X8_sort_21, h.1, if_neg (nI_ge (by omega) (by omega)), ha, Option.bind_some, show nlt (fs.getD i ([], [])).1 (fs.getD f ([], [])).1 = true from c, if_neg (show ¬ b2i true = 0 by decide)]
      unfold f_X8_sort_40
      rw [nI_1, e1]
    · have c' : nlt (fnm fs i) (fnm fs f) = false := by simpa using c
      obtain ⟨τ', gs, e1, e2⟩ := ih (i + 1) f p τ (by omega) (by omega) (by omega) (by omega) (by omega) h (fun b hb hb2 hne => by
        by_cases cf : b = i
        · rw [cf]; exact wf_tri hw (by omega) (by omega) (by omega) c
        · exact hm b hb (by omega) hne)
      refine ⟨τ', gs, ?_, e2⟩
      rw [f_X8_sort_21, h.1, if_neg (nI_ge (by omega) (by omega)), ha, Option.bind_some, show nlt (fs.getD i ([], [])).1 (fs.getD f ([], [])).1 = false from c', if_pos (show b2i false = 0 from rfl)]
      unfold f_X8_sort_40
      rw [nI_1, e1]
theorem m_sort_l : ∀ (m k n : Nat) (τ : SM) (fs : FL), k + m = fs.length → m < n → filesM τ fs → wfF fs → sel fs k → ∃ τ' gs, f_X8_sort_7 n τ (nI k) = some τ' ∧ filesM τ' gs ∧ List.Perm gs fs ∧ sortd gs ∧ τ'.1 = τ.1 ∧ ∀ a, a < 3 ∨ 6 < a → τ'.2 a = τ.2 a := by
  intro m
  induction m with
  | zero =>
    intro k n τ fs hk hn h hw hs
    have h20 := hw.1
    obtain ⟨i, rfl⟩ : ∃ i, n = i + 1 := ⟨n - 1, by omega⟩
    exact ⟨τ, fs, by rw [f_X8_sort_7, h.1, if_pos (nI_le (by omega) (by omega))], h, List.Perm.refl _, fun a b hab hb => hs a b (by omega) hab hb, rfl, fun _ _ => rfl⟩
  | succ m ih =>
    intro k n τ fs hk hn h hw hs
    have h20 := hw.1
    obtain ⟨i, rfl⟩ : ∃ i, n = i + 1 := ⟨n - 1, by omega⟩
    obtain ⟨τ1, gs, e1, e2, e3, e4, e5, e6⟩ := m_sel (f_X8_sort_7 i) hw (show k < fs.length by omega) hs m (k + 1) k fu τ (by omega) (by omega) (Nat.le_refl _) (by omega) (by unfold fu; omega) h (fun b hb hb2 hne => absurd hne (by omega))
    have hl := e3.length_eq
    obtain ⟨τ2, hs2, g1, g2, g3, g4, g5, g6⟩ := ih (k + 1) i τ1 gs (by omega) (by omega) e2 (wf_perm hw e3) e4
    refine ⟨τ2, hs2, ?_, g2, g3.trans e3, g4, g5.trans e5, fun a ha => (g6 a ha).trans (e6 a ha)⟩
    rw [f_X8_sort_7, h.1, if_neg (nI_ge (by omega) (by omega)), nI_1, e1, g1]
theorem m_sort {τ : SM} {rd tp ou : List Int32} {fs : FL} (h : RM τ (rd, tp, ou, fs)) : ∃ τ' gs, f_X8_sort τ = some τ' ∧ List.Perm gs fs ∧ sortd gs ∧ RM τ' (rd, tp, ou, gs) := by
  have h20 := h.wf.1
  obtain ⟨τ', gs, e1, e2, e3, e4, e5, e6⟩ := m_sort_l fs.length 0 fu (SMi τ 0 0) fs (by omega) (by unfold fu; omega) h.th.fi h.wf (fun a b ha => absurd ha (by omega))
  exact ⟨τ', gs, e1, e3, e4, h.th.files (wf_perm h.wf e3) e2 (Or.inl rfl) (by rw [e5]; exact h.n1) (by rw [e5]) (fun a ha => e6 a (Or.inl ha))⟩
