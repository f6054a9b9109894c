/-! ===== PURE: the reference's make, its loops ===== -/
theorem m_make96 {k : Nat} (hk : k ≤ 20) {ds : List Int32} (hd : ds.length ≤ 1500) (hb : ∀ x ∈ ds, byteP x) (x2 : Int32) (kk : SM → Int32 → Option (Int32 × SM)) : ∀ (m j n : Nat) (τ : SM) (ys : List Int32), j + m = ds.length → m < n → ((x2 = 0 ∧ ∀ i, i < ds.length → τ.2 5 (1500 * k + i) = ds.getD i 0) ∨ (x2 = 1 ∧ ∀ i, i < ds.length → τ.2 7 i = ds.getD i 0)) → ouM τ ys → ys.length + m ≤ 9000 → ∃ τ', f_X8_make_96 kk n τ (nI k) x2 (nI ds.length) (nI j) = kk τ' (nI (k + 1)) ∧ ouM τ' (ys ++ ds.drop j) ∧ ex2 τ τ' := by
  have C := cms
  intro m
  induction m with
  | zero =>
    intro j n τ ys hj hn hs h hl
    obtain ⟨i, rfl⟩ : ∃ i, n = i + 1 := ⟨n - 1, by omega⟩
    refine ⟨τ, by rw [f_X8_make_96, if_pos (nI_le (by omega) (by omega)), nI_1], ?_, ex2.rf⟩
    rw [List.drop_of_length_le (by omega), List.append_nil]
    exact h
  | succ m ih =>
    intro j n τ ys hj hn hs h hl
    obtain ⟨i, rfl⟩ : ∃ i, n = i + 1 := ⟨n - 1, by omega⟩
    obtain ⟨τ1, e1, r1, x1⟩ := m_w1 h (ds.getD j 0) (by omega)
    rw [byte255 (get_byte hb j)] at r1
    obtain ⟨τ2, e2, r2, y2⟩ := ih (j + 1) i τ1 _ (by omega) (by omega) (by rw [x1.2 5 (by decide), x1.2 7 (by decide)]; exact hs) r1 (by rw [List.length_append, List.length_singleton]; omega)
    refine ⟨τ2, ?_, ?_, x1.tr y2⟩
    · rw [f_X8_make_96, if_neg (nI_ge (by omega) (by omega))]
      unfold f_X8_make_130
      rcases hs with ⟨q1, q2⟩ | ⟨q1, q2⟩
      · rw [if_pos q1, k1500, if_pos (inb_t (by omega) (by omega)), nI_clamp (by omega), q2 j (by omega), e1, Option.bind_some, nI_1, e2]
      · rw [if_neg (by rw [q1]; decide), if_pos (inb_t (by omega) (by omega)), nI_clamp (by omega), q2 j (by omega), e1, Option.bind_some, nI_1, e2]
    · rw [dr_cons (show j < ds.length by omega)]
      rw [List.append_assoc] at r2
      exact r2
/-- where the i-th local begins -/
def off : Nat → FL → Nat → Nat
  | o, [], _ => o
  | o, _ :: _, 0 => o
  | o, f :: fs, i + 1 => off (o + (locB f).length) fs i
theorem m_loc1 {τ : SM} {ys : List Int32} (h : ouM τ ys) {k : Nat} (hk : k ≤ 20) {f : List Int32 × List Int32} (ho : fileOk f) (g : flM τ k f) (hl : ys.length + 60 ≤ 9000) : ∃ τ', ((f_X8_sign τ 3 4).bind fun q33 => (f_X8_write q33 20 2).bind fun q40 => (f_X8_writeFacts q40 (nI k)).bind fun q45 => (f_X8_write q45 0 2).bind fun q51 => f_X8_writeName q51 (nI k)) = some τ' ∧ ouM τ' (ys ++ ([80, 75, 3, 4] ++ (shB f ++ f.1))) ∧ exW τ τ' ∧ τ'.2 10 = τ.2 10 := by
  have hz := ok_sz ho
  have z1 := hz.1
  obtain ⟨τ1, e1, r1, x1⟩ := m_sign h (c := 3) (d := 4) ⟨3, by decide, rfl⟩ ⟨4, by decide, rfl⟩ (by omega)
  obtain ⟨τ2, e2, r2, x2⟩ := m_w2 r1 20 (by simp only [List.length_append, sg_len]; omega)
  obtain ⟨τ3, e3, r3, x3, y3⟩ := m_facts r2 hk hz ((g.x2 x1).x2 x2) (by simp only [List.length_append, sg_len, le2_len]; omega)
  obtain ⟨τ4, e4, r4, x4⟩ := m_w2 r3 0 (by simp only [List.length_append, sg_len, le2_len, fct_len]; omega)
  obtain ⟨τ5, e5, r5, x5⟩ := m_name r4 hk hz (nm_byte ho) ((((g.x2 x1).x2 x2).w x3).x2 x4) (by simp only [List.length_append, sg_len, le2_len, fct_len]; omega)
  refine ⟨τ5, ?_, ?_, (((x1.w.tr x2.w).tr x3).tr x4.w).tr x5.w, ?_⟩
  · rw [e1, Option.bind_some, e2, Option.bind_some, e3, Option.bind_some, e4, Option.bind_some, e5]
  · simpa only [shB, List.append_assoc] using r5
  · rw [x5.2 10 (by decide), x4.2 10 (by decide), y3, x2.2 10 (by decide), x1.2 10 (by decide)]
theorem filesM.w {τ τ' : SM} {fs : FL} (h : filesM τ fs) (e : exW τ τ') : filesM τ' fs := ⟨by rw [e.1 3 (by decide) (by decide)]; exact h.1, fun k hk => flM.w (h.2 k hk) e⟩
theorem m_locs {fs : FL} (hw : wfF fs) : ∀ (m k n : Nat) (τ : SM) (ys : List Int32), k + m = fs.length → m < n → filesM τ fs → ouM τ ys → ys.length + (60 * (fs.length - k) + tot (fs.drop k)) ≤ 9000 → ∃ τ', f_X8_make_12 n τ (nI k) = f_X8_make_153 fu τ' (nI (ys ++ locs (fs.drop k)).length) 0 ∧ ouM τ' (ys ++ locs (fs.drop k)) ∧ exW τ τ' ∧ (∀ i, i < fs.length - k → τ'.2 10 (k + i) = nI (off ys.length (fs.drop k) i)) ∧ ∀ i, i < k → τ'.2 10 i = τ.2 10 i := by
  have C := cms
  have h20 := hw.1
  intro m
  induction m with
  | zero =>
    intro k n τ ys hk hn h g hc
    obtain ⟨i, rfl⟩ : ∃ i, n = i + 1 := ⟨n - 1, by omega⟩
    rw [List.drop_of_length_le (by omega), locs, List.append_nil]
    exact ⟨τ, by rw [f_X8_make_12, h.1, if_pos (nI_le (by omega) (by omega)), g.1], g, exW.rf, fun i hi => absurd hi (by omega), fun _ _ => rfl⟩
  | succ m ih =>
    intro k n τ ys hk hn h g hc
    obtain ⟨i, rfl⟩ : ∃ i, n = i + 1 := ⟨n - 1, by omega⟩
    have hok := wf_f hw (show k < fs.length by omega)
    have hz := ok_sz hok
    have z1 := hz.1
    have z2 := hz.2
    have hpl := pkS_le (fs.getD k ([], [])).2
    have htd : tot (fs.drop k) = (fs.getD k ([], [])).2.length + tot (fs.drop (k + 1)) := tot_drop (show k < fs.length by omega)
    have x0 : exW τ (SMc τ 10 (upd (τ.2 10) k (nI ys.length))) := ⟨fun _ _ _ => rfl, fun a _ _ ha => SMc_n ha⟩
    have g0 : ouM (SMc τ 10 (upd (τ.2 10) k (nI ys.length))) ys := g
    have hfl0 : flM (SMc τ 10 (upd (τ.2 10) k (nI ys.length))) k (fs.getD k ([], [])) := flM.w (h.2 k (by omega)) x0
    obtain ⟨τ1, e1, r1, x1, y1⟩ := m_loc1 g0 (show k ≤ 20 by omega) hok hfl0 (by omega)
    have hfl1 := hfl0.w x1
    obtain ⟨τ2, e2, d2, x2⟩ := m_method (show k ≤ 20 by omega) z2 hfl1.by
    have hfl2 := hfl1.w x2.w
    have r2 := r1.p x2
    have hlen1 : (ys ++ ([80, 75, 3, 4] ++ (shB (fs.getD k ([], [])) ++ (fs.getD k ([], [])).1))).length = ys.length + 30 + (fs.getD k ([], [])).1.length := by
      simp only [List.length_append, sg_len, sh_len]
      omega
    have hdl := dat_len (fs.getD k ([], [])).2
    have key : ∃ τ3, (if mtd (fs.getD k ([], [])).2 = 99 then f_X8_make_74 (f_X8_make_12 i) τ2 (nI k) 1 else f_X8_make_74 (f_X8_make_12 i) τ2 (nI k) 0) = f_X8_make_12 i τ3 (nI (k + 1)) ∧ ouM τ3 (ys ++ locB (fs.getD k ([], []))) ∧ ex2 τ2 τ3 := by
      unfold f_X8_make_74 f_X8_make_92 mtd
      by_cases c : (fs.getD k ([], [])).2.length ≤ (foldB (fs.getD k ([], [])).2).length
      · have hdat : datB (fs.getD k ([], [])).2 = (fs.getD k ([], [])).2 := by unfold datB; rw [if_pos c]
        rw [if_pos c, if_neg (show ¬ (0 : Int32) = 99 by decide), if_pos (show (0 : Int32) = 0 from rfl), if_pos (inb_t (by omega) (by omega)), nI_clamp (by omega), hfl2.2.2.1]
        obtain ⟨τ3, e3, r3, x3⟩ := m_make96 (show k ≤ 20 by omega) z2 hok.2.2.2.2 0 (f_X8_make_12 i) (fs.getD k ([], [])).2.length 0 fu τ2 _ (by omega) (by unfold fu; omega) (Or.inl ⟨rfl, hfl2.2.2.2⟩) r2 (by rw [hlen1]; omega)
        refine ⟨τ3, e3, ?_, x3⟩
        unfold locB
        rw [hdat]
        simpa only [List.append_assoc, List.drop_zero] using r3
      · have hdat : datB (fs.getD k ([], [])).2 = foldB (fs.getD k ([], [])).2 := by unfold datB; rw [if_neg c]
        rw [if_neg c, if_pos rfl, if_neg (show ¬ (1 : Int32) = 0 by decide), d2.1]
        obtain ⟨τ3, e3, r3, x3⟩ := m_make96 (show k ≤ 20 by omega) (ds := foldB (fs.getD k ([], [])).2) (by omega) (foldB_byte hok.2.2.2.2) 1 (f_X8_make_12 i) (foldB (fs.getD k ([], [])).2).length 0 fu τ2 _ (by omega) (by unfold fu; omega) (Or.inr ⟨rfl, d2.2.2⟩) r2 (by rw [hlen1]; omega)
        refine ⟨τ3, e3, ?_, x3⟩
        unfold locB
        rw [hdat]
        simpa only [List.append_assoc, List.drop_zero] using r3
    obtain ⟨τ3, e3, r3, x3⟩ := key
    have x03 := ((x0.tr x1).tr x2.w).tr x3.w
    obtain ⟨τ4, e4, r4, x4, o4, p4⟩ := ih (k + 1) i τ3 _ (by omega) (by omega) (h.w x03) r3 (by rw [List.length_append, loc_len]; omega)
    have h10 : τ3.2 10 = upd (τ.2 10) k (nI ys.length) := by rw [x3.2 10 (by decide), x2.2 10 (by decide), y1, SMc_g]
    refine ⟨τ4, ?_, ?_, x03.tr x4, fun j hj => ?_, fun j hj => ?_⟩
    · rw [f_X8_make_12, h.1, if_neg (nI_ge (by omega) (by omega)), if_pos (inb_t (by omega) (by omega)), nI_clamp (by omega), g.1]
      have e5 : ((f_X8_sign (SMc τ 10 (upd (τ.2 10) k (nI ys.length))) 3 4).bind fun q33 => (f_X8_write q33 20 2).bind fun q40 => (f_X8_writeFacts q40 (nI k)).bind fun q45 => (f_X8_write q45 0 2).bind fun q51 => (f_X8_writeName q51 (nI k)).bind fun q56 => (f_X8_method q56 (nI k)).bind fun q61 => if q61.1 = 99 then (f_X8_make_74 (f_X8_make_12 i) q61.2 (nI k) 1) else (f_X8_make_74 (f_X8_make_12 i) q61.2 (nI k) 0)) = (((f_X8_sign (SMc τ 10 (upd (τ.2 10) k (nI ys.length))) 3 4).bind fun q33 => (f_X8_write q33 20 2).bind fun q40 => (f_X8_writeFacts q40 (nI k)).bind fun q45 => (f_X8_write q45 0 2).bind fun q51 => f_X8_writeName q51 (nI k)).bind fun q56 => (f_X8_method q56 (nI k)).bind fun q61 => if q61.1 = 99 then (f_X8_make_74 (f_X8_make_12 i) q61.2 (nI k) 1) else (f_X8_make_74 (f_X8_make_12 i) q61.2 (nI k) 0)) := by
        simp only [Option.bind_assoc]
      rw [e5, e1, Option.bind_some, e2, Option.bind_some]
      show (if mtd (fs.getD k ([], [])).2 = 99 then f_X8_make_74 (f_X8_make_12 i) τ2 (nI k) 1 else f_X8_make_74 (f_X8_make_12 i) τ2 (nI k) 0) = _
      rw [e3, e4, fs_drop (show k < fs.length by omega), locs, List.append_assoc]
    · rw [fs_drop (show k < fs.length by omega), locs, ← List.append_assoc]
      exact r4
    · rw [fs_drop (show k < fs.length by omega)]
      cases j with
      | zero =>
        rw [Nat.add_zero, p4 k (by omega), h10, pk_us]
        rfl
      | succ j =>
        have := o4 j (by omega)
        rw [List.length_append] at this
        rw [show k + (j + 1) = k + 1 + j by omega, this]
        rfl
    · rw [p4 j (by omega), h10, pk_un (by omega)]
theorem m_cen1 {τ : SM} {ys : List Int32} (h : ouM τ ys) {k o : Nat} (hk : k ≤ 20) {f : List Int32 × List Int32} (ho : fileOk f) (g : flM τ k f) (h10 : τ.2 10 k = nI o) (hl : ys.length + 76 ≤ 9000) (kk : SM → Option (Int32 × SM)) : ∃ τ', ((f_X8_sign τ 1 2).bind fun q164 => (f_X8_write q164 20 2).bind fun q171 => (f_X8_write q171 20 2).bind fun q178 => (f_X8_writeFacts q178 (nI k)).bind fun q183 => (f_X8_write q183 0 8).bind fun q190 => (f_X8_write q190 0 4).bind fun q196 => if inb (nI k) (capM 10) = true then ((f_X8_write q196 (q196.2 10 (nI k).toNatClampNeg) 4).bind fun q207 => (f_X8_writeName q207 (nI k)).bind fun q212 => kk q212) else none) = kk τ' ∧ ouM τ' (ys ++ cenB f o) ∧ exW τ τ' ∧ τ'.2 10 = τ.2 10 := by
  have C := cms
  have hz := ok_sz ho
  have z1 := hz.1
  obtain ⟨τ1, e1, r1, x1⟩ := m_sign h (c := 1) (d := 2) ⟨1, by decide, rfl⟩ ⟨2, by decide, rfl⟩ (by omega)
  obtain ⟨τ2, e2, r2, x2⟩ := m_w2 r1 20 (by simp only [List.length_append, sg_len]; omega)
  obtain ⟨τ2', e2', r2', x2'⟩ := m_w2 r2 20 (by simp only [List.length_append, sg_len, le2_len]; omega)
  obtain ⟨τ3, e3, r3, x3, y3⟩ := m_facts r2' hk hz (((g.x2 x1).x2 x2).x2 x2') (by simp only [List.length_append, sg_len, le2_len]; omega)
  obtain ⟨τ4, e4, r4, x4⟩ := m_w8 r3 (by simp only [List.length_append, sg_len, le2_len, fct_len]; omega)
  obtain ⟨τ5, e5, r5, x5⟩ := m_w4 r4 0 (by simp only [List.length_append, sg_len, le2_len, fct_len]; omega)
  have h5 : τ5.2 10 = τ.2 10 := by rw [x5.2 10 (by decide), x4.2 10 (by decide), y3, x2'.2 10 (by decide), x2.2 10 (by decide), x1.2 10 (by decide)]
  obtain ⟨τ6, e6, r6, x6⟩ := m_w4 r5 (nI o) (by simp only [List.length_append, sg_len, le2_len, le4_len, fct_len]; omega)
  obtain ⟨τ7, e7, r7, x7⟩ := m_name r6 hk hz (nm_byte ho) (((((((g.x2 x1).x2 x2).x2 x2').w x3).x2 x4).x2 x5).x2 x6) (by simp only [List.length_append, sg_len, le2_len, le4_len, fct_len]; omega)
  refine ⟨τ7, ?_, ?_, ((((((x1.w.tr x2.w).tr x2'.w).tr x3).tr x4.w).tr x5.w).tr x6.w).tr x7.w, ?_⟩
  · rw [e1, Option.bind_some, e2, Option.bind_some, e2', Option.bind_some, e3, Option.bind_some, e4, Option.bind_some, e5, Option.bind_some, if_pos (inb_t (by omega) (by omega)), nI_clamp (by omega), h5, h10, e6, Option.bind_some, e7, Option.bind_some]
  · simpa only [cenB, shB, List.append_assoc] using r7
  · rw [x7.2 10 (by decide), x6.2 10 (by decide), h5]
theorem le4_0 : le4 0 = le2 0 ++ le2 0 := by decide +kernel
theorem m_cens {fs : FL} (hw : wfF fs) {B : Nat} : ∀ (m k n : Nat) (τ : SM) (ys : List Int32) (o : Nat), k + m = fs.length → m < n → filesM τ fs → ouM τ ys → B ≤ ys.length → ys.length + 76 * (fs.length - k) + 22 ≤ 9000 → (∀ i, i < fs.length - k → τ.2 10 (k + i) = nI (off o (fs.drop k) i)) → ∃ τ', f_X8_make_153 n τ (nI B) (nI k) = some (nI ((ys ++ cens o (fs.drop k)) ++ eocB fs.length ((ys ++ cens o (fs.drop k)).length - B) B).length, τ') ∧ ouM τ' ((ys ++ cens o (fs.drop k)) ++ eocB fs.length ((ys ++ cens o (fs.drop k)).length - B) B) ∧ exW τ τ' := by
  have h20 := hw.1
  intro m
  induction m with
  | zero =>
    intro k n τ ys o hk hn h g hB hc h10
    obtain ⟨i, rfl⟩ : ∃ i, n = i + 1 := ⟨n - 1, by omega⟩
    rw [List.drop_of_length_le (by omega), cens, List.append_nil]
    obtain ⟨τ1, e1, r1, x1⟩ := m_sign g (c := 5) (d := 6) ⟨5, by decide, rfl⟩ ⟨6, by decide, rfl⟩ (by omega)
    obtain ⟨τ2, e2, r2, x2⟩ := m_w4 r1 0 (by simp only [List.length_append, sg_len]; omega)
    obtain ⟨τ3, e3, r3, x3⟩ := m_w2 r2 (nI fs.length) (by simp only [List.length_append, sg_len, le2_len, le4_len]; omega)
    obtain ⟨τ4, e4, r4, x4⟩ := m_w2 r3 (nI fs.length) (by simp only [List.length_append, sg_len, le2_len, le4_len]; omega)
    obtain ⟨τ5, e5, r5, x5⟩ := m_w4 r4 (nI (ys.length - B)) (by simp only [List.length_append, sg_len, le2_len, le4_len]; omega)
    obtain ⟨τ6, e6, r6, x6⟩ := m_w4 r5 (nI B) (by simp only [List.length_append, sg_len, le2_len, le4_len]; omega)
    obtain ⟨τ7, e7, r7, x7⟩ := m_w2 r6 0 (by simp only [List.length_append, sg_len, le2_len, le4_len]; omega)
    have r8 : ouM τ7 (ys ++ eocB fs.length (ys.length - B) B) := by
      rw [le4_0] at r7
      simpa only [eocB, List.append_assoc] using r7
    have n2 : τ2.1 3 = nI fs.length := by rw [x2.1 3 (by decide), x1.1 3 (by decide)]; exact h.1
    have n3 : τ3.1 3 = nI fs.length := by rw [x3.1 3 (by decide)]; exact n2
    refine ⟨τ7, ?_, r8, (((((x1.w.tr x2.w).tr x3.w).tr x4.w).tr x5.w).tr x6.w).tr x7.w⟩
    rw [f_X8_make_153, h.1, if_pos (nI_le (by omega) (by omega)), e1, Option.bind_some, e2, Option.bind_some, n2, e3, Option.bind_some, n3, e4, Option.bind_some, g.1, pk_sub hB, e5, Option.bind_some, e6, Option.bind_some, e7, Option.bind_some, r8.1]
  | succ m ih =>
    intro k n τ ys o hk hn h g hB hc h10
    obtain ⟨i, rfl⟩ : ∃ i, n = i + 1 := ⟨n - 1, by omega⟩
    have hok := wf_f hw (show k < fs.length by omega)
    have z1 := (ok_sz hok).1
    have hd := fs_drop (show k < fs.length by omega)
    have h10k : τ.2 10 k = nI o := by
      have := h10 0 (by omega)
      rw [hd, Nat.add_zero] at this
      exact this
    obtain ⟨τ1, e1, r1, x1, y1⟩ := m_cen1 g (show k ≤ 20 by omega) hok (h.2 k (by omega)) h10k (by omega) (fun q => f_X8_make_153 i q (nI B) (nI k + 1))
    obtain ⟨τ2, e2, r2, x2⟩ := ih (k + 1) i τ1 _ (o + (locB (fs.getD k ([], []))).length) (by omega) (by omega) (h.w x1) r1 (by rw [List.length_append]; omega) (by rw [List.length_append, cen_len]; omega) (fun j hj => by
      have := h10 (j + 1) (by omega)
      rw [hd] at this
      rw [y1, show k + 1 + j = k + (j + 1) by omega, this]
      rfl)
    refine ⟨τ2, ?_, ?_, x1.tr x2⟩
    · rw [f_X8_make_153, h.1, if_neg (nI_ge (by omega) (by omega)), e1, nI_1, e2, hd, cens, ← List.append_assoc]
    · rw [hd, cens, ← List.append_assoc]
      exact r2
theorem m_make {τ : SM} {rd tp ou : List Int32} {fs : FL} (h : RM τ (rd, tp, ou, fs)) : ∃ τ', f_X8_make τ = some (nI (outB fs).length, τ') ∧ RM τ' (rd, tp, outB fs, fs) := by
  have hw := h.wf
  have h20 := hw.1
  have h6 := hw.2.2.1
  have hl1 := locs_len fs (wf_sz hw)
  have hl2 := cens_len fs 0 (wf_sz hw)
  have g0 : ouM (SMi (SMi τ 0 0) 2 0) [] := ⟨rfl, fun i hi => absurd hi (Nat.not_lt_zero i)⟩
  have f0 : filesM (SMi (SMi τ 0 0) 2 0) fs := h.fi
  obtain ⟨τ1, e1, r1, x1, o1, -⟩ := m_locs hw fs.length 0 fu _ [] (by omega) (by unfold fu; omega) f0 g0 (by rw [List.drop_zero]; show 0 + _ ≤ _; omega)
  rw [List.drop_zero, List.nil_append] at e1 r1
  rw [List.drop_zero] at o1
  obtain ⟨τ2, e2, r2, x2⟩ := m_cens hw (B := (locs fs).length) fs.length 0 fu τ1 (locs fs) 0 (by omega) (by unfold fu; omega) (f0.w x1) r1 (Nat.le_refl _) (by omega) (fun i hi => by rw [List.drop_zero]; exact o1 i hi)
  rw [List.drop_zero, List.length_append, Nat.add_sub_cancel_left, List.append_assoc] at r2
  rw [List.drop_zero, List.length_append (as := locs fs) (bs := cens 0 fs), Nat.add_sub_cancel_left, List.append_assoc] at e2
  have xx := x1.tr x2
  have ho := out_len hw
  refine ⟨τ2, e1.trans e2, ?_⟩
  obtain ⟨⟨w1, w2, w3, w4, w5, w6, w7⟩, a0, a1, a2, a3, a4, a5⟩ := h
  refine ⟨⟨w1, w2, (show (outB fs).length ≤ 9000 by omega), w4, w5, w6, out_byte hw⟩, ⟨a0.1, ?_⟩, ?_, ⟨a2.1, ?_⟩, r2.1, ⟨(show (outB fs).length ≤ 9000 by omega), r2.2⟩, f0.w xx⟩
  · rw [xx.2 0 (by decide) (by decide) (by decide)]; exact a0.2
  · rw [xx.1 1 (by decide) (by decide)]; exact a1
  · rw [xx.2 1 (by decide) (by decide) (by decide)]; exact a2.2
