/-! ===== PURE: the desk's make ===== -/
theorem d_central {σ : SD} {all ys : List Int32} {e s : Nat} {f : List Int32 × List Int32} (h : rowD σ 2 ys) (g : enD σ all e f s) (hz : fSz f) (o : Nat) (hc : ys.length + 76 ≤ 9000) : ∃ σ', f_X6_writeCentral σ 2 e (nI o) = some σ' ∧ rowD σ' 2 (ys ++ cenB f o) ∧ exR σ σ' 2 := by
  have z1 := hz.1
  have hcap : capD 2 = 9000 := rfl
  obtain ⟨σ1, e1, r1, x1⟩ := r_pushSig h 1 2 (by rw [hcap]; omega)
  obtain ⟨σ2, e2, r2, x2⟩ := w_two r1 20 (by simp only [List.length_append, sg_len, le2_len, le4_len]; omega)
  obtain ⟨σ3, e3, r3, x3⟩ := d_shared r2 ((g.oR x1).oR x2) hz (by simp only [List.length_append, sg_len, le2_len]; omega)
  obtain ⟨σ4, e4, r4, x4⟩ := w_two r3 0 (by simp only [List.length_append, sg_len, le2_len, le4_len, sh_len]; omega)
  obtain ⟨σ5, e5, r5, x5⟩ := w_two r4 0 (by simp only [List.length_append, sg_len, le2_len, le4_len, sh_len]; omega)
  obtain ⟨σ6, e6, r6, x6⟩ := w_two r5 0 (by simp only [List.length_append, sg_len, le2_len, le4_len, sh_len]; omega)
  obtain ⟨σ7, e7, r7, x7⟩ := w_four r6 0 (by simp only [List.length_append, sg_len, le2_len, le4_len, sh_len]; omega)
  obtain ⟨σ8, e8, r8, x8⟩ := w_four r7 (nI o) (by simp only [List.length_append, sg_len, le2_len, le4_len, sh_len]; omega)
  have g8 := (((((((g.oR x1).oR x2).oR x3).oR x4).oR x5).oR x6).oR x7).oR x8
  obtain ⟨σ9, e9, r9, x9⟩ := r_append r8 g8.1 (a := 0) (n := f.1.length) (by omega) (by rw [hcap]; simp only [List.length_append, sg_len, le2_len, le4_len, sh_len]; omega)
  refine ⟨σ9, ?_, ?_, (((((((x1.tr x2).tr x3).tr x4).tr x5).tr x6).tr x7).tr x8).tr x9⟩
  · unfold f_X6_writeCentral
    rw [e1, Option.bind_some, e2, Option.bind_some, e3, Option.bind_some, e4, Option.bind_some, e5, Option.bind_some, e6, Option.bind_some, e7, Option.bind_some, e8, Option.bind_some, r_size g8.1, Option.bind_some, show f_X4_append σ8 2 (5 + e) 0 (nI f.1.length) = _ from e9, Option.bind_some]
  · rw [List.drop_zero, List.take_length, show (1 : Int32) &&& 255 = 1 from rfl, show (2 : Int32) &&& 255 = 2 from rfl] at r9
    simpa only [cenB, List.append_assoc] using r9
theorem d_cens {fs : FL} (hw : wfF fs) : ∀ (m k n : Nat) (σ : SD) (ys : List Int32) (o : Nat), k + m = fs.length → m < n → filesD pkS σ fs → rowD σ 2 ys → ys.length + 76 * (fs.length - k) ≤ 9000 → ∃ σ', f_X5_writeCentrals_4 2 n σ (nI o) (nI k) = some σ' ∧ rowD σ' 2 (ys ++ cens o (fs.drop k)) ∧ exR σ σ' 2 := by
  have h20 := hw.1
  intro m
  induction m with
  | zero =>
    intro k n σ ys o hk hn h g hc
    obtain ⟨i, rfl⟩ : ∃ i, n = i + 1 := ⟨n - 1, by omega⟩
    refine ⟨σ, by rw [f_X5_writeCentrals_4, h.1, if_pos (nI_le (by omega) (by omega))], ?_, exR.rf⟩
    rw [List.drop_of_length_le (by omega), cens, List.append_nil]
    exact g
  | succ m ih =>
    intro k n σ ys o hk hn h g hc
    obtain ⟨i, rfl⟩ : ∃ i, n = i + 1 := ⟨n - 1, by omega⟩
    have hz := ok_sz (wf_f hw (show k < fs.length by omega))
    have z1 := hz.1
    obtain ⟨h1, h2, h3, h4, all, st, h5, h6, h7, h8⟩ := filesD_en.mp h
    have hen := h7 k (by omega)
    obtain ⟨σ1, e1, r1, x1⟩ := d_central g hen hz o (by omega)
    have hen1 := hen.oR x1
    have hf1 : filesD pkS σ1 fs := h.ot x1 (Or.inr (Or.inr (Or.inl rfl)))
    obtain ⟨σ2, e2, r2, x2⟩ := ih (k + 1) i σ1 _ (o + (locB (fs.getD k ([], []))).length) (by omega) (by omega) hf1 r1 (by rw [List.length_append, cen_len]; omega)
    refine ⟨σ2, ?_, ?_, x1.tr x2⟩
    · rw [f_X5_writeCentrals_4, h1, if_neg (nI_ge (by omega) (by omega)), if_pos (inb_t (by omega) (by omega)), nI_clamp (by omega), if_pos (h2 k (by omega)), e1, Option.bind_some, if_pos (inb_t (by omega) (by omega)), x1.2.2.2, if_pos (h2 k (by omega))]
      unfold f_X1_localSize
      rw [r_size hen1.1, Option.bind_some, Option.bind_some, hen1.2.2.2.1, show (30 : Int32) = nI 30 from rfl, nI_add, nI_add, nI_add, nI_1, ← loc_len, e2]
    · rw [fs_drop (show k < fs.length by omega), cens, ← List.append_assoc]
      exact r2
theorem d_make {σ : SD} {rd tp ou : List Int32} {fs : FL} (h : RD pkS σ (rd, tp, ou, fs)) : ∃ σ', f_X7_make σ = some (nI (outB fs).length, σ') ∧ RD pkS σ' (rd, tp, outB fs, fs) := by
  have hw := h.wf
  have h20 := hw.1
  have h6 := hw.2.2.1
  have hl1 := locs_len fs (wf_sz hw)
  have hl2 := cens_len fs 0 (wf_sz hw)
  have hcap : capD 2 = 9000 := rfl
  obtain ⟨σ1, e1, r1, x1⟩ := r_short0 h.o
  have f1 : filesD pkS σ1 fs := h.fi.ot x1 (Or.inr (Or.inr (Or.inl rfl)))
  obtain ⟨σ2, e2, r2, x2⟩ := d_locs hw fs.length 0 fu σ1 [] (by omega) (by unfold fu; omega) f1 r1 (by rw [List.drop_zero]; show 0 + _ ≤ _; omega)
  rw [List.drop_zero, List.nil_append] at r2
  have f2 : filesD pkS σ2 fs := f1.ot x2 (Or.inr (Or.inr (Or.inl rfl)))
  obtain ⟨σ3, e3, r3, x3⟩ := d_cens hw fs.length 0 fu σ2 (locs fs) 0 (by omega) (by unfold fu; omega) f2 r2 (by omega)
  rw [List.drop_zero] at r3
  have f3 : filesD pkS σ3 fs := f2.ot x3 (Or.inr (Or.inr (Or.inl rfl)))
  have hl3 : (locs fs ++ cens 0 fs).length = (locs fs).length + (cens 0 fs).length := List.length_append
  obtain ⟨σ4, e4, r4, x4⟩ := r_pushSig r3 5 6 (by rw [hcap]; omega)
  obtain ⟨σ5, e5, r5, x5⟩ := w_two r4 0 (by simp only [List.length_append, sg_len, le2_len, le4_len]; omega)
  obtain ⟨σ6, e6, r6, x6⟩ := w_two r5 0 (by simp only [List.length_append, sg_len, le2_len, le4_len]; omega)
  obtain ⟨σ7, e7, r7, x7⟩ := w_two r6 (nI fs.length) (by simp only [List.length_append, sg_len, le2_len, le4_len]; omega)
  obtain ⟨σ8, e8, r8, x8⟩ := w_two r7 (nI fs.length) (by simp only [List.length_append, sg_len, le2_len, le4_len]; omega)
  obtain ⟨σ9, e9, r9, x9⟩ := w_four r8 (nI (cens 0 fs).length) (by simp only [List.length_append, sg_len, le2_len, le4_len]; omega)
  obtain ⟨σa, ea, ra, xa⟩ := w_four r9 (nI (locs fs).length) (by simp only [List.length_append, sg_len, le2_len, le4_len]; omega)
  obtain ⟨σb, eb, rb, xb⟩ := w_two ra 0 (by simp only [List.length_append, sg_len, le2_len, le4_len]; omega)
  have hrow : rowD σb 2 (outB fs) := by
    rw [show (5 : Int32) &&& 255 = 5 from rfl, show (6 : Int32) &&& 255 = 6 from rfl] at rb
    simpa only [outB, eocB, List.append_assoc] using rb
  have xx := (((((((((x1.tr x2).tr x3).tr x4).tr x5).tr x6).tr x7).tr x8).tr x9).tr xa).tr xb
  refine ⟨σb, ?_, ?_⟩
  · unfold f_X7_make f_X5_writeLocals f_X5_writeCentrals f_X5_count f_X6_writeEnd
    rw [e1, Option.bind_some, show f_X5_writeLocals_2 2 fu σ1 0 = _ from e2, Option.bind_some, r_size r2, Option.bind_some, show f_X5_writeCentrals_4 2 fu σ2 0 0 = _ from e3, Option.bind_some, r_size r3, Option.bind_some, Option.bind_some, f3.1, hl3, pk_sub (by omega), Nat.add_sub_cancel_left, e4, Option.bind_some, e5, Option.bind_some, e6, Option.bind_some, e7, Option.bind_some, e8, Option.bind_some, e9, Option.bind_some, ea, Option.bind_some, eb, Option.bind_some, Option.bind_some, r_size hrow, Option.bind_some]
  · obtain ⟨⟨w1, w2, w3, w4, w5, w6, w7⟩, a0, a1, a2, ⟨xs, a3⟩, a4⟩ := h
    have ho := out_len hw
    exact ⟨⟨w1, w2, (show (outB fs).length ≤ 9000 by omega), w4, w5, w6, out_byte hw⟩, a0.ot xx (by decide), a1.ot xx (by decide), hrow, ⟨xs, a3.ot xx (by decide)⟩, a4.ot xx (Or.inr (Or.inr (Or.inl rfl)))⟩
