/-! ===== PURE: save, on both sides ===== -/
section SAV
variable {rd xs ou : List Int32} {fs : FL}
theorem svX_w {t : Nat} {b : List Int32} (h : whA xs t = some b) : svX xs fs t = svA fs (sl xs (t + 30) (nsA xs t)) b := by
  unfold svX
  rw [h, Option.bind_some]
theorem svX_n {t : Nat} (h : whA xs t = none) : svX xs fs t = none := by
  unfold svX
  rw [h]; rfl
theorem d_saveFrom {σ : SD} (h : RD pkS σ (rd, xs, ou, fs)) {t : Nat} (ht : t ≤ 9000) : ∃ σ', f_X7_saveFrom σ (nI t) = some (if (svX xs fs t).isSome = true then nI (t + 30 + nsA xs t + pkA xs t) else -1, σ') ∧ RD pkS σ' (rd, xs, ou, (svX xs fs t).getD fs) := by
  have hw := h.wf
  have h20 := hw.1
  have hb := h.b1
  have h9 := h.t.le
  obtain ⟨σ1, e1, x1, u1, b1⟩ := d_wholeAt h ht
  have h1 : RD pkS σ1 (rd, xs, ou, fs) := h.rdr x1 u1
  have hW := f_X7_saveFrom.eq_1 σ (nI t)
  rw [e1, Option.bind_some] at hW
  cases hwh : whA xs t with
  | none =>
    rw [hwh, if_pos (show b2i (Option.isSome (none : Option (List Int32))) = 0 from rfl)] at hW
    rw [svX_n hwh]
    exact ⟨σ1, hW, h1⟩
  | some b =>
    obtain ⟨g1, g2, g3⟩ := b1 b hwh
    obtain ⟨w1, w2, w3⟩ := whA_t hwh
    obtain ⟨v1, v2, v3, v4, v5⟩ := hdA_t w1
    obtain ⟨n1, n2, n3, n4⟩ := nameAt_u v3
    have hok := wh_ok hb hwh
    have b15 : b.length ≤ 1500 := hok.2.2.2.1
    have n30 : nI t + 30 = nI (t + 30) := nI_add t 30
    have hl : f_X5_lookUp σ1 1 (nI (t + 30)) (nI (nsA xs t)) = some (lk fs (sl xs (t + 30) (nsA xs t)), σ1) := d_lookUp h1.fi hw h1.t n3
    have hr := d_hasRoom h1.fi hw (lk fs (sl xs (t + 30) (nsA xs t))) (n := b.length) (by omega)
    rw [hwh, if_neg (show ¬ b2i (Option.isSome (some b)) = 0 by show ¬ b2i true = 0; decide)] at hW
    unfold f_X3_nameSize f_X3_unpacked at hW
    rw [Option.bind_some, Option.bind_some] at hW
    have hW2 : f_X7_saveFrom σ (nI t) = (if (4 : Nat) < 25 then ((f_X5_lookUp σ1 1 (nI t + 30) (σ1.1 14 0)).bind fun q49 => (f_X4_size q49.2 4).bind fun q62 => (f_X5_hasRoom q62.2 q49.1 q62.1).bind fun q65 => if q65.1 = 0 then (some ((-1), q65.2)) else ((f_X5_takeOut q65.2 q49.1).bind fun q79 => (f_X4_size q79 4).bind fun q97 => (f_X5_put q97.2 1 (nI t + 30) (σ1.1 14 0) 4 0 q97.1).bind fun q100 => (f_X3_packedSize q100 ).bind fun q110 => some (((nI t + 30) + (σ1.1 14 0)) + q110.1, q110.2))) else none) := hW
    rw [if_pos (by decide), g2, n30, hl, Option.bind_some, r_size g1, Option.bind_some, hr, Option.bind_some] at hW2
    rw [svX_w hwh]
    have put : ∀ (σ2 : SD) (gs : FL), exS σ1 σ2 → filesD pkS σ2 gs → wfF gs → gs.length < 20 → tot gs + b.length ≤ 6000 → wfF (gs ++ [(sl xs (t + 30) (nsA xs t), b)]) → f_X5_takeOut σ1 (lk fs (sl xs (t + 30) (nsA xs t))) = some σ2 → ∃ σ', ((f_X5_takeOut σ1 (lk fs (sl xs (t + 30) (nsA xs t)))).bind fun q79 => (f_X4_size q79 4).bind fun q97 => (f_X5_put q97.2 1 (nI (t + 30)) (nI (nsA xs t)) 4 0 q97.1).bind fun q100 => (f_X3_packedSize q100 ).bind fun q110 => some ((nI (t + 30) + (nI (nsA xs t))) + q110.1, q110.2)) = some (nI (t + 30 + nsA xs t + pkA xs t), σ') ∧ RD pkS σ' (rd, xs, ou, gs ++ [(sl xs (t + 30) (nsA xs t), b)]) := by
      intro σ2 gs y1 y2 y3 y4 y5 y6 y7
      have t2 : rowD σ2 1 xs := h1.t.exS y1 (by decide)
      have u2 : rowD σ2 4 b := g1.exS y1 (by decide)
      obtain ⟨σ3, e3, f3, x3⟩ := d_put y2 y3 (r := 1) (q := 4) (by decide) (by decide) t2 u2 (a := t + 30) (n := nsA xs t) (b := 0) (m := b.length) n3 n2 (by omega) y4 y5
      rw [List.drop_zero, List.take_length] at f3
      refine ⟨σ3, ?_, h1.shelf (y1.tr x3) y6 f3⟩
      unfold f_X3_packedSize
      have hp3 : σ3.2.1 0 = lN (pkA xs t) := by rw [x3.2.1, y1.2.1]; exact g3
      rw [y7, Option.bind_some, r_size u2, Option.bind_some, show f_X5_put σ2 1 (nI (t + 30)) (nI (nsA xs t)) 4 0 (nI b.length) = _ from e3, Option.bind_some, Option.bind_some, hp3, lN_i, nI_add, nI_add]
    rcases lk_spec fs (sl xs (t + 30) (nsA xs t)) with ⟨q1, q2⟩ | ⟨i, hi, q1, q2⟩
    · have hF : isF fs.length (lk fs (sl xs (t + 30) (nsA xs t))) = false := by rw [q1]; exact isF_neg (by decide)
      unfold svA
      rw [hF, if_neg (show ¬ false = true by decide)] at hW2 ⊢
      by_cases c : fs.length < 20 ∧ tot fs + b.length ≤ 6000
      · rw [if_pos c]
        obtain ⟨σ', p1, p2⟩ := put σ1 fs exS.rf h1.fi hw c.1 c.2 (wf_add hw hok c.1 c.2 q2) (d_takeOutN h1.fi hw hF)
        refine ⟨σ', ?_, p2⟩
        rw [hW2, decide_eq_true c, if_neg (show ¬ b2i true = 0 by decide), p1]; rfl
      · rw [if_neg c]
        refine ⟨σ1, ?_, h1⟩
        rw [hW2, decide_eq_false c, if_pos (show b2i false = 0 from rfl)]; rfl
    · have hF : isF fs.length (lk fs (sl xs (t + 30) (nsA xs t))) = true := by rw [q1, isF_n (by omega), decide_eq_true hi]
      have hN : (lk fs (sl xs (t + 30) (nsA xs t))).toInt.toNat = i := by rw [q1, nI_toInt (by omega), Int.toNat_natCast]
      unfold svA
      rw [hF, if_pos rfl, hN] at hW2 ⊢
      by_cases c : tot fs + b.length ≤ 6000 + (fby fs i).length
      · rw [if_pos c]
        obtain ⟨σ2, k1, k2, k3⟩ := d_takeOut h1.fi hw hi
        have ht2 := tot_erase hi
        have hsv : svA fs (sl xs (t + 30) (nsA xs t)) b = some (fs.eraseIdx i ++ [(sl xs (t + 30) (nsA xs t), b)]) := by
          unfold svA
          rw [hF, if_pos rfl, hN, if_pos c]
        obtain ⟨σ', p1, p2⟩ := put σ2 (fs.eraseIdx i) k3 k2 (wf_erase hw hi) (by rw [List.length_eraseIdx, if_pos hi]; omega) (by omega) (sv_ok hw hok hsv) (by rw [q1]; exact k1)
        refine ⟨σ', ?_, p2⟩
        rw [hW2, decide_eq_true c, if_neg (show ¬ b2i true = 0 by decide), p1]; rfl
      · rw [if_neg c]
        refine ⟨σ1, ?_, h1⟩
        rw [hW2, decide_eq_false c, if_pos (show b2i false = 0 from rfl)]; rfl
theorem svX_le {t : Nat} {gs : FL} (h : svX xs fs t = some gs) : t + 30 + nsA xs t + pkA xs t ≤ xs.length := by
  unfold svX at h
  rw [Option.bind_eq_some_iff] at h
  obtain ⟨b, h1, _⟩ := h
  exact (hdA_t (whA_t h1).1).2.2.2.1
theorem d_save_l : ∀ (m t n : Nat) (σ : SD) (fs : FL) (c : Nat), xs.length - t ≤ m → t ≤ xs.length → m < n → RD pkS σ (rd, xs, ou, fs) → ∃ σ', f_X7_save_4 n σ (nI c) (nI t) = some (nI (svF xs (m + 1) fs t c).2, σ') ∧ RD pkS σ' (rd, xs, ou, (svF xs (m + 1) fs t c).1) := by
  intro m
  induction m with
  | zero =>
    intro t n σ fs c hm ht hn h
    have h9 := h.t.le
    obtain ⟨i, rfl⟩ : ∃ i, n = i + 1 := ⟨n - 1, by omega⟩
    rw [svF, if_pos (by omega)]
    exact ⟨σ, by rw [f_X7_save_4, r_size h.t, Option.bind_some, if_pos (nI_le (by omega) (by omega))], h⟩
  | succ m ih =>
    intro t n σ fs c hm ht hn h
    have h9 := h.t.le
    obtain ⟨i, rfl⟩ : ∃ i, n = i + 1 := ⟨n - 1, by omega⟩
    by_cases ct : xs.length ≤ t
    · rw [svF, if_pos ct]
      exact ⟨σ, by rw [f_X7_save_4, r_size h.t, Option.bind_some, if_pos (nI_le (by omega) (by omega))], h⟩
    obtain ⟨σ1, e1, h1⟩ := d_saveFrom h (t := t) (by omega)
    rw [f_X7_save_4, r_size h.t, Option.bind_some, if_neg (nI_ge (by omega) (by omega)), e1, Option.bind_some, svF, if_neg ct]
    unfold f_X7_save_33
    cases hs : svX xs fs t with
    | none =>
      rw [hs] at h1
      rw [if_pos (show (if Option.isSome (none : Option FL) = true then nI (t + 30 + nsA xs t + pkA xs t) else -1) ≤ nI t from ?_)]
      · show ∃ σ', f_X7_save_4 i σ1 (nI c) (nI t + 1) = _ ∧ _
        rw [nI_1]
        exact ih (t + 1) i σ1 fs c (by omega) (by omega) (by omega) h1
      · show (-1 : Int32) ≤ nI t
        rw [Int32.le_iff_toInt_le, nI_toInt (by omega)]
        show (-1 : Int) ≤ _
        omega
    | some gs =>
      have hle := svX_le hs
      rw [hs] at h1
      rw [show (if Option.isSome (some gs) = true then nI (t + 30 + nsA xs t + pkA xs t) else -1) = nI (t + 30 + nsA xs t + pkA xs t) from rfl, if_neg (nI_ge (by omega) (by omega))]
      show ∃ σ', f_X7_save_4 i σ1 (nI c + 1) (nI (t + 30 + nsA xs t + pkA xs t) - 1 + 1) = _ ∧ _
      rw [nI_1, show (1 : Int32) = nI 1 from rfl, pk_sub (by omega), nI_add, show t + 30 + nsA xs t + pkA xs t - 1 + 1 = t + 30 + nsA xs t + pkA xs t by omega]
      exact ih (t + 30 + nsA xs t + pkA xs t) i σ1 gs (c + 1) (by omega) hle (by omega) h1
def savS (s : SP) : SP × Nat := ((s.1, s.2.1, s.2.2.1, (svF s.2.1 (s.2.1.length + 1) s.2.2.2 0 0).1), (svF s.2.1 (s.2.1.length + 1) s.2.2.2 0 0).2)
theorem d_save {σ : SD} (h : RD pkS σ (rd, xs, ou, fs)) : ∃ σ', f_X7_save σ = some (nI (savS (rd, xs, ou, fs)).2, σ') ∧ RD pkS σ' (savS (rd, xs, ou, fs)).1 := by
  have h9 := h.t.le
  unfold f_X7_save
  have e := d_save_l (rd := rd) (xs := xs) (ou := ou) xs.length 0 fu σ fs 0 (by omega) (by omega) (by unfold fu; omega) h
  exact e
end SAV
