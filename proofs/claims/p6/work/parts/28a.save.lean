/-! ===== PURE: save: a whole file at a place of the tape ===== -/
def nsA (xs : List Int32) (t : Nat) : Nat := num2 xs (t + 26)
def pkA (xs : List Int32) (t : Nat) : Nat := num4 xs (t + 18)
def hdA (xs : List Int32) (t : Nat) : Bool := sigAt xs t 3 4 && (hdOk xs (t + 4) && (nameAt xs (t + 30) (nsA xs t) && (decide (t + 30 + nsA xs t + pkA xs t ≤ xs.length) && szOk xs (t + 4))))
def whA (xs : List Int32) (t : Nat) : Option (List Int32) := if hdA xs t = true then (upH xs (t + 4) (t + 30 + nsA xs t)).bind fun b => if crcS b = nI (num4 xs (t + 14)) then some b else none else none
def svA (fs : FL) (nm b : List Int32) : Option FL := if isF fs.length (lk fs nm) = true then (if tot fs + b.length ≤ 6000 + (fby fs (lk fs nm).toInt.toNat).length then some (fs.eraseIdx (lk fs nm).toInt.toNat ++ [(nm, b)]) else none) else (if fs.length < 20 ∧ tot fs + b.length ≤ 6000 then some (fs ++ [(nm, b)]) else none)
def svX (xs : List Int32) (fs : FL) (t : Nat) : Option FL := (whA xs t).bind fun b => svA fs (sl xs (t + 30) (nsA xs t)) b
def svF (xs : List Int32) : Nat → FL → Nat → Nat → FL × Nat
  | 0, fs, _, c => (fs, c)
  | n + 1, fs, t, c => if xs.length ≤ t then (fs, c) else match svX xs fs t with
    | some gs => svF xs n gs (t + 30 + nsA xs t + pkA xs t) (c + 1)
    | none => svF xs n fs (t + 1) c
theorem hdA_t {xs : List Int32} {t : Nat} (h : hdA xs t = true) : sigAt xs t 3 4 = true ∧ hdOk xs (t + 4) = true ∧ nameAt xs (t + 30) (nsA xs t) = true ∧ t + 30 + nsA xs t + pkA xs t ≤ xs.length ∧ szOk xs (t + 4) = true := by
  unfold hdA at h
  rw [Bool.and_eq_true, Bool.and_eq_true, Bool.and_eq_true, Bool.and_eq_true] at h
  exact ⟨h.1, h.2.1, h.2.2.1, of_decide_eq_true h.2.2.2.1, h.2.2.2.2⟩
theorem nameAt_u {xs : List Int32} {a k : Nat} (h : nameAt xs a k = true) : 1 ≤ k ∧ k ≤ 30 ∧ a + k ≤ xs.length ∧ (sl xs a k).all nmB = true := by
  unfold nameAt at h
  rw [Bool.and_eq_true] at h
  have h1 := of_decide_eq_true h.1
  exact ⟨h1.1, h1.2.1, h1.2.2, h.2⟩
theorem whA_t {xs : List Int32} {t : Nat} {b : List Int32} (h : whA xs t = some b) : hdA xs t = true ∧ upH xs (t + 4) (t + 30 + nsA xs t) = some b ∧ crcS b = nI (num4 xs (t + 14)) := by
  unfold whA at h
  by_cases c : hdA xs t = true
  · rw [if_pos c, Option.bind_eq_some_iff] at h
    obtain ⟨o, h1, h2⟩ := h
    by_cases c2 : crcS o = nI (num4 xs (t + 14))
    · rw [if_pos c2] at h2
      rw [← Option.some.inj h2]
      exact ⟨c, h1, c2⟩
    · rw [if_neg c2] at h2; exact absurd h2 (by simp)
  · rw [if_neg c] at h; exact absurd h (by simp)
theorem wh_ok {xs : List Int32} (hb : ∀ x ∈ xs, byteP x) {t : Nat} {b : List Int32} (h : whA xs t = some b) : fileOk (sl xs (t + 30) (nsA xs t), b) := by
  obtain ⟨h1, h2, h3⟩ := whA_t h
  obtain ⟨g1, g2, g3, g4, g5⟩ := hdA_t h1
  obtain ⟨n1, n2, n3, n4⟩ := nameAt_u g3
  have hp : t + 30 + nsA xs t + num4 xs (t + 4 + 14) ≤ xs.length := by
    rw [show t + 4 + 14 = t + 18 by omega]; exact g4
  have hl := up_len g5 hp h2
  have hs := of_decide_eq_true g5
  have hnl : (sl xs (t + 30) (nsA xs t)).length = nsA xs t := slx_len n3
  refine ⟨by show 1 ≤ (sl xs _ _).length; omega, by show (sl xs _ _).length ≤ 30; omega, n4, by show b.length ≤ 1500; omega, up_byte hb h2⟩
theorem sv_ok {fs gs : FL} (hw : wfF fs) {nm b : List Int32} (hf : fileOk (nm, b)) (h : svA fs nm b = some gs) : wfF gs := by
  unfold svA at h
  have h20 := hw.1
  rcases lk_spec fs nm with ⟨q1, q2⟩ | ⟨i, hi, q1, q2⟩
  · rw [q1, show isF fs.length (-1) = false from isF_neg (by decide), if_neg (show ¬ false = true by decide)] at h
    by_cases c : fs.length < 20 ∧ tot fs + b.length ≤ 6000
    · rw [if_pos c] at h
      rw [← Option.some.inj h]
      exact wf_add hw hf c.1 c.2 q2
    · rw [if_neg c] at h; exact absurd h (by simp)
  · rw [q1, isF_n (by omega), decide_eq_true hi, if_pos rfl, nI_toInt (by omega), Int.toNat_natCast] at h
    by_cases c : tot fs + b.length ≤ 6000 + (fby fs i).length
    · rw [if_pos c] at h
      rw [← Option.some.inj h]
      have ht := tot_erase hi
      refine wf_add (wf_erase hw hi) hf (by rw [List.length_eraseIdx, if_pos hi]; omega) (by show tot (fs.eraseIdx i) + b.length ≤ 6000; omega) (fun j hj q => ?_)
      rw [List.length_eraseIdx, if_pos hi] at hj
      have e : fnm (fs.eraseIdx i) j = if j < i then fnm fs j else fnm fs (j + 1) := by
        unfold fnm
        rw [getD_erase]
        by_cases c2 : j < i
        · rw [if_pos c2, if_pos c2]
        · rw [if_neg c2, if_neg c2]
      rw [e] at q
      by_cases c2 : j < i
      · rw [if_pos c2] at q
        have := wf_nd hw (show j < fs.length by omega) hi (q.trans q2.symm)
        omega
      · rw [if_neg c2] at q
        have := wf_nd hw (show j + 1 < fs.length by omega) hi (q.trans q2.symm)
        omega
    · rw [if_neg c] at h; exact absurd h (by simp)
/-! the desk -/
/-- all but the reader's own is as it was -/
def exD (σ σ' : SD) : Prop := (∀ f i, f ≤ 5 → ¬ (f = 0 ∧ i = 4) → σ'.1 f i = σ.1 f i) ∧ (∀ a, a ≠ 4 → a < 25 → σ'.2.2.1 a = σ.2.2.1 a) ∧ σ'.2.2.2 = σ.2.2.2
theorem exD.rf {σ : SD} : exD σ σ := ⟨fun _ _ _ _ => rfl, fun _ _ _ => rfl, rfl⟩
theorem exD.tr {σ1 σ2 σ3 : SD} (h : exD σ1 σ2) (g : exD σ2 σ3) : exD σ1 σ3 := ⟨fun f i n m => (g.1 f i n m).trans (h.1 f i n m), fun a n m => (g.2.1 a n m).trans (h.2.1 a n m), g.2.2.trans h.2.2⟩
theorem exH.d {σ σ' : SD} (h : exH σ σ') : exD σ σ' := ⟨fun f i n _ => h.1 f i (by omega), fun a _ _ => by rw [h.2], by rw [h.2]⟩
theorem exR.d {σ σ' : SD} (h : exR σ σ' 4) : exD σ σ' := ⟨fun f i _ n => h.1 f i n, fun a n _ => h.2.2.1 a n, h.2.2.2⟩
theorem rowD.exD {σ σ' : SD} {q : Nat} {xs : List Int32} (h : rowD σ q xs) (e : exD σ σ') (hq : q ≠ 4) (hq2 : q < 25) : rowD σ' q xs := ⟨(e.1 0 q (by decide) (by omega)).trans h.1, h.2.1, fun i hi => by rw [e.2.1 q hq hq2]; exact h.2.2 i hi⟩
theorem filesD.exD {σ σ' : SD} {fs : FL} (h : filesD pkS σ fs) (hw : wfF fs) (e : exD σ σ') : filesD pkS σ' fs := by
  have h20 := hw.1
  obtain ⟨h1, h2, h3, h4, all, st, h5, h6, h7, h8⟩ := filesD_en.mp h
  refine filesD_en.mpr ⟨by rw [e.1 5 0 (by decide) (by omega)]; exact h1, by rw [e.2.2]; exact h2, by rw [e.2.2]; exact h3, fun k hk => (h4 k hk).elim fun xs hx => ⟨xs, hx.exD e (by omega) (by omega)⟩, all, st, h5.exD e (by decide) (by decide), h6, fun k hk => ?_, h8⟩
  rw [e.2.2]
  have hk2 := h2 k (by omega)
  refine (h7 k hk).ot ?_ ?_ ?_ ?_ ?_ ?_ (h7 k hk).2.2.2.2.2.1 rfl
  · rw [e.1 _ _ (by omega) (by omega)]
  · rw [e.1 _ _ (by omega) (by omega)]
  · rw [e.1 _ _ (by omega) (by omega)]
  · rw [e.1 _ _ (by omega) (by omega)]
  · rw [e.1 _ _ (by omega) (by omega)]
  · rw [e.2.1 _ (by omega) (by omega)]
theorem RD.rdr {σ σ' : SD} {rd tp ou : List Int32} {fs : FL} (h : RD pkS σ (rd, tp, ou, fs)) (e : exD σ σ') (g : ∃ xs, rowD σ' 4 xs) : RD pkS σ' (rd, tp, ou, fs) := by
  have hw := h.wf
  obtain ⟨w, a0, a1, a2, a3, a4⟩ := h
  exact ⟨w, a0.exD e (by decide) (by decide), a1.exD e (by decide) (by decide), a2.exD e (by decide) (by decide), g, a4.exD hw e⟩
theorem RD.u {σ : SD} {rd tp ou : List Int32} {fs : FL} (h : RD pkS σ (rd, tp, ou, fs)) : ∃ xs, rowD σ 4 xs := h.2.2.2.2.1
theorem d_sizesFit {σ : SD} {xs : List Int32} (hb : ∀ x ∈ xs, byteP x) {a : Nat} (H : hdr σ xs a) : f_X2_sizesFit σ = some (b2i (szOk xs a), σ) := by
  have L1 := num4_lt hb (a + 14)
  have L2 := num4_lt hb (a + 18)
  have L3 := num2_lt hb (a + 4)
  obtain ⟨h1, h2, h3, h4, h5⟩ := H
  unfold f_X2_sizesFit szOk
  rw [h1, h3, h4]
  have e15 : 0 < lg_cmp (lN (num4 xs (a + 18))) 1500 ↔ 1500 < num4 xs (a + 18) := by
    rw [lg_cmp_gt, show (1500 : Int64) = lN 1500 from rfl, pk_lLT (by decide) (by omega)]
  have e0 : nI (num2 xs (a + 4)) = 0 ↔ num2 xs (a + 4) = 0 := nI_eq (b := 0) (by omega) (by decide)
  have ee : lg_cmp (lN (num4 xs (a + 14))) (lN (num4 xs (a + 18))) = 0 ↔ num4 xs (a + 14) = num4 xs (a + 18) := by rw [lg_cmp_eq, pk_lEQ (by omega) (by omega)]
  by_cases c1 : 1500 < num4 xs (a + 18)
  · rw [if_pos (e15.mpr c1), decide_eq_false (by omega)]; rfl
  · rw [if_neg (fun q => c1 (e15.mp q))]
    by_cases c2 : num2 xs (a + 4) = 0
    · rw [if_pos (e0.mpr c2)]
      by_cases c3 : num4 xs (a + 14) = num4 xs (a + 18)
      · rw [if_pos (ee.mpr c3), decide_eq_true ⟨by omega, fun _ => c3⟩]; rfl
      · rw [if_neg (fun q => c3 (ee.mp q)), decide_eq_false (fun q => c3 (q.2 c2))]; rfl
    · rw [if_neg (fun q => c2 (e0.mp q)), decide_eq_true ⟨by omega, fun q => absurd q c2⟩]; rfl
theorem exR_hdr {σ σ' : SD} {xs : List Int32} {a : Nat} (h : exR σ σ' 4) (H : hdr σ xs a) : hdr σ' xs a := by
  unfold hdr at H ⊢
  rw [h.1 12 0 (by omega), h.1 13 0 (by omega), h.1 14 0 (by omega), h.2.1]
  exact H
theorem d_wholeAt {σ : SD} {rd xs ou : List Int32} {fs : FL} (h : RD pkS σ (rd, xs, ou, fs)) {t : Nat} (ht : t ≤ 9000) : ∃ σ', f_X3_wholeAt σ 1 (nI t) = some (b2i (whA xs t).isSome, σ') ∧ exD σ σ' ∧ (∃ ys, rowD σ' 4 ys) ∧ ∀ b, whA xs t = some b → rowD σ' 4 b ∧ σ'.1 14 0 = nI (nsA xs t) ∧ σ'.2.1 0 = lN (pkA xs t) := by
  have hb := h.b1
  have h9 := h.t.le
  have hno : hdA xs t = false → whA xs t = none := fun q => by
    unfold whA
    rw [q, if_neg (show ¬ false = true by decide)]
  have fin : ∀ σ', f_X3_wholeAt σ 1 (nI t) = some (0, σ') → exD σ σ' → (∃ ys, rowD σ' 4 ys) → whA xs t = none → ∃ σ', f_X3_wholeAt σ 1 (nI t) = some (b2i (whA xs t).isSome, σ') ∧ exD σ σ' ∧ (∃ ys, rowD σ' 4 ys) ∧ ∀ b, whA xs t = some b → rowD σ' 4 b ∧ σ'.1 14 0 = nI (nsA xs t) ∧ σ'.2.1 0 = lN (pkA xs t) := by
    intro σ' e x y z
    exact ⟨σ', by rw [z]; exact e, x, y, fun b q => by rw [z] at q; exact absurd q (by simp)⟩
  have e3 : f_X4_hasSignature σ 1 (nI t) 3 4 = _ := r_sig h.t t 3 4
  have n4 : nI t + 4 = nI (t + 4) := nI_add t 4
  have n30 : nI t + 30 = nI (t + 30) := nI_add t 30
  obtain ⟨σ1, e1, x1, H1⟩ := d_parse h.t hb (a := t + 4) (by omega)
  have hW := f_X3_wholeAt.eq_1 σ 1 (nI t)
  rw [e3, Option.bind_some, n4, e1, Option.bind_some] at hW
  by_cases c1 : sigAt xs t 3 4 = true
  · rw [c1, if_neg (show ¬ b2i true = 0 by decide)] at hW
    by_cases c2 : hdOk xs (t + 4) = true
    · have H := H1 c2
      have hns : σ1.1 14 0 = nI (nsA xs t) := by rw [H.2.2.2.2]; unfold nsA; rw [show t + 4 + 22 = t + 26 by omega]
      have hpk : σ1.2.1 0 = lN (pkA xs t) := by rw [H.2.2.1]; unfold pkA; rw [show t + 4 + 14 = t + 18 by omega]
      have Ln : nsA xs t < 65536 := num2_lt hb _
      have Lp : pkA xs t < 4294967296 := num4_lt hb _
      have t1 : rowD σ1 1 xs := h.t.exH x1
      have u1 : ∃ ys, rowD σ1 4 ys := h.u.elim fun ys hy => ⟨ys, hy.exH x1⟩
      have hnm : f_X4_isName σ1 1 (nI (t + 30)) (nI (nsA xs t)) = _ := r_isName t1 (a := t + 30) (k := nsA xs t) (by omega) (by omega)
      rw [c2, if_neg (show ¬ b2i true = 0 by decide), n30, hns, hnm, Option.bind_some] at hW
      by_cases c3 : nameAt xs (t + 30) (nsA xs t) = true
      · obtain ⟨q1, q2, q3, q4⟩ := nameAt_u c3
        have hsz : f_X4_size σ1 1 = _ := r_size t1
        rw [c3, if_neg (show ¬ b2i true = 0 by decide), hsz, Option.bind_some, hpk, nI_add, pk_sub (by omega), nI_l (by omega)] at hW
        have ec : 0 < lg_cmp (lN (pkA xs t)) (lN (xs.length - (t + 30 + nsA xs t))) ↔ ¬ t + 30 + nsA xs t + pkA xs t ≤ xs.length := by
          rw [lg_cmp_gt, pk_lLT (by omega) (by omega)]
          omega
        by_cases c4 : t + 30 + nsA xs t + pkA xs t ≤ xs.length
        · rw [if_neg (fun q => ec.mp q c4), d_sizesFit hb H, Option.bind_some] at hW
          by_cases c5 : szOk xs (t + 4) = true
          · have hA : hdA xs t = true := by
              unfold hdA
              rw [c1, c2, c3, c5, decide_eq_true c4]; rfl
            have hp : t + 30 + nsA xs t + num4 xs (t + 4 + 14) ≤ xs.length := by
              rw [show t + 4 + 14 = t + 18 by omega]; exact c4
            obtain ⟨σ2, e2, x2, u2, b2⟩ := d_unpack t1 hb u1 H c5 hp
            rw [c5, if_neg (show ¬ b2i true = 0 by decide), e2, Option.bind_some] at hW
            have X2 : exD σ σ2 := x1.d.tr x2.d
            cases hu : upH xs (t + 4) (t + 30 + nsA xs t) with
            | none =>
              rw [hu, if_pos (show b2i (Option.isSome (none : Option (List Int32))) = 0 from rfl)] at hW
              refine fin σ2 hW X2 u2 ?_
              unfold whA
              rw [if_pos hA, hu]; rfl
            | some b =>
              have hrow := b2 b hu
              have H2 : hdr σ2 xs (t + 4) := exR_hdr x2 H
              rw [hu, if_neg (show ¬ b2i (Option.isSome (some b)) = 0 by show ¬ b2i true = 0; decide), d_crcAgrees hrow H2.2.1, Option.bind_some, show t + 4 + 10 = t + 14 by omega] at hW
              by_cases c6 : crcS b = nI (num4 xs (t + 14))
              · have hwh : whA xs t = some b := by
                  unfold whA
                  rw [if_pos hA, hu, Option.bind_some, if_pos c6]
                refine ⟨σ2, ?_, X2, u2, fun b' q => ?_⟩
                · rw [hW, decide_eq_true c6, if_neg (show ¬ b2i true = 0 by decide), hwh]; rfl
                · rw [hwh] at q
                  rw [← Option.some.inj q]
                  exact ⟨hrow, by rw [x2.1 14 0 (by omega)]; exact hns, by rw [x2.2.1]; exact hpk⟩
              · rw [decide_eq_false c6, if_pos (show b2i false = 0 from rfl)] at hW
                refine fin σ2 hW X2 u2 ?_
                unfold whA
                rw [if_pos hA, hu, Option.bind_some, if_neg c6]
          · have c5' : szOk xs (t + 4) = false := by simpa using c5
            rw [c5', if_pos (show b2i false = 0 from rfl)] at hW
            exact fin σ1 hW x1.d u1 (hno (by unfold hdA; rw [c5', Bool.and_false, Bool.and_false, Bool.and_false, Bool.and_false]))
        · rw [if_pos (ec.mpr c4)] at hW
          exact fin σ1 hW x1.d u1 (hno (by unfold hdA; rw [decide_eq_false c4, Bool.false_and, Bool.and_false, Bool.and_false, Bool.and_false]))
      · have c3' : nameAt xs (t + 30) (nsA xs t) = false := by simpa using c3
        rw [c3', if_pos (show b2i false = 0 from rfl)] at hW
        exact fin σ1 hW x1.d u1 (hno (by unfold hdA; rw [c3', Bool.false_and, Bool.and_false, Bool.and_false]))
    · have c2' : hdOk xs (t + 4) = false := by simpa using c2
      have u1 : ∃ ys, rowD σ1 4 ys := h.u.elim fun ys hy => ⟨ys, hy.exH x1⟩
      rw [c2', if_pos (show b2i false = 0 from rfl)] at hW
      exact fin σ1 hW x1.d u1 (hno (by unfold hdA; rw [c2', Bool.false_and, Bool.and_false]))
  · have c1' : sigAt xs t 3 4 = false := by simpa using c1
    rw [c1', if_pos (show b2i false = 0 from rfl)] at hW
    exact fin σ hW exD.rf h.u (hno (by unfold hdA; rw [c1', Bool.false_and]))
