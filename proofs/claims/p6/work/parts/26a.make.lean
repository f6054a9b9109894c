/-! ===== PURE: the bytes of an archive; the desk's make ===== -/
def fctB (f : List Int32 × List Int32) : List Int32 := le2 0 ++ (le2 (mtd f.2) ++ (le2 0 ++ (le2 33 ++ (le4 (crcS f.2) ++ (le4 (nI (pkS f.2)) ++ (le4 (nI f.2.length) ++ le2 (nI f.1.length)))))))
def shB (f : List Int32 × List Int32) : List Int32 := le2 20 ++ (fctB f ++ le2 0)
def datB (b : List Int32) : List Int32 := if b.length ≤ (foldB b).length then b else foldB b
def locB (f : List Int32 × List Int32) : List Int32 := [80, 75, 3, 4] ++ (shB f ++ (f.1 ++ datB f.2))
def cenB (f : List Int32 × List Int32) (o : Nat) : List Int32 := [80, 75, 1, 2] ++ (le2 20 ++ (shB f ++ (le2 0 ++ (le2 0 ++ (le2 0 ++ (le4 0 ++ (le4 (nI o) ++ f.1)))))))
def eocB (n s o : Nat) : List Int32 := [80, 75, 5, 6] ++ (le2 0 ++ (le2 0 ++ (le2 (nI n) ++ (le2 (nI n) ++ (le4 (nI s) ++ (le4 (nI o) ++ le2 0))))))
def locs : FL → List Int32
  | [] => []
  | f :: fs => locB f ++ locs fs
def cens : Nat → FL → List Int32
  | _, [] => []
  | o, f :: fs => cenB f o ++ cens (o + (locB f).length) fs
def outB (fs : FL) : List Int32 := locs fs ++ (cens 0 fs ++ eocB fs.length (cens 0 fs).length (locs fs).length)
theorem le2_len (x : Int32) : (le2 x).length = 2 := rfl
theorem le4_len (x : Int32) : (le4 x).length = 4 := rfl
theorem sg_len (a b c d : Int32) : [a, b, c, d].length = 4 := rfl
theorem fct_len (f : List Int32 × List Int32) : (fctB f).length = 22 := by simp only [fctB, List.length_append, le2_len, le4_len]
theorem sh_len (f : List Int32 × List Int32) : (shB f).length = 26 := by simp only [shB, List.length_append, le2_len, fct_len]
theorem dat_len (b : List Int32) : (datB b).length = pkS b := by
  unfold datB pkS
  by_cases c : b.length ≤ (foldB b).length
  · rw [if_pos c, Nat.min_eq_left c]
  · rw [if_neg c, Nat.min_eq_right (by omega)]
theorem loc_len (f : List Int32 × List Int32) : (locB f).length = 30 + f.1.length + pkS f.2 := by
  simp only [locB, List.length_append, sg_len, sh_len, dat_len]
  omega
theorem cen_len (f : List Int32 × List Int32) (o : Nat) : (cenB f o).length = 46 + f.1.length := by
  simp only [cenB, List.length_append, sg_len, sh_len, le2_len, le4_len]
  omega
theorem eoc_len (n s o : Nat) : (eocB n s o).length = 22 := by simp only [eocB, List.length_append, sg_len, le2_len, le4_len]
theorem pkS_le (b : List Int32) : pkS b ≤ b.length := Nat.min_le_left _ _
theorem locs_len : ∀ fs : FL, (∀ f ∈ fs, fSz f) → (locs fs).length ≤ 60 * fs.length + tot fs := by
  intro fs
  induction fs with
  | nil => intro _; exact Nat.zero_le _
  | cons f fs ih =>
    intro h
    have h1 := (h f List.mem_cons_self).1
    have h2 := pkS_le f.2
    have h3 := ih (fun g hg => h g (List.mem_cons_of_mem _ hg))
    rw [locs, List.length_append, loc_len, tot_cons, List.length_cons]
    omega
theorem cens_len : ∀ (fs : FL) (o : Nat), (∀ f ∈ fs, fSz f) → (cens o fs).length ≤ 76 * fs.length := by
  intro fs
  induction fs with
  | nil => intro o _; exact Nat.zero_le _
  | cons f fs ih =>
    intro o h
    have h1 := (h f List.mem_cons_self).1
    have h3 := ih (o + (locB f).length) (fun g hg => h g (List.mem_cons_of_mem _ hg))
    rw [cens, List.length_append, cen_len, List.length_cons]
    omega
theorem wf_sz {fs : FL} (h : wfF fs) : ∀ f ∈ fs, fSz f := fun f hf => ok_sz (h.2.1 f hf)
theorem le2_byte (x : Int32) : ∀ y ∈ le2 x, byteP y := by
  intro y hy
  simp only [le2, List.mem_cons, List.not_mem_nil, or_false] at hy
  rcases hy with rfl | rfl <;> exact byte_and _
theorem le4_byte (x : Int32) : ∀ y ∈ le4 x, byteP y := by
  intro y hy
  simp only [le4, List.mem_cons, List.not_mem_nil, or_false] at hy
  rcases hy with rfl | rfl | rfl | rfl <;> exact byte_and _
theorem sg_byte {c d : Nat} (hc : c < 256) (hd : d < 256) : ∀ y ∈ [80, 75, nI c, nI d], byteP y := by
  intro y hy
  simp only [List.mem_cons, List.not_mem_nil, or_false] at hy
  rcases hy with rfl | rfl | rfl | rfl
  · exact ⟨80, by decide, rfl⟩
  · exact ⟨75, by decide, rfl⟩
  · exact ⟨c, hc, rfl⟩
  · exact ⟨d, hd, rfl⟩
theorem app_byte {xs ys : List Int32} (h : ∀ x ∈ xs, byteP x) (g : ∀ x ∈ ys, byteP x) : ∀ x ∈ xs ++ ys, byteP x := fun x hx => (List.mem_append.mp hx).elim (h x) (g x)
theorem fct_byte (f : List Int32 × List Int32) : ∀ y ∈ fctB f, byteP y := app_byte (le2_byte _) (app_byte (le2_byte _) (app_byte (le2_byte _) (app_byte (le2_byte _) (app_byte (le4_byte _) (app_byte (le4_byte _) (app_byte (le4_byte _) (le2_byte _)))))))
theorem sh_byteB (f : List Int32 × List Int32) : ∀ y ∈ shB f, byteP y := app_byte (le2_byte _) (app_byte (fct_byte f) (le2_byte _))
theorem dat_byte {b : List Int32} (h : ∀ x ∈ b, byteP x) : ∀ y ∈ datB b, byteP y := by
  unfold datB
  by_cases c : b.length ≤ (foldB b).length
  · rw [if_pos c]; exact h
  · rw [if_neg c]; exact foldB_byte h
theorem nm_byte {f : List Int32 × List Int32} (h : fileOk f) : ∀ x ∈ f.1, byteP x := fun x hx => nmB_byte (List.all_eq_true.mp h.2.2.1 x hx)
theorem loc_byte {f : List Int32 × List Int32} (h : fileOk f) : ∀ y ∈ locB f, byteP y := app_byte (sg_byte (c := 3) (d := 4) (by decide) (by decide)) (app_byte (sh_byteB f) (app_byte (nm_byte h) (dat_byte h.2.2.2.2)))
theorem cen_byte {f : List Int32 × List Int32} (h : fileOk f) (o : Nat) : ∀ y ∈ cenB f o, byteP y := app_byte (sg_byte (c := 1) (d := 2) (by decide) (by decide)) (app_byte (le2_byte _) (app_byte (sh_byteB f) (app_byte (le2_byte _) (app_byte (le2_byte _) (app_byte (le2_byte _) (app_byte (le4_byte _) (app_byte (le4_byte _) (nm_byte h))))))))
theorem eoc_byte (n s o : Nat) : ∀ y ∈ eocB n s o, byteP y := app_byte (sg_byte (c := 5) (d := 6) (by decide) (by decide)) (app_byte (le2_byte _) (app_byte (le2_byte _) (app_byte (le2_byte _) (app_byte (le2_byte _) (app_byte (le4_byte _) (app_byte (le4_byte _) (le2_byte _)))))))
theorem locs_byte : ∀ fs : FL, (∀ f ∈ fs, fileOk f) → ∀ y ∈ locs fs, byteP y := by
  intro fs
  induction fs with
  | nil => intro _ y hy; exact absurd hy List.not_mem_nil
  | cons f fs ih => intro h; exact app_byte (loc_byte (h f List.mem_cons_self)) (ih (fun g hg => h g (List.mem_cons_of_mem _ hg)))
theorem cens_byte : ∀ (fs : FL) (o : Nat), (∀ f ∈ fs, fileOk f) → ∀ y ∈ cens o fs, byteP y := by
  intro fs
  induction fs with
  | nil => intro o _ y hy; exact absurd hy List.not_mem_nil
  | cons f fs ih => intro o h; exact app_byte (cen_byte (h f List.mem_cons_self) o) (ih _ (fun g hg => h g (List.mem_cons_of_mem _ hg)))
theorem out_byte {fs : FL} (h : wfF fs) : ∀ y ∈ outB fs, byteP y := app_byte (locs_byte fs h.2.1) (app_byte (cens_byte fs 0 h.2.1) (eoc_byte _ _ _))
theorem out_len {fs : FL} (h : wfF fs) : (outB fs).length ≤ 8742 := by
  have h1 := locs_len fs (wf_sz h)
  have h2 := cens_len fs 0 (wf_sz h)
  have h20 := h.1
  have h6 := h.2.2.1
  simp only [outB, List.length_append, eoc_len]
  omega
/-! the desk -/
theorem enD.oR {σ σ' : SD} {all : List Int32} {e s : Nat} {f : List Int32 × List Int32} (h : enD σ all e f s) (x : exR σ σ' 2) : enD σ' all e f s := by
  refine h.ot ?_ ?_ ?_ ?_ ?_ ?_ h.2.2.2.2.2.1 rfl
  · rw [x.1 _ _ (by omega)]
  · rw [x.1 _ _ (by omega)]
  · rw [x.1 _ _ (by omega)]
  · rw [x.1 _ _ (by omega)]
  · rw [x.1 _ _ (by omega)]
  · rw [x.2.2.1 _ (by omega)]
theorem w_two {σ : SD} {ys : List Int32} (h : rowD σ 2 ys) (x : Int32) (hc : ys.length + 2 ≤ 9000) : ∃ σ', f_X4_pushTwo σ 2 x = some σ' ∧ rowD σ' 2 (ys ++ le2 x) ∧ exR σ σ' 2 := r_pushTwo h x hc
theorem w_four {σ : SD} {ys : List Int32} (h : rowD σ 2 ys) (x : Int32) (hc : ys.length + 4 ≤ 9000) : ∃ σ', f_X4_pushFour σ 2 x = some σ' ∧ rowD σ' 2 (ys ++ le4 x) ∧ exR σ σ' 2 := r_pushFour h x hc
theorem d_shared {σ : SD} {all ys : List Int32} {e s : Nat} {f : List Int32 × List Int32} (h : rowD σ 2 ys) (g : enD σ all e f s) (hz : fSz f) (hc : ys.length + 26 ≤ 9000) : ∃ σ', f_X6_writeShared σ 2 e = some σ' ∧ rowD σ' 2 (ys ++ shB f) ∧ exR σ σ' 2 := by
  have z1 := hz.1
  have z2 := hz.2
  obtain ⟨σ1, e1, r1, x1⟩ := w_two h 20 (by omega)
  obtain ⟨σ2, e2, r2, x2⟩ := w_two r1 0 (by simp only [List.length_append, le2_len, le4_len]; omega)
  have g2 := (g.oR x1).oR x2
  obtain ⟨σ3, e3, r3, x3⟩ := w_two r2 (mtd f.2) (by simp only [List.length_append, le2_len, le4_len]; omega)
  obtain ⟨σ4, e4, r4, x4⟩ := w_two r3 0 (by simp only [List.length_append, le2_len, le4_len]; omega)
  obtain ⟨σ5, e5, r5, x5⟩ := w_two r4 33 (by simp only [List.length_append, le2_len, le4_len]; omega)
  have g5 := ((g2.oR x3).oR x4).oR x5
  obtain ⟨σ6, e6, r6, x6⟩ := w_four r5 (crcS f.2) (by simp only [List.length_append, le2_len, le4_len]; omega)
  have g6 := g5.oR x6
  obtain ⟨σ7, e7, r7, x7⟩ := w_four r6 (nI (pkS f.2)) (by simp only [List.length_append, le2_len, le4_len]; omega)
  have g7 := g6.oR x7
  obtain ⟨σ8, e8, r8, x8⟩ := w_four r7 (nI f.2.length) (by simp only [List.length_append, le2_len, le4_len]; omega)
  have g8 := g7.oR x8
  obtain ⟨σ9, e9, r9, x9⟩ := w_two r8 (nI f.1.length) (by simp only [List.length_append, le2_len, le4_len]; omega)
  obtain ⟨σa, ea, ra, xa⟩ := w_two r9 0 (by simp only [List.length_append, le2_len, le4_len]; omega)
  refine ⟨σa, ?_, ?_, ((((((((x1.tr x2).tr x3).tr x4).tr x5).tr x6).tr x7).tr x8).tr x9).tr xa⟩
  · unfold f_X6_writeShared
    rw [e1, Option.bind_some, e2, Option.bind_some, d_method (by omega) g2, Option.bind_some, e3, Option.bind_some, e4, Option.bind_some, e5, Option.bind_some, g5.2.2.2.2.1, e6, Option.bind_some, g6.2.2.2.1, e7, Option.bind_some, g7.2.2.1, e8, Option.bind_some, r_size g8.1, Option.bind_some, e9, Option.bind_some, ea, Option.bind_some]
  · simpa only [shB, fctB, List.append_assoc] using ra
theorem d_local {σ : SD} {all ys : List Int32} {e s : Nat} {f : List Int32 × List Int32} (h : rowD σ 2 ys) (g : enD σ all e f s) (hz : fSz f) (hc : ys.length + 60 ≤ 9000) : ∃ σ', f_X6_writeLocal σ 2 e = some σ' ∧ rowD σ' 2 (ys ++ ([80, 75, 3, 4] ++ (shB f ++ f.1))) ∧ exR σ σ' 2 := by
  have z1 := hz.1
  have hcap : capD 2 = 9000 := rfl
  obtain ⟨σ1, e1, r1, x1⟩ := r_pushSig h 3 4 (by rw [hcap]; omega)
  obtain ⟨σ2, e2, r2, x2⟩ := d_shared r1 (g.oR x1) hz (by simp only [List.length_append, sg_len]; omega)
  have g2 := (g.oR x1).oR x2
  obtain ⟨σ3, e3, r3, x3⟩ := r_append r2 g2.1 (a := 0) (n := f.1.length) (by omega) (by rw [hcap]; simp only [List.length_append, sg_len, sh_len]; omega)
  refine ⟨σ3, ?_, ?_, (x1.tr x2).tr x3⟩
  · unfold f_X6_writeLocal
    rw [e1, Option.bind_some, e2, Option.bind_some, r_size g2.1, Option.bind_some, show (0 : Int32) = nI 0 from rfl, e3, Option.bind_some]
  · rw [List.drop_zero, List.take_length, show (3 : Int32) &&& 255 = 3 from rfl, show (4 : Int32) &&& 255 = 4 from rfl] at r3
    simpa only [List.append_assoc] using r3
theorem fs_drop {fs : FL} {k : Nat} (h : k < fs.length) : fs.drop k = fs.getD k ([], []) :: fs.drop (k + 1) := by
  rw [List.drop_eq_getElem_cons h, getD_el h]
theorem sl_byte {xs : List Int32} (h : ∀ x ∈ xs, byteP x) {a n : Nat} : ∀ x ∈ (xs.drop a).take n, byteP x := fun x hx => h x (List.mem_of_mem_drop (List.mem_of_mem_take hx))
theorem d_locs {fs : FL} (hw : wfF fs) : ∀ (m k n : Nat) (σ : SD) (ys : List Int32), k + m = fs.length → m < n → filesD pkS σ fs → rowD σ 2 ys → ys.length + (60 * (fs.length - k) + tot (fs.drop k)) ≤ 9000 → ∃ σ', f_X5_writeLocals_2 2 n σ (nI k) = some σ' ∧ rowD σ' 2 (ys ++ locs (fs.drop k)) ∧ exR σ σ' 2 := by
  have h20 := hw.1
  have hcap : capD 2 = 9000 := rfl
  intro m
  induction m with
  | zero =>
    intro k n σ ys hk hn h g hc
    obtain ⟨i, rfl⟩ : ∃ i, n = i + 1 := ⟨n - 1, by omega⟩
    refine ⟨σ, by rw [f_X5_writeLocals_2, h.1, if_pos (nI_le (by omega) (by omega))], ?_, exR.rf⟩
    rw [List.drop_of_length_le (by omega), locs, List.append_nil]
    exact g
  | succ m ih =>
    intro k n σ ys hk hn h g hc
    obtain ⟨i, rfl⟩ : ∃ i, n = i + 1 := ⟨n - 1, by omega⟩
    have hz := ok_sz (wf_f hw (show k < fs.length by omega))
    have z1 := hz.1
    have z2 := hz.2
    have hpl := pkS_le (fs.getD k ([], [])).2
    obtain ⟨h1, h2, h3, h4, all, st, h5, h6, h7, h8⟩ := filesD_en.mp h
    have hen := h7 k (by omega)
    have htd := tot_drop (show k < fs.length by omega)
    have htd' : tot (fs.drop k) = (fs.getD k ([], [])).2.length + tot (fs.drop (k + 1)) := htd
    obtain ⟨σ1, e1, r1, x1⟩ := d_local g hen hz (by omega)
    have hen1 := hen.oR x1
    have h51 : rowD σ1 3 all := h5.ot x1 (by decide)
    have hlen1 : (ys ++ ([80, 75, 3, 4] ++ (shB (fs.getD k ([], [])) ++ (fs.getD k ([], [])).1))).length = ys.length + 30 + (fs.getD k ([], [])).1.length := by
      simp only [List.length_append, sg_len, sh_len]
      omega
    have key : ∃ σ2, (if mtd (fs.getD k ([], [])).2 = 99 then f_X0_fold σ1 3 (σ1.1 1 (σ.2.2.2 k)) (σ1.1 2 (σ.2.2.2 k)) 2 else f_X4_append σ1 2 3 (σ1.1 1 (σ.2.2.2 k)) (σ1.1 2 (σ.2.2.2 k))) = some σ2 ∧ rowD σ2 2 (ys ++ locB (fs.getD k ([], []))) ∧ exR σ1 σ2 2 := by
      rw [hen1.2.1, hen1.2.2.1]
      have hsl := hen.2.2.2.2.2.2
      have hbd := hen.2.2.2.2.2.1
      unfold mtd
      by_cases c : (fs.getD k ([], [])).2.length ≤ (foldB (fs.getD k ([], [])).2).length
      · rw [if_pos c, if_neg (show ¬ (0 : Int32) = 99 by decide)]
        obtain ⟨σ2, e2, r2, x2⟩ := r_append r1 h51 (a := st k) (n := (fs.getD k ([], [])).2.length) hbd (by rw [hcap, hlen1]; omega)
        refine ⟨σ2, e2, ?_, x2⟩
        rw [hsl] at r2
        unfold locB datB
        rw [if_pos c]
        simpa only [List.append_assoc] using r2
      · rw [if_neg c, if_pos rfl]
        obtain ⟨σ2, e2, r2, x2⟩ := d_fold (r := 3) (q := 2) (by decide) h51 r1 (s := st k) (n := (fs.getD k ([], [])).2.length) (by rw [hsl]; exact (wf_f hw (show k < fs.length by omega)).2.2.2.2) hbd (by rw [hcap, hlen1, hsl]; omega)
        refine ⟨σ2, e2, ?_, x2⟩
        rw [hsl] at r2
        unfold locB datB
        rw [if_neg c]
        simpa only [List.append_assoc] using r2
    obtain ⟨σ2, e2, r2, x2⟩ := key
    have x12 := x1.tr x2
    have hf2 : filesD pkS σ2 fs := h.ot x12 (Or.inr (Or.inr (Or.inl rfl)))
    obtain ⟨σ3, e3, r3, x3⟩ := ih (k + 1) i σ2 _ (by omega) (by omega) hf2 r2 (by rw [List.length_append, loc_len]; omega)
    refine ⟨σ3, ?_, ?_, x12.tr x3⟩
    · rw [f_X5_writeLocals_2, h1, if_neg (nI_ge (by omega) (by omega)), if_pos (inb_t (by omega) (by omega)), nI_clamp (by omega), if_pos (h2 k (by omega)), e1, Option.bind_some, d_method (by omega) hen1, Option.bind_some]
      unfold f_X5_writeLocals_66
      by_cases c : mtd (fs.getD k ([], [])).2 = 99
      · rw [if_pos c] at e2
        rw [if_pos c, e2, Option.bind_some, nI_1, e3]
      · rw [if_neg c] at e2
        rw [if_neg c, e2, Option.bind_some, nI_1, e3]
    · rw [fs_drop (show k < fs.length by omega), locs, ← List.append_assoc]
      exact r3
