/-! ===== PURE: CRC, and what a state of the desk is ===== -/
def ush (x : Int32) (n : Nat) : Int32 := (x.toUInt32 >>> ((nI n).toUInt32 &&& Int32.toUInt32 31)).toInt32
def nib (s : Int32) : Int32 := ush s 4 ^^^ ax_crc (s &&& 15).toNatClampNeg
def crcB (c x : Int32) : Int32 := nib (nib (c ^^^ x))
def crcS (xs : List Int32) : Int32 := xs.foldl crcB (-1) ^^^ (-1)
theorem inb_15 (x : Int32) : inb (x &&& 15) 16 = true := by
  have h : vp_in (x &&& 15) 16 := pk_andIn x 4 (by decide +kernel) (by decide)
  unfold inb
  exact decide_eq_true h
theorem d_crc_l {σ : SD} {r : Nat} {xs : List Int32} (h : rowD σ r xs) {a k : Nat} (hk : a + k ≤ xs.length) : ∀ (m j n : Nat) (c : Int32), j + m = k → m < n → f_X0_crc_5 r (nI a) (nI k) n σ c (nI j) = some (((xs.drop (a + j)).take m).foldl crcB c ^^^ (-1), σ) := by
  intro m
  have h9 := h.le
  induction m with
  | zero =>
    intro j n c hj hn
    obtain ⟨i, rfl⟩ : ∃ i, n = i + 1 := ⟨n - 1, by omega⟩
    rw [f_X0_crc_5, if_pos (nI_le (by omega) (by omega)), List.take_zero]
    rfl
  | succ m ih =>
    intro j n c hj hn
    obtain ⟨i, rfl⟩ : ∃ i, n = i + 1 := ⟨n - 1, by omega⟩
    rw [f_X0_crc_5, if_neg (nI_ge (by omega) (by omega)), nI_add, r_atn h (by omega), sl_succ (by omega)]
    simp only [Option.bind_some]
    rw [if_pos (inb_15 _), if_pos (inb_15 _), nI_1, ih (j + 1) i _ (by omega) (by omega)]
    rfl
theorem d_crc {σ : SD} {r : Nat} {xs : List Int32} (h : rowD σ r xs) {a k : Nat} (hk : a + k ≤ xs.length) : f_X0_crc σ r (nI a) (nI k) = some (crcS ((xs.drop a).take k), σ) := by
  have h9 := h.le
  unfold f_X0_crc crcS
  exact d_crc_l h hk k 0 fu (-1) (by omega) (by unfold fu; omega)
/-! files: names and bytes -/
abbrev FL : Type := List (List Int32 × List Int32)
abbrev fnm (fs : FL) (k : Nat) : List Int32 := (fs.getD k ([], [])).1
abbrev fby (fs : FL) (k : Nat) : List Int32 := (fs.getD k ([], [])).2
def tot (fs : FL) : Nat := (fs.map fun f => f.2.length).sum
def fileOk (f : List Int32 × List Int32) : Prop := 1 ≤ f.1.length ∧ f.1.length ≤ 30 ∧ f.1.all nmB = true ∧ f.2.length ≤ 1500 ∧ ∀ x ∈ f.2, byteP x
def wfF (fs : FL) : Prop := fs.length ≤ 20 ∧ (∀ f ∈ fs, fileOk f) ∧ tot fs ≤ 6000 ∧ (fs.map Prod.fst).Nodup
theorem wf_nil : wfF [] := ⟨by decide, fun f hf => absurd hf List.not_mem_nil, by decide, List.nodup_nil⟩
theorem nmB_byte {x : Int32} (h : nmB x = true) : byteP x := by
  unfold nmB at h
  rw [Bool.and_eq_true] at h
  have h1 : ¬ x < 33 := by simpa using h.1
  have h2 : x ≤ 126 := by simpa using h.2
  rw [Int32.lt_iff_toInt_lt] at h1
  rw [Int32.le_iff_toInt_le] at h2
  have e33 : (33 : Int32).toInt = 33 := rfl
  have e126 : (126 : Int32).toInt = 126 := rfl
  have h0 : ¬ x < 0 := by rw [Int32.lt_iff_toInt_lt, Int32.toInt_zero]; omega
  obtain ⟨j, hj, rfl⟩ := nI_of h0
  rw [nI_toInt hj] at h2
  exact ⟨j, by omega, rfl⟩
/-- the desk's state: the bytes ready, the tape, the output, the files -/
abbrev SP : Type := List Int32 × List Int32 × List Int32 × FL
def wfS (s : SP) : Prop := s.1.length = 20 ∧ s.2.1.length ≤ 9000 ∧ s.2.2.1.length ≤ 9000 ∧ wfF s.2.2.2 ∧ (∀ x ∈ s.1, byteP x) ∧ (∀ x ∈ s.2.1, byteP x) ∧ ∀ x ∈ s.2.2.1, byteP x
/-- the desk holds the files: all bytes in one row, each file's from its start on -/
def filesD (pk : List Int32 → Nat) (σ : SD) (fs : FL) : Prop :=
  σ.1 5 0 = nI fs.length ∧ (∀ k, k < 20 → σ.2.2.2 k < 20) ∧ (∀ i j, i < 20 → j < 20 → σ.2.2.2 i = σ.2.2.2 j → i = j) ∧ (∀ e, e < 20 → ∃ xs, rowD σ (5 + e) xs) ∧
  ∃ (all : List Int32) (st : Nat → Nat), rowD σ 3 all ∧ all.length = tot fs ∧
    (∀ k, k < fs.length → rowD σ (5 + σ.2.2.2 k) (fnm fs k) ∧ σ.1 1 (σ.2.2.2 k) = nI (st k) ∧ σ.1 2 (σ.2.2.2 k) = nI (fby fs k).length ∧ σ.1 3 (σ.2.2.2 k) = nI (pk (fby fs k)) ∧ σ.1 4 (σ.2.2.2 k) = crcS (fby fs k) ∧ st k + (fby fs k).length ≤ all.length ∧ (all.drop (st k)).take (fby fs k).length = fby fs k) ∧
    ∀ i j, i < fs.length → j < fs.length → i ≠ j → st i + (fby fs i).length ≤ st j ∨ st j + (fby fs j).length ≤ st i
def RD (pk : List Int32 → Nat) (σ : SD) (s : SP) : Prop := wfS s ∧ rowD σ 0 s.1 ∧ rowD σ 1 s.2.1 ∧ rowD σ 2 s.2.2.1 ∧ (∃ xs, rowD σ 4 xs) ∧ filesD pk σ s.2.2.2
/-- a row that isn't the files' has changed -/
theorem filesD.ot {pk : List Int32 → Nat} {σ σ' : SD} {fs : FL} {r : Nat} (h : filesD pk σ fs) (e : exR σ σ' r) (hr : r = 0 ∨ r = 1 ∨ r = 2 ∨ r = 4) : filesD pk σ' fs := by
  obtain ⟨h1, h2, h3, h4, all, st, h5, h6, h7, h8⟩ := h
  have eI : ∀ f i, 1 ≤ f → σ'.1 f i = σ.1 f i := fun f i hf => e.1 f i (fun q => by omega)
  refine ⟨by rw [eI 5 0 (by decide)]; exact h1, by rw [e.2.2.2]; exact h2, by rw [e.2.2.2]; exact h3, fun k hk => (h4 k hk).elim fun xs hx => ⟨xs, hx.ot e (by omega)⟩, all, st, h5.ot e (by omega), h6, fun k hk => ?_, h8⟩
  obtain ⟨g1, g2, g3, g4, g5, g6⟩ := h7 k hk
  rw [e.2.2.2, eI 1 _ (by decide), eI 2 _ (by decide), eI 3 _ (by decide), eI 4 _ (by decide)]
  exact ⟨g1.ot e (by omega), g2, g3, g4, g5, g6⟩
/-! the reference's state -/
def arrM (τ : SM) (a : Nat) (xs : List Int32) : Prop := xs.length ≤ capM a ∧ ∀ i, i < xs.length → τ.2 a i = xs.getD i 0
def filesM (τ : SM) (fs : FL) : Prop := τ.1 3 = nI fs.length ∧ ∀ k, k < fs.length → τ.2 4 k = nI (fnm fs k).length ∧ (∀ i, i < (fnm fs k).length → τ.2 3 (30 * k + i) = (fnm fs k).getD i 0) ∧ τ.2 6 k = nI (fby fs k).length ∧ ∀ i, i < (fby fs k).length → τ.2 5 (1500 * k + i) = (fby fs k).getD i 0
def RM (τ : SM) (s : SP) : Prop := wfS s ∧ arrM τ 0 s.1 ∧ τ.1 1 = nI s.2.1.length ∧ arrM τ 1 s.2.1 ∧ τ.1 2 = nI s.2.2.1.length ∧ arrM τ 2 s.2.2.1 ∧ filesM τ s.2.2.2
/-! ===== the desk's simple calls ===== -/
section DSK
variable {pk : List Int32 → Nat} {σ : SD} {rd tp ou : List Int32} {fs : FL}
theorem RD.tape {σ' : SD} {tp' : List Int32} (h : RD pk σ (rd, tp, ou, fs)) (e : exR σ σ' 1) (g : rowD σ' 1 tp') (hb : ∀ x ∈ tp', byteP x) : RD pk σ' (rd, tp', ou, fs) := by
  obtain ⟨w, a0, a1, a2, ⟨xs, a3⟩, a4⟩ := h
  obtain ⟨w1, w2, w3, w4, w5, w6, w7⟩ := w
  exact ⟨⟨w1, g.le, w3, w4, w5, hb, w7⟩, a0.ot e (by decide), g, a2.ot e (by decide), ⟨xs, a3.ot e (by decide)⟩, a4.ot e (Or.inr (Or.inl rfl))⟩
theorem RD.ready {σ' : SD} {rd' : List Int32} (h : RD pk σ (rd, tp, ou, fs)) (e : exR σ σ' 0) (g : rowD σ' 0 rd') (hl : rd'.length = 20) (hb : ∀ x ∈ rd', byteP x) : RD pk σ' (rd', tp, ou, fs) := by
  obtain ⟨w, a0, a1, a2, ⟨xs, a3⟩, a4⟩ := h
  obtain ⟨w1, w2, w3, w4, w5, w6, w7⟩ := w
  exact ⟨⟨hl, w2, w3, w4, hb, w6, w7⟩, g, a1.ot e (by decide), a2.ot e (by decide), ⟨xs, a3.ot e (by decide)⟩, a4.ot e (Or.inl rfl)⟩
theorem be4_byte (x : Int32) : ∀ y ∈ be4 x, byteP y := by
  intro y hy
  simp only [be4, List.mem_cons, List.not_mem_nil, or_false] at hy
  rcases hy with rfl | rfl | rfl | rfl <;> exact byte_and _
theorem d_feed (h : RD pk σ (rd, tp, ou, fs)) (a b c d e : Int32) : ∃ σ', f_X7_feed σ a b c d e = some σ' ∧ RD pk σ' (be4 a ++ be4 b ++ be4 c ++ be4 d ++ be4 e, tp, ou, fs) := by
  have hc : capD 0 = 20 := rfl
  obtain ⟨σ0, e0, r0, x0⟩ := r_short0 h.2.1
  obtain ⟨σ1, e1, r1, x1⟩ := r_pushHigh r0 a (by rw [hc]; decide)
  obtain ⟨σ2, e2, r2, x2⟩ := r_pushHigh r1 b (by rw [hc]; simp [be4])
  obtain ⟨σ3, e3, r3, x3⟩ := r_pushHigh r2 c (by rw [hc]; simp [be4])
  obtain ⟨σ4, e4, r4, x4⟩ := r_pushHigh r3 d (by rw [hc]; simp [be4])
  obtain ⟨σ5, e5, r5, x5⟩ := r_pushHigh r4 e (by rw [hc]; simp [be4])
  refine ⟨σ5, ?_, h.ready (((((x0.tr x1).tr x2).tr x3).tr x4).tr x5) (by simpa using r5) (by simp [be4]) (fun x hx => ?_)⟩
  · unfold f_X7_feed
    rw [e0]
    simp only [Option.bind_some]
    rw [e1]
    simp only [Option.bind_some]
    rw [e2]
    simp only [Option.bind_some]
    rw [e3]
    simp only [Option.bind_some]
    rw [e4]
    simp only [Option.bind_some]
    rw [e5]
    rfl
  · simp only [List.mem_append] at hx
    rcases hx with (((hx | hx) | hx) | hx) | hx <;> exact be4_byte _ x hx
theorem d_cut (h : RD pk σ (rd, tp, ou, fs)) (x : Int32) : ∃ σ', f_X7_cut σ x = some (b2i (hb tp.length 0 x), σ') ∧ RD pk σ' (rd, if hb tp.length 0 x = true then tp.take x.toInt.toNat else tp, ou, fs) := by
  obtain ⟨σ1, e1, r1, x1⟩ := r_shorten h.2.2.1 x
  refine ⟨σ1, ?_, h.tape x1 r1 (fun y hy => ?_)⟩
  · unfold f_X7_cut
    rw [e1]
    simp only [Option.bind_some]
    cases hb tp.length 0 x <;> rfl
  · have hby := h.1.2.2.2.2.2.1
    split at hy
    · exact hby y (List.mem_of_mem_take hy)
    · exact hby y hy
theorem d_drop (h : RD pk σ (rd, tp, ou, fs)) (x : Int32) : ∃ σ', f_X7_drop σ x = some (b2i (hb tp.length 0 x), σ') ∧ RD pk σ' (rd, if hb tp.length 0 x = true then tp.drop x.toInt.toNat else tp, ou, fs) := by
  have hby := h.1.2.2.2.2.2.1
  have h9 := h.2.2.1.le
  unfold f_X7_drop
  by_cases c : hb tp.length 0 x = true
  · have c2 := of_decide_eq_true c
    obtain ⟨j, hj, rfl⟩ : ∃ j : Nat, j < 2 ^ 31 ∧ x = nI j := nI_of (by rw [Int32.lt_iff_toInt_lt, Int32.toInt_zero]; omega)
    rw [nI_toInt hj] at c2
    have c3 : (0 : Int32).toInt = 0 := rfl
    have hr : rowD σ 1 tp := h.2.2.1
    obtain ⟨σ1, e1, r1, x1⟩ := r_close hr (a := 0) (n := j) (by omega)
    refine ⟨σ1, ?_, ?_⟩
    · rw [show (0 : Int32) = nI 0 from rfl, e1, ← show (0 : Int32) = nI 0 from rfl, c]; rfl
    · rw [if_pos c, nI_toInt hj, Int.toNat_natCast]
      refine h.tape x1 (by simpa using r1) (fun y hy => hby y (List.mem_of_mem_drop hy))
  · have c' : hb tp.length 0 x = false := by simpa using c
    refine ⟨σ, by rw [r_closeF h.2.2.1 c', c']; rfl, by rw [c']; exact h⟩
theorem d_clear (h : RD pk σ (rd, tp, ou, fs)) : ∃ σ', f_X7_clear σ = some σ' ∧ RD pk σ' (rd, tp, ou, []) := by
  obtain ⟨w, a0, a1, a2, ⟨xs, a3⟩, a4⟩ := h
  obtain ⟨h1, h2, h3, h4, all, st, h5, h6, h7, h8⟩ := a4
  have k3 : rowD (SDi σ 5 0 0) 3 all := h5
  obtain ⟨σ1, e1, r1, x1⟩ := r_short0 k3
  refine ⟨σ1, by unfold f_X7_clear f_X5_takeOutAll; rw [e1]; rfl, ?_⟩
  obtain ⟨w1, w2, w3, w4, w5, w6, w7⟩ := w
  have k0 : rowD (SDi σ 5 0 0) 0 rd := a0
  have k1 : rowD (SDi σ 5 0 0) 1 tp := a1
  have k2 : rowD (SDi σ 5 0 0) 2 ou := a2
  have k4 : rowD (SDi σ 5 0 0) 4 xs := a3
  refine ⟨⟨w1, w2, w3, wf_nil, w5, w6, w7⟩, k0.ot x1 (by decide), k1.ot x1 (by decide), k2.ot x1 (by decide), ⟨xs, k4.ot x1 (by decide)⟩, ?_, ?_, ?_, fun e he => ?_, [], fun _ => 0, r1, rfl, fun k hk => absurd hk (Nat.not_lt_zero k), fun i j hi => absurd hi (Nat.not_lt_zero i)⟩
  · rw [x1.1 5 0 (by omega)]; rfl
  · rw [x1.2.2.2]; exact h2
  · rw [x1.2.2.2]; exact h3
  · obtain ⟨ys, hy⟩ := h4 e he
    have k5 : rowD (SDi σ 5 0 0) (5 + e) ys := ⟨by simp only [SDi, u2]; rw [if_neg (by omega)]; exact hy.1, hy.2⟩
    exact ⟨ys, k5.ot x1 (by omega)⟩
theorem d_output (h : RD pk σ (rd, tp, ou, fs)) (x : Int32) : f_X7_output σ x = some (atx ou x, σ) := by
  unfold f_X7_output
  rw [r_at h.2.2.2.1]
  rfl
theorem d_about (h : RD pk σ (rd, tp, ou, fs)) (x : Int32) : f_X7_about σ x = some (if x = 0 then nI tp.length else if x = 1 then nI ou.length else if x = 2 then nI fs.length else if x = 3 then nI (tot fs) else -1, σ) := by
  obtain ⟨w, a0, a1, a2, a3, a4⟩ := h
  obtain ⟨h1, h2, h3, h4, all, st, h5, h6, h7, h8⟩ := a4
  unfold f_X7_about f_X5_count f_X5_together
  rw [r_size a1, r_size a2, r_size h5, h1, h6]
  by_cases c : x.toInt < 0 ∨ 3 < x.toInt
  · rw [if_pos c]
    have n0 : ¬ x = 0 := fun q => by rw [q] at c; exact absurd c (by decide)
    have n1 : ¬ x = 1 := fun q => by rw [q] at c; exact absurd c (by decide)
    have n2 : ¬ x = 2 := fun q => by rw [q] at c; exact absurd c (by decide)
    have n3 : ¬ x = 3 := fun q => by rw [q] at c; exact absurd c (by decide)
    rw [if_neg n0, if_neg n1, if_neg n2, if_neg n3]
  · rw [if_neg c]
    by_cases n0 : x = 0
    · rw [if_pos n0, if_pos n0]; rfl
    by_cases n1 : x = 1
    · rw [if_neg n0, if_pos n1, if_neg n0, if_pos n1]; rfl
    by_cases n2 : x = 2
    · rw [if_neg n0, if_neg n1, if_pos n2, if_neg n0, if_neg n1, if_pos n2]; rfl
    by_cases n3 : x = 3
    · rw [if_neg n0, if_neg n1, if_neg n2, if_pos n3, if_neg n0, if_neg n1, if_neg n2, if_pos n3]; rfl
    · exfalso
      have c4 : 0 ≤ x.toInt ∧ x.toInt ≤ 3 := by omega
      have key : ∀ y : Int32, x.toInt = y.toInt → x = y := fun y hy => Int32.toInt_inj.mp hy
      have t0 : (0 : Int32).toInt = 0 := rfl
      have t1 : (1 : Int32).toInt = 1 := rfl
      have t2 : (2 : Int32).toInt = 2 := rfl
      have t3 : (3 : Int32).toInt = 3 := rfl
      rcases (show x.toInt = 0 ∨ x.toInt = 1 ∨ x.toInt = 2 ∨ x.toInt = 3 by omega) with q | q | q | q
      · exact n0 (key 0 (by omega))
      · exact n1 (key 1 (by omega))
      · exact n2 (key 2 (by omega))
      · exact n3 (key 3 (by omega))
end DSK
