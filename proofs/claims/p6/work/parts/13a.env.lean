theorem cD_to {D : va_G} {cl : List vw_C} {cyI cyE : ClassId} {a1 a2 : Nat → Nat} {σ : SD} {H : Heap} (h : ∀ i, i < 77 → a1 i = a2 i) (hE : ∀ k, k < 20 → σ.2.2.2 k < 20) (hP : va_P D cl (ax_w 77 a1 (cD cyI cyE a1 σ)) H) : va_P D cl (ax_w 77 a2 (cD cyI cyE a2 σ)) H := by
  intro i q hi
  obtain ⟨hk, rfl⟩ := ax_inv hi
  have h0 := hP i _ (ax_get hk)
  rw [h i hk] at h0
  by_cases h72 : i = 72
  · subst h72
    have h1 : H[a2 72]? = some (vp_cell cyE (20, .inr (.inr (.inr (.inr (fun k => some (a1 (52 + σ.2.2.2 k)))))))) := h0
    show H[a2 72]? = some (vp_cell cyE (20, .inr (.inr (.inr (.inr (fun k => some (a2 (52 + σ.2.2.2 k))))))))
    rw [h1]
    exact congrArg some (vp_q_congr (fun k hk => by rw [h _ (by have := hE k hk; omega)]))
  · have e : cD cyI cyE a1 σ i = cD cyI cyE a2 σ i := by
      by_cases c1 : i < 25
      · simp only [cD, if_pos c1, h (25 + i) (by omega)]
      by_cases c2 : i < 52
      · simp only [cD, if_neg c1, if_pos c2]
      by_cases c3 : i < 72
      · simp only [cD, if_neg c1, if_neg c2, if_pos c3, h (5 + (i - 52)) (by omega)]
      by_cases c5 : i = 73
      · simp only [cD, if_neg c1, if_neg c2, if_neg c3, if_neg h72, if_pos c5]
      by_cases c6 : i = 74
      · simp only [cD, if_neg c1, if_neg c2, if_neg c3, if_neg h72, if_neg c5, if_pos c6, h (25 + 25) (by omega), h (25 + 26) (by omega), h 73 (by omega), h 4 (by omega)]
      by_cases c7 : i = 75
      · simp only [cD, if_neg c1, if_neg c2, if_neg c3, if_neg h72, if_neg c5, if_neg c6, if_pos c7, h 72 (by omega), h 3 (by omega)]
      · simp only [cD, if_neg c1, if_neg c2, if_neg c3, if_neg h72, if_neg c5, if_neg c6, if_neg c7, h 0 (by omega), h 1 (by omega), h 2 (by omega), h 75 (by omega), h 74 (by omega)]
    rw [← e]
    exact h0
theorem cM_to {D : va_G} {cl : List vw_C} {cyI : ClassId} {a1 a2 : Nat → Nat} {τ : SM} {H : Heap} (h : ∀ i, i < 12 → a1 i = a2 i) (hP : va_P D cl (ax_w 12 a1 (cM cyI a1 τ)) H) : va_P D cl (ax_w 12 a2 (cM cyI a2 τ)) H := by
  intro i q hi
  obtain ⟨hk, rfl⟩ := ax_inv hi
  have h0 := hP i _ (ax_get hk)
  rw [h i hk] at h0
  have e : cM cyI a1 τ i = cM cyI a2 τ i := by
    by_cases c1 : i < 11
    · simp only [cM, if_pos c1]
    · simp only [cM, if_neg c1, h 0 (by omega), h 1 (by omega), h 2 (by omega), h 3 (by omega), h 4 (by omega), h 5 (by omega), h 6 (by omega), h 7 (by omega), h 8 (by omega), h 9 (by omega), h 10 (by omega)]
  rw [← e]
  exact h0
theorem nest_tbl : ∀ q ∈ ax_nest, ax_nw q ∈ lw_tbl := by decide +kernel
theorem knw_tbl : ∀ q ∈ kn_w, Cond.methodLinkNest q.1 q.2.1 q.2.2.1 q.2.2.2 ∈ lw_tbl := by decide +kernel
theorem decl_tbl : ∀ x ∈ ax_decl, Cond.declares x ∈ lw_tbl := by decide +kernel
theorem cast_tbl : ∀ C ∈ ax_cast, Cond.castable C C ∈ lw_tbl := by decide +kernel
theorem txt_tbl : ∀ q ∈ ax_txt, Cond.stringRef RX7 q.1 q.2 ∈ lw_tbl := by decide +kernel
theorem over_tbl : Cond.arrayOver (.object RX1) ∈ lw_tbl := by decide +kernel
theorem lays_tbl : ∀ w ∈ [Cond.laysStatic "ArchiveDesk$Codec" "CRC_STEPS" "[I", Cond.laysStatic Bundle.tN "UNASSIGNED_STACK" Bundle.steD, Cond.laysStatic Bundle.tN "SUPPRESSED_SENTINEL" Bundle.listD, Cond.initialized "ArchiveDesk$Codec", Cond.initialized Bundle.tN], w ∈ lw_tbl := by decide +kernel
theorem pre_crc : ∀ j, j < 16 → Cond.eq (.elem (.static "ArchiveDesk$Codec" "CRC_STEPS" "[I") (.int (Int32.ofNat j))) (.int (ax_crc j)) ∈ flatC (Jvm.Cond.and given_1 narrow_1) := by decide +kernel
theorem pre_crc2 : ∀ w ∈ [Cond.arrayOf (.static "ArchiveDesk$Codec" "CRC_STEPS" "[I") .int, Cond.eq (.length (.static "ArchiveDesk$Codec" "CRC_STEPS" "[I")) (.int 16), Cond.isRef (.static Bundle.tN "UNASSIGNED_STACK" Bundle.steD), Cond.isRef (.static Bundle.tN "SUPPRESSED_SENTINEL" Bundle.listD)], w ∈ flatC (Jvm.Cond.and given_1 narrow_1) := by decide +kernel
theorem pre_txt : ∀ q ∈ ax_txt, Cond.exactly (.string RX7 q.1) "java/lang/String" ∈ flatC (Jvm.Cond.and given_1 narrow_1) := by decide +kernel
theorem pre_nc : ∀ q ∈ ax_nc, Cond.not (.castable q.1 q.2) ∈ flatC (Jvm.Cond.and given_1 narrow_1) := by decide +kernel
set_option maxHeartbeats 4000000 in
theorem start_env {p : Program} {s : State} {m : MethodId} {meth : Method} {c : Code} {b L : Nat} {xs : Nat → Int32} (l : Launch) (hl0 : l.stackTraces = false) (W0 : lw_At p s m meth c b L xs) : ∃ (dC : Nat → ClassId) (dI : Nat → Nat → Nat) (cyI cyE cyL : ClassId) (tC : Nat), ax_envL l dC dI cyI cyE cyL tC (fun q : Nat => s.heap.size ≤ q) s s.heap ∧ kE dC dI cyI cyE tC (fun q : Nat => s.heap.size ≤ q) s s.heap := by
  obtain ⟨hx, hb, hr, hml, hown, hts, hX, hbl, hlocks, hgv⟩ := W0
  have hs := flat_of_before _ hgv
  have hA : ∀ a : Nat, a < s.heap.size → ¬ (fun q : Nat => s.heap.size ≤ q) a := fun a h => Nat.not_le.mpr h
  obtain ⟨c0, iS0, hKn0⟩ := u_known (C := RX1) (T := TX1) (N := 5) (n := 5) hts (fun w h => bw_tbl (inX1 w h)) (hts _ (bw_tbl mn_X1))
  obtain ⟨c1, iS1, hKn1⟩ := u_known (C := RX2) (T := TX2) (N := 5) (n := 5) hts (fun w h => bw_tbl (inX2 w h)) (hts _ (bw_tbl mn_X2))
  obtain ⟨c2, iS2, hKn2⟩ := u_known (C := RX3) (T := TX3) (N := 10) (n := 10) hts (fun w h => bw_tbl (inX3 w h)) (hts _ (bw_tbl mn_X3))
  obtain ⟨c3, iS3, hKn3⟩ := u_known (C := RX4) (T := TX4) (N := 2) (n := 2) hts (fun w h => bw_tbl (inX4 w h)) (hts _ (bw_tbl mn_X4))
  obtain ⟨c4, iS4, hKn4⟩ := u_known (C := RX5) (T := TX5) (N := 3) (n := 3) hts (fun w h => bw_tbl (inX5 w h)) (hts _ (bw_tbl mn_X5))
  obtain ⟨c5, iS5, hKn5⟩ := u_known (C := RX7) (T := TX7) (N := 5) (n := 5) hts (fun w h => bw_tbl (inX7 w h)) (hts _ (bw_tbl mn_X7))
  obtain ⟨c6, iS6, hKn6⟩ := u_known (C := RX8) (T := TX8) (N := 19) (n := 19) hts (fun w h => bw_tbl (inX8 w h)) (hts _ (bw_tbl mn_X8))
  obtain ⟨dC, dI, hKc⟩ : ∃ (dC : Nat → ClassId) (dI : Nat → Nat → Nat), ∀ (k : Nat) (q : vw_C), vwCl[k]? = some q → u_Kn s q.1 q.2.1 q.2.2 (dC k) (dI k) := by
    refine ⟨fun k => if k = 0 then c0 else if k = 1 then c1 else if k = 2 then c2 else if k = 3 then c3 else if k = 4 then c4 else if k = 5 then c5 else c6, fun k => if k = 0 then iS0 else if k = 1 then iS1 else if k = 2 then iS2 else if k = 3 then iS3 else if k = 4 then iS4 else if k = 5 then iS5 else iS6, ?_⟩
    intro k q hq
    match k, hq with
    | 0, hq => cases hq; exact hKn0
    | 1, hq => cases hq; exact hKn1
    | 2, hq => cases hq; exact hKn2
    | 3, hq => cases hq; exact hKn3
    | 4, hq => cases hq; exact hKn4
    | 5, hq => cases hq; exact hKn5
    | 6, hq => cases hq; exact hKn6
    | k + 7, hq => simp [vwCl] at hq
  obtain ⟨cyI, kI, pI, i1, i2, i3⟩ := Cond.arrayClass_spec (hts _ (bw_tbl ma_int))
  obtain ⟨cyL, kL, pL, l1, l2, l3⟩ := Cond.arrayClass_spec (hts _ (bw_tbl ma_long))
  have hover : va_AO RX1 s := va_AO.of (hts _ over_tbl)
  obtain ⟨pE, cyE, kEx, e1, e2, e3, e4, e5⟩ := Cond.arrayOver_spec hover
  have hK : va_K (dC, dI) vwCl (ax_tys cyI cyE) s := ⟨hKc, fun k q h => by
    match k, h with
    | 0, h => cases h; exact ⟨fun n z => ⟨fun k h => (by cases h), kI, i2, pI, i3⟩, i1⟩
    | 1, h => cases h; exact ⟨fun n z => ⟨fun k h => (by cases h), kEx, e3, pE, e4⟩, kEx, pE, e3, e4, e1, e5⟩
    | k + 2, h => simp [ax_tys] at h⟩
  have hKL : va_K (dC, dI) vwCl [(cyL, .long)] s := ⟨hKc, fun k q h => by
    match k, h with
    | 0, h => cases h; exact ⟨fun n z => ⟨fun k h => (by cases h), kL, l2, pL, l3⟩, l1⟩
    | k + 1, h => simp at h⟩
  obtain ⟨tC, ht, hTt⟩ := va_Tof (args := #[Value.ref b]) (s := s) (tm := .static "ArchiveDesk$Codec" "CRC_STEPS" "[I") (ty := .int) (N := 16) (f := fun j => .int (ax_crc j)) (A := (fun q : Nat => s.heap.size ≤ q)) (by decide) (hs _ (pre_crc2 _ (by simp))) (va_eqt (hs _ (pre_crc2 _ (by simp)))) (fun j hj => va_eqt (hs _ (pre_crc j hj))) hA
  have hZ := va_Zref (A := (fun q : Nat => s.heap.size ≤ q)) (hts _ (lays_tbl _ (by simp))) (hts _ (lays_tbl _ (by simp))) ht hA
  have hE : ax_env dC dI cyI cyE tC (fun q : Nat => s.heap.size ≤ q) s s.heap := ⟨hK, fun q hq => va_Nw.of rfl (hts _ (nest_tbl q hq)), hZ, hTt⟩
  have hEX : ax_envX l (fun q : Nat => s.heap.size ≤ q) s s.heap := ⟨hl0, vx_Zqof (hts _ (lays_tbl _ (by simp))) (hts _ (lays_tbl _ (by simp))) (hs _ (pre_crc2 _ (by simp))) hA, vx_Zqof (hts _ (lays_tbl _ (by simp))) (hts _ (lays_tbl _ (by simp))) (hs _ (pre_crc2 _ (by simp))) hA, fun q hq => by
      obtain ⟨a, c, cA, kA, q1, -⟩ := Cond.exactly_spec (args := #[Value.ref b]) (first := s) (o := none) (s := s) (idx := []) (hs _ (pre_txt q hq))
      exact ⟨a, vk_R.of (hts _ (txt_tbl q hq)) q1⟩, fun x hx => va_Nw.of rfl (hts _ (decl_tbl x hx)), fun C hC => va_Nw.of rfl (hts _ (cast_tbl C hC))⟩
  exact ⟨dC, dI, cyI, cyE, cyL, tC, ⟨hE, hEX, hKL, fun q hq => va_Nc.of (hs _ (pre_nc q hq))⟩, hE, hover, fun q hq => va_Nw.of rfl (hts _ (knw_tbl q hq))⟩
