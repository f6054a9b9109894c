/-- what is left to be shown without the machine -/
def PureLaw : Prop := ∃ σ1 : SD, f_X4_blank σ0 0 = some σ1 ∧ (∀ k, k < 20 → σ1.2.2.2 k < 20) ∧ ∀ (L : Nat) (xs : Nat → Int32), L ≤ 3072 → f_L_law_23 L xs 600 (σ1, τ0, fun _ => 0) 0 = some ()
def adF (B B2 B3 : Nat) (i : Nat) : Nat := if i < 77 then B + offD i else if i < 89 then B2 + offM (i - 77) else B3
theorem offD_lt : ∀ i, i < 77 → offD i < 77 := by decide +kernel
theorem offM_lt : ∀ j, j < 12 → offM j < 12 := by decide +kernel
theorem offM_J : ∀ i, i < 12 → ∀ j, j < 12 → offM i = offM j → i = j := by decide +kernel
theorem adF_1 {B B2 B3 i : Nat} (h : i < 77) : adF B B2 B3 i = B + offD i := by simp only [adF, if_pos h]
theorem adF_2 {B B2 B3 j : Nat} (h : j < 12) : adF B B2 B3 (77 + j) = B2 + offM j := by
  simp only [adF, if_neg (show ¬ 77 + j < 77 by omega), if_pos (show 77 + j < 89 by omega), show 77 + j - 77 = j by omega]
theorem adF_3 {B B2 B3 : Nat} : adF B B2 B3 89 = B3 := rfl
theorem adF_J {B B2 B3 : Nat} (h1 : B + 77 ≤ B2) (h2 : B2 + 12 ≤ B3) : ax_J 90 (adF B B2 B3) := by
  intro i j hi hj e
  rcases (show i < 77 ∨ (77 ≤ i ∧ i < 89) ∨ i = 89 by omega) with a | a | a <;> rcases (show j < 77 ∨ (77 ≤ j ∧ j < 89) ∨ j = 89 by omega) with b | b | b
  · rw [adF_1 a, adF_1 b] at e; exact offD_J i a j b (by omega)
  · obtain ⟨k, rfl⟩ : ∃ k, j = 77 + k := ⟨j - 77, by omega⟩
    rw [adF_1 a, adF_2 (by omega)] at e
    have := offD_lt i a
    omega
  · subst b; rw [adF_1 a, adF_3] at e
    have := offD_lt i a
    omega
  · obtain ⟨k, rfl⟩ : ∃ k, i = 77 + k := ⟨i - 77, by omega⟩
    rw [adF_1 b, adF_2 (by omega)] at e
    have := offD_lt j b
    omega
  · obtain ⟨k, rfl⟩ : ∃ k, i = 77 + k := ⟨i - 77, by omega⟩
    obtain ⟨k2, rfl⟩ : ∃ k, j = 77 + k := ⟨j - 77, by omega⟩
    rw [adF_2 (by omega), adF_2 (by omega)] at e
    have := offM_J k (by omega) k2 (by omega) (by omega)
    omega
  · subst b
    obtain ⟨k, rfl⟩ : ∃ k, i = 77 + k := ⟨i - 77, by omega⟩
    rw [adF_2 (by omega), adF_3] at e
    have := offM_lt k (by omega)
    omega
  · subst a; rw [adF_1 b, adF_3] at e
    have := offD_lt j b
    omega
  · subst a
    obtain ⟨k, rfl⟩ : ∃ k, j = 77 + k := ⟨j - 77, by omega⟩
    rw [adF_2 (by omega), adF_3] at e
    have := offM_lt k (by omega)
    omega
  · omega
set_option maxHeartbeats 4000000 in
set_option maxRecDepth 100000 in
/-- THE LAW, from its entry, given what is pure -/
theorem whole_start_open (hpure : PureLaw) {p : Program} {e : Env} {s : State} {m : MethodId} {below : List Frame} {meth : Method} {c : Code} (l : Launch) (hl0 : l.stackTraces = false) {b L : Nat} {xs : Nat → Int32} (hL : L ≤ 3072) (W0 : lw_At p s m meth c b L xs) : W p l e room_1 s m #[Value.ref b] below meth c s.heap [] 0 0 (lw_Z below #[Value.ref b] s) (entryFrame m ([Value.ref b] : List Value).toArray 7) := by
  obtain ⟨σ1, hf1, hE20, hlaw⟩ := hpure
  obtain ⟨dC, dI, cyI, cyE, cyL, tC, hEL, hkE⟩ := start_env l hl0 W0
  obtain ⟨hx, hb, hr, hml, hown, hts, hX, hbl, hlocks, hgv⟩ := id W0
  have C0 : CallFix p m c cL_law 7 s #[Value.ref b] lw_tbl RL := ⟨hx, hb, hml, hown, hts⟩
  have hT : ∀ w ∈ bw, w ∈ lw_tbl := fun w h => bw_tbl h
  have hK := hEL.1.1
  have hS : va_S (rA s.heap.size) s.heap s.heap [] := va_S.rf
  have hl := lv_entry ([.ref b]) (n := 7) (Nat.le_of_ble_eq_true rfl)
  rw [lg_entry_eq]
  generalize (lg_sl ([.ref b]) ++ List.replicate (7 - (lg_sl ([.ref b])).length) Slot.unset).toArray = ls at hl ⊢
  have hl : lv_has ls 7 [(0, .ref b)] := hl
  have hG : rg dC dI s.heap.size 0 (fun _ => oArr cyI 0) s.heap := ⟨rfl, fun k q h => by simp [ax_w] at h⟩
  refine rg_new (C := RX7) (T := TX7) (N := 5) (ci := 5) (fs := [.null, .null, .null, .null, .null]) C0 hT hK inX7 tyX7 tyX7_ok mq_L_8 mn_X7 mz_X7 rfl (fun j hj => by rcases (show j = 0 ∨ j = 1 ∨ j = 2 ∨ j = 3 ∨ j = 4 by omega) with rfl | rfl | rfl | rfl | rfl <;> rfl) hG hS (Nat.le_of_ble_eq_true rfl) (Nat.le_of_ble_eq_true rfl) dL_law_0 (fun H hG hS => ?_)
  refine lv_dup hx hb dL_law_3 rfl ?_
  refine va_callv (va_runI (As := []) (rest := [.ref (s.heap.size + 0)]) C0 (met_X7_init l dC dI cyI cyE tC s.heap.size _ (va_up_self _ _ _) σ1 hf1) (cwI 0 hts (bw_all hT mc_X7_init) rfl rfl rfl (hts _ (bw_tbl mz_X7)) (hts _ (bw_tbl ml_L_36)) (hts _ (bw_tbl mi_X7_init)) rfl (by decide +kernel) ⟨Nat.le_of_ble_eq_true rfl, Nat.le_of_ble_eq_true rfl⟩) ⟨kx_blind, fun U hU hW => ⟨rfl, by rw [hU]; exact hG, by rw [hU]; exact hkE.call hW hS⟩⟩ rfl rfl hl.1 rfl (Nat.le_of_ble_eq_true rfl) dL_law_4 ⟨Nat.le_of_ble_eq_true rfl, Nat.le_of_ble_eq_true rfl⟩) hS (fun q _ h => h) (fun q h => h) (fun u t H2 locs2 ht hvm hw hPD hz hk hS => ?_)
  rw [ht] at hPD
  have hB1 : s.heap.size + 77 ≤ H2.size := by
    have h0 := (hPD 4 _ (ax_get (by decide))).lt
    have e0 : offD 4 = 75 := rfl
    have h1 := (hPD 29 _ (ax_get (by decide))).lt
    have e1 : offD 29 = 76 := rfl
    have h2 : s.heap.size + 76 < H2.size := h1
    omega
  clear ht hw hz hk
  refine lv_astore_n (lv' := [(1, .ref (s.heap.size + 0)), (0, .ref b)]) hx hb dL_law_7 rfl hl (by decide) rfl (fun ls hl => ?_)
  -- the reference
  have hKn := hK.1 6 (RX8, TX8, 19) rfl
  refine W.newcK (c := c) hx hb hown (hts _ (bw_tbl mq_L_37)) (hts _ (bw_tbl mn_X8)) (hts _ (bw_tbl mz_X8)) rfl dL_law_8 (Nat.le_of_ble_eq_true rfl) (Nat.le_of_ble_eq_true rfl) hKn.2.1 rfl fun H3 kC hkC e1 z1 o1 => ?_
  have hPD3 := hPD.kept (H1 := H3) (fun k q hk => o1 q.1 (hPD k q hk).lt)
  have hS3 : va_S (rA s.heap.size) s.heap H3 locs2 := rg_grow hS rfl z1 o1
  have hG3 : rg dC dI H2.size 1 (va_up (fun _ => oArr cyI 0) 0 (.inr (6, [.int 0, .null, .null, .int 0, .null, .int 0, .int 0, .null, .null, .null, .null, .int 0, .int 0, .int 0, .null, .int 0, .null, .null, .null]))) H3 := ⟨z1, ax_push (k := 0) (ad := fun i => H2.size + i) (c := fun _ => oArr cyI 0) (H := H2) (fun k q h => by simp [ax_w] at h) o1 ⟨_, rfl, (u_born tyX8 hts (fun w h => hT w (inX8 w h)) hKn hkC e1 tyX8_ok).to (fun j hj => by rcases (show j = 0 ∨ j = 1 ∨ j = 2 ∨ j = 3 ∨ j = 4 ∨ j = 5 ∨ j = 6 ∨ j = 7 ∨ j = 8 ∨ j = 9 ∨ j = 10 ∨ j = 11 ∨ j = 12 ∨ j = 13 ∨ j = 14 ∨ j = 15 ∨ j = 16 ∨ j = 17 ∨ j = 18 by omega) with rfl | rfl | rfl | rfl | rfl | rfl | rfl | rfl | rfl | rfl | rfl | rfl | rfl | rfl | rfl | rfl | rfl | rfl | rfl <;> rfl)⟩⟩
  refine W.eq (g2 := F0 m 11 ls [.ref (H2.size + 0)]) rfl ?_
  refine lv_dup hx hb dL_law_11 rfl ?_
  have hE2 : ∀ U : State, U.heap = H3 → s.WarmedH U.vm → kE dC dI cyI cyE tC (rA H2.size) U U.heap := fun U hU hW => by
    rw [hU]
    exact ⟨hkE.1.call hW hS3 (fun q h => Nat.le_trans (by omega) h), hkE.2.1.moved hW.alike, fun q hq => va_Nw.warmM hW (hkE.2.2 q hq)⟩
  refine va_callv (va_runI (As := []) (rest := [.ref (H2.size + 0)]) C0 (met_X8_init l dC dI cyI cyE tC H2.size _ (va_up_self _ _ _)) (cwI 0 hts (bw_all hT mc_X8_init) rfl rfl rfl (hts _ (bw_tbl mz_X8)) (hts _ (bw_tbl ml_L_39)) (hts _ (bw_tbl mi_X8_init)) rfl (by decide +kernel) ⟨Nat.le_of_ble_eq_true rfl, Nat.le_of_ble_eq_true rfl⟩) ⟨kx_blind, fun U hU hW => ⟨rfl, by rw [hU]; exact hG3, hE2 U hU hW⟩⟩ rfl rfl hl.1 rfl (Nat.le_of_ble_eq_true rfl) dL_law_12 ⟨Nat.le_of_ble_eq_true rfl, Nat.le_of_ble_eq_true rfl⟩) hS3 (fun q _ h => Nat.le_trans (by omega) h) (fun q h => Nat.le_trans (by omega) h) (fun u t H4 locs4 ht hvm hw hPM hz hk hS4 => ?_)
  rw [ht] at hPM
  have hPD4 := hPD3.kept (H1 := H4) (fun k q hq => by
    have h9 : q.1 < H2.size := (hPD k q hq).lt
    exact hk q.1 (by rw [z1]; omega) (by show ¬ H2.size ≤ q.1; omega))
  have hB2 : H2.size + 12 ≤ H4.size := by
    have h1 := (hPM 10 _ (ax_get (by decide))).lt
    have h2 : H2.size + 11 < H4.size := h1
    omega
  clear ht hw hz hk
  refine lv_astore_n (lv' := [(2, .ref (H2.size + 0)), (1, .ref (s.heap.size + 0)), (0, .ref b)]) hx hb dL_law_15 rfl hl (by decide) rfl (fun ls hl => ?_)
  refine lv_iconst (v := 1) hx hb dL_law_16 (by decide) ?_
  refine va_newaK (atype := .long) (N := 1) hx hb (hts _ (bw_tbl ma_long)) rfl dL_law_17 rfl (by decide) (by decide) (by decide) (Nat.le_of_ble_eq_true rfl) (Nat.le_of_ble_eq_true rfl) rfl fun H5 cA e5 z5 o5 hAr hNm => ?_
  have hcy : cA = cyL := Option.some.inj (hNm.symm.trans (hEL.2.2.1.2 0 (cyL, .long) rfl).2)
  subst hcy
  have hS5 : va_S (rA s.heap.size) s.heap H5 locs4 := rg_grow hS4 rfl z5 o5
  have hPD5 := cD_to (a2 := adF s.heap.size H2.size H4.size) (fun i hi => (adF_1 hi).symm) hE20 (hPD4.kept (H1 := H5) (fun k q hq => o5 q.1 (hPD4 k q hq).lt))
  have hPM5 := cM_to (a2 := aM (adF s.heap.size H2.size H4.size)) (fun i hi => (adF_2 hi).symm) (hPM.kept (H1 := H5) (fun k q hq => o5 q.1 (hPM k q hq).lt))
  have hP : va_P (dC, dI) vwCl (ax_w 90 (adF s.heap.size H2.size H4.size) (cL cyI cyE cA (adF s.heap.size H2.size H4.size) (σ1, τ0, fun _ => 0))) H5 := by
    intro i q hi
    obtain ⟨hk, rfl⟩ := ax_inv hi
    rcases (show i < 77 ∨ (77 ≤ i ∧ i < 89) ∨ i = 89 by omega) with a | a | a
    · rw [cL_1 a]; exact hPD5 i _ (ax_get a)
    · obtain ⟨k, rfl⟩ : ∃ k, i = 77 + k := ⟨i - 77, by omega⟩
      rw [cL_2 (by omega)]
      exact hPM5 k _ (ax_get (by omega))
    · subst a
      show H5[H4.size]? = some (vp_cell _ _)
      rw [vp_cell_l]
      exact e5
  refine W.eq (g2 := F0 m 19 ls [.ref (adF s.heap.size H2.size H4.size 89)]) rfl ?_
  refine lv_astore_n (lv' := [(3, .ref (adF s.heap.size H2.size H4.size 89)), (2, .ref (H2.size + 0)), (1, .ref (s.heap.size + 0)), (0, .ref b)]) hx hb dL_law_19 rfl hl (by decide) rfl (fun ls hl => ?_)
  refine lv_iconst (v := 0) hx hb dL_law_20 (by decide) ?_
  refine lv_istore (lv' := [(4, .int 0), (3, .ref (adF s.heap.size H2.size H4.size 89)), (2, .ref (H2.size + 0)), (1, .ref (s.heap.size + 0)), (0, .ref b)]) hx hb dL_law_21 hl (by decide) rfl (fun ls hl => ?_)
  refine W.widen (k := 1000) (n := 1000000) (Nat.le_of_ble_eq_true rfl) (Nat.le_of_ble_eq_true rfl) ?_
  exact law_loop W0 (adF_J hB1 hB2) (fun i hi => by
    rcases (show i < 77 ∨ (77 ≤ i ∧ i < 89) ∨ i = 89 by omega) with a | a | a
    · rw [adF_1 a]; omega
    · obtain ⟨k, rfl⟩ : ∃ k, i = 77 + k := ⟨i - 77, by omega⟩
      rw [adF_2 (by omega)]; omega
    · subst a; rw [adF_3]; omega) hEL 600 _ _ 1000 1000000 (by decide) (by decide) _ _ _ hP hS5 (lv_sub hl [4, 3, 2, 1, 0] rfl) (hlaw L xs hL)
