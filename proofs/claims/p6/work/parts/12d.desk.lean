abbrev offL : List Nat := [1, 3, 5, 9, 75, 12, 15, 18, 21, 24, 27, 30, 33, 36, 39, 42, 45, 48, 51, 54, 57, 60, 63, 66, 69, 2, 4, 6, 10, 76, 13, 16, 19, 22, 25, 28, 31, 34, 37, 40, 43, 46, 49, 52, 55, 58, 61, 64, 67, 70, 72, 73, 11, 14, 17, 20, 23, 26, 29, 32, 35, 38, 41, 44, 47, 50, 53, 56, 59, 62, 65, 68, 8, 74, 71, 7, 0]
def offD (i : Nat) : Nat := offL.getD i 0
abbrev adD (B : Nat) : Nat → Nat := fun i => B + offD i
theorem offD_J : ∀ i, i < 77 → ∀ j, j < 77 → offD i = offD j → i = j := by decide +kernel
theorem adD_J (B : Nat) : ax_J 77 (adD B) := fun i j hi hj h => offD_J i hi j hj (by have h : B + offD i = B + offD j := h; omega)
def σ0 : SD := (fun f _ => if f = 9 ∨ f = 10 ∨ f = 11 then -1 else 0, fun _ => 0, fun _ _ => 0, fun k => k)
def τ0 : SM := (fun f => if f = 5 ∨ f = 6 then -1 else 0, fun _ _ => 0)
abbrev offM (j : Nat) : Nat := if j < 11 then j + 1 else 0
theorem vp_q_congr {cA : ClassId} {n : Nat} {f g : Nat → Option Nat} (h : ∀ i, i < n → f i = g i) : vp_cell cA (n, .inr (.inr (.inr (.inr f)))) = vp_cell cA (n, .inr (.inr (.inr (.inr g)))) := by
  rw [vp_cell_q, vp_cell_q]
  unfold arrV
  congr 1
  apply Array.ext
  · simp
  · intro i h1 h2
    have hi : i < n := by simpa using h1
    simp [h i hi]
def rm_Dk : Room := { frames := 4, cells := 76, slots := 26348, locals := 120 }
set_option maxHeartbeats 4000000 in
set_option maxRecDepth 100000 in
theorem met_X7_init (l : Launch) (dC : Nat → ClassId) (dI : Nat → Nat → Nat) (cyI cyE : ClassId) (tC : Nat) (B : Nat) (c : Nat → va_E) (he : c 0 = .inr (5, [.null, .null, .null, .null, .null])) (σ1 : SD) (hf : f_X4_blank σ0 0 = some σ1) : Met l yX7_init (wsY yX7_init cX7_init 1 none) rm_Dk (va_Pc [.ref (B + 0)] (fun U => rg dC dI B 1 c U.heap ∧ kE dC dI cyI cyE tC (rA B) U U.heap)) (va_Qv (fun _ : Unit => True) (fun _ t => va_P (dC, dI) vwCl (ax_w 77 (adD B) (cD cyI cyE (adD B) σ1)) t.heap) (rA B)) rm_Dk.cells rm_Dk.slots (rA B) := by
  refine Met.ofW (cc := cX7_init) (maxL := 1) (ret := none) (by decide) rfl ?_
  intro p e s m args below meth c0 s₁ B0 hml hv
  obtain ⟨hargs, hG, hE⟩ := hv
  have hx := B0.exec
  have hb := B0.bytes
  have hr := B0.returns
  have hlocks := B0.notSynchronized
  have hin : meth.name = "<init>" := (name_of_methodNamed B0.named B0.method).1
  have hts := atoms_spec (ws := wsY yX7_init cX7_init 1 none) B0.pre
  have hown : s.vm.findClass RX7 = some m.cls := findClass_of_methodNamed B0.named
  have C0 : CallFix p m c0 cX7_init 1 s args (wsY yX7_init cX7_init 1 none) RX7 := ⟨hx, hb, hml, hown, hts⟩
  have hT : ∀ w ∈ bw, w ∈ wsY yX7_init cX7_init 1 none := fun w h => List.mem_cons_of_mem _ h
  have hK := hE.1.1
  have hS : va_S (rA B) s.heap s.heap [] := va_S.rf
  rw [show entryFrame m args 1 = entryFrame m ([.ref (B + 0)] : List Value).toArray 1 by rw [hargs]]
  have hl := lv_entry ([.ref (B + 0)]) (n := 1) (Nat.le_of_ble_eq_true rfl)
  rw [lg_entry_eq]
  generalize (lg_sl ([.ref (B + 0)]) ++ List.replicate (1 - (lg_sl ([.ref (B + 0)])).length) Slot.unset).toArray = ls at hl ⊢
  show W p l e rm_Dk s m args below meth c0 s.heap [] 0 0 _ _
  have hl : lv_has ls 1 [(0, .ref (B + 0))] := hl
  refine lv_aload_n hx hb dX7_init_0 rfl (lv_at hl 0 rfl) ?_
  refine W.objInit hx hb hown (C0.2.2.2.2 _ (hT _ ml_X7_1)) (C0.2.2.2.2 _ (hT _ mi_obj)) (C0.2.2.2.2 _ (hT _ mc_obj)) rfl (by rw [hml]; exact hl.1) rfl dX7_init_1 (Nat.le_of_ble_eq_true rfl) (Nat.le_of_ble_eq_true rfl) ?_
  refine W.eq (g2 := F0 m 4 ls []) rfl ?_
  refine lv_aload_n hx hb dX7_init_4 rfl (lv_at hl 0 rfl) ?_
  refine rg_new (C := RX4) (T := TX4) (N := 2) (ci := 3) (fs := [.null, .int 0]) C0 hT hK inX4 tyX4 tyX4_ok mq_X7_7 mn_X4 mz_X4 rfl (fun j hj => by rcases (show j = 0 ∨ j = 1 by omega) with rfl | rfl <;> rfl) hG hS (Nat.le_of_ble_eq_true rfl) (Nat.le_of_ble_eq_true rfl) dX7_init_5 (fun H hG hS => ?_)
  refine lv_dup hx hb dX7_init_8 rfl ?_
  refine lv_bipush (v := 20) hx hb dX7_init_9 (by decide) ?_
  refine rg_callI (j := 1) (kn := 1) (k' := 3) [.int 20] false C0 hT hE (met_X4_init l dC dI cyI cyE tC B 2 1 _ 20 20 (by decide) rfl (by decide) (by decide) (by decide)) hG hS mc_X4_init (fun h => ml_X7_11) (fun h => by cases h) mi_X4_init mz_X4 rfl (by decide +kernel) ⟨Nat.le_of_ble_eq_true rfl, Nat.le_of_ble_eq_true rfl⟩ rfl rfl hl.1 (Nat.le_of_ble_eq_true rfl) dX7_init_11 ⟨Nat.le_of_ble_eq_true rfl, Nat.le_of_ble_eq_true rfl⟩ (fun H locs hG hS => ?_)
  refine rg_put (C := RX7) (T := TX7) (N := 5) (ci := 5) (j := 0) (f := 0) (ty := (.object "ArchiveDesk$Row")) true C0 hT hK inX7 tyX7 tyX7_ok nmX7 hG hS (by decide) (by first | rfl | exact he | (simp only [va_up]; first | rfl | exact he)) rfl (by decide) mf_X7_14 rfl (fun _ => hin) rfl (by decide +kernel) rfl rfl (Nat.le_of_ble_eq_true rfl) dX7_init_14 (fun H locs hG hS => ?_)
  refine lv_aload_n hx hb dX7_init_17 rfl (lv_at hl 0 rfl) ?_
  refine rg_new (C := RX4) (T := TX4) (N := 2) (ci := 3) (fs := [.null, .int 0]) C0 hT hK inX4 tyX4 tyX4_ok mq_X7_7 mn_X4 mz_X4 rfl (fun j hj => by rcases (show j = 0 ∨ j = 1 by omega) with rfl | rfl <;> rfl) hG hS (Nat.le_of_ble_eq_true rfl) (Nat.le_of_ble_eq_true rfl) dX7_init_18 (fun H hG hS => ?_)
  refine lv_dup hx hb dX7_init_21 rfl ?_
  refine lv_sipush (v := 9000) hx hb dX7_init_22 (by decide) ?_
  refine rg_callI (j := 3) (kn := 1) (k' := 5) [.int 9000] false C0 hT hE (met_X4_init l dC dI cyI cyE tC B 4 3 _ 9000 9000 (by decide) rfl (by decide) (by decide) (by decide)) hG hS mc_X4_init (fun h => ml_X7_11) (fun h => by cases h) mi_X4_init mz_X4 rfl (by decide +kernel) ⟨Nat.le_of_ble_eq_true rfl, Nat.le_of_ble_eq_true rfl⟩ rfl rfl hl.1 (Nat.le_of_ble_eq_true rfl) dX7_init_25 ⟨Nat.le_of_ble_eq_true rfl, Nat.le_of_ble_eq_true rfl⟩ (fun H locs hG hS => ?_)
  refine rg_put (C := RX7) (T := TX7) (N := 5) (ci := 5) (j := 0) (f := 1) (ty := (.object "ArchiveDesk$Row")) true C0 hT hK inX7 tyX7 tyX7_ok nmX7 hG hS (by decide) (by first | rfl | exact he | (simp only [va_up]; first | rfl | exact he)) rfl (by decide) mf_X7_18 rfl (fun _ => hin) rfl (by decide +kernel) rfl rfl (Nat.le_of_ble_eq_true rfl) dX7_init_28 (fun H locs hG hS => ?_)
  refine lv_aload_n hx hb dX7_init_31 rfl (lv_at hl 0 rfl) ?_
  refine rg_new (C := RX4) (T := TX4) (N := 2) (ci := 3) (fs := [.null, .int 0]) C0 hT hK inX4 tyX4 tyX4_ok mq_X7_7 mn_X4 mz_X4 rfl (fun j hj => by rcases (show j = 0 ∨ j = 1 by omega) with rfl | rfl <;> rfl) hG hS (Nat.le_of_ble_eq_true rfl) (Nat.le_of_ble_eq_true rfl) dX7_init_32 (fun H hG hS => ?_)
  refine lv_dup hx hb dX7_init_35 rfl ?_
  refine lv_sipush (v := 9000) hx hb dX7_init_36 (by decide) ?_
  refine rg_callI (j := 5) (kn := 1) (k' := 7) [.int 9000] false C0 hT hE (met_X4_init l dC dI cyI cyE tC B 6 5 _ 9000 9000 (by decide) rfl (by decide) (by decide) (by decide)) hG hS mc_X4_init (fun h => ml_X7_11) (fun h => by cases h) mi_X4_init mz_X4 rfl (by decide +kernel) ⟨Nat.le_of_ble_eq_true rfl, Nat.le_of_ble_eq_true rfl⟩ rfl rfl hl.1 (Nat.le_of_ble_eq_true rfl) dX7_init_39 ⟨Nat.le_of_ble_eq_true rfl, Nat.le_of_ble_eq_true rfl⟩ (fun H locs hG hS => ?_)
  refine rg_put (C := RX7) (T := TX7) (N := 5) (ci := 5) (j := 0) (f := 2) (ty := (.object "ArchiveDesk$Row")) true C0 hT hK inX7 tyX7 tyX7_ok nmX7 hG hS (by decide) (by first | rfl | exact he | (simp only [va_up]; first | rfl | exact he)) rfl (by decide) mf_X7_21 rfl (fun _ => hin) rfl (by decide +kernel) rfl rfl (Nat.le_of_ble_eq_true rfl) dX7_init_42 (fun H locs hG hS => ?_)
  refine lv_aload_n hx hb dX7_init_45 rfl (lv_at hl 0 rfl) ?_
  refine rg_new (C := RX5) (T := TX5) (N := 3) (ci := 4) (fs := [.null, .null, .int 0]) C0 hT hK inX5 tyX5 tyX5_ok mq_X7_24 mn_X5 mz_X5 rfl (fun j hj => by rcases (show j = 0 ∨ j = 1 ∨ j = 2 by omega) with rfl | rfl | rfl <;> rfl) hG hS (Nat.le_of_ble_eq_true rfl) (Nat.le_of_ble_eq_true rfl) dX7_init_46 (fun H hG hS => ?_)
  refine lv_dup hx hb dX7_init_49 rfl ?_
  refine rg_callI (j := 7) (kn := 0) (k' := 71) [] false C0 hT hE (met_X5_init l dC dI cyI cyE tC B _ rfl) hG hS mc_X5_init (fun h => ml_X7_26) (fun h => by cases h) mi_X5_init mz_X5 rfl (by decide +kernel) ⟨Nat.le_of_ble_eq_true rfl, Nat.le_of_ble_eq_true rfl⟩ rfl rfl hl.1 (Nat.le_of_ble_eq_true rfl) dX7_init_50 ⟨Nat.le_of_ble_eq_true rfl, Nat.le_of_ble_eq_true rfl⟩ (fun H locs hG hS => ?_)
  refine rg_put (C := RX7) (T := TX7) (N := 5) (ci := 5) (j := 0) (f := 3) (ty := (.object "ArchiveDesk$Shelf")) true C0 hT hK inX7 tyX7 tyX7_ok nmX7 hG hS (by decide) (by simp only [shC]; first | rfl | exact he) rfl (by decide) mf_X7_27 rfl (fun _ => hin) rfl (by decide +kernel) rfl rfl (Nat.le_of_ble_eq_true rfl) dX7_init_53 (fun H locs hG hS => ?_)
  refine lv_aload_n hx hb dX7_init_56 rfl (lv_at hl 0 rfl) ?_
  refine rg_new (C := RX3) (T := TX3) (N := 10) (ci := 2) (fs := [.null, .null, .null, .null, .int 0, .int 0, .int 0, .int 0, .int 0, .int 0]) C0 hT hK inX3 tyX3 tyX3_ok mq_X7_31 mn_X3 mz_X3 rfl (fun j hj => by rcases (show j = 0 ∨ j = 1 ∨ j = 2 ∨ j = 3 ∨ j = 4 ∨ j = 5 ∨ j = 6 ∨ j = 7 ∨ j = 8 ∨ j = 9 by omega) with rfl | rfl | rfl | rfl | rfl | rfl | rfl | rfl | rfl | rfl <;> rfl) hG hS (Nat.le_of_ble_eq_true rfl) (Nat.le_of_ble_eq_true rfl) dX7_init_57 (fun H hG hS => ?_)
  refine lv_dup hx hb dX7_init_60 rfl ?_
  refine rg_callI (j := 71) (kn := 0) (k' := 77) [] true C0 hT hE (met_X3_init l dC dI cyI cyE tC B _ rfl) hG hS mc_X3_init (fun h => by cases h) (fun h => by decide) mi_X3_init mz_X3 rfl (by decide +kernel) ⟨Nat.le_of_ble_eq_true rfl, Nat.le_of_ble_eq_true rfl⟩ rfl rfl hl.1 (Nat.le_of_ble_eq_true rfl) dX7_init_61 ⟨Nat.le_of_ble_eq_true rfl, Nat.le_of_ble_eq_true rfl⟩ (fun H locs hG hS => ?_)
  refine rg_put (C := RX7) (T := TX7) (N := 5) (ci := 5) (j := 0) (f := 4) (ty := (.object "ArchiveDesk$Reader")) true C0 hT hK inX7 tyX7 tyX7_ok nmX7 hG hS (by decide) (by simp only [rdC]; first | rfl | exact he) rfl (by decide) mf_X7_34 rfl (fun _ => hin) rfl (by decide +kernel) rfl rfl (Nat.le_of_ble_eq_true rfl) dX7_init_64 (fun H locs hG hS => ?_)
  have hP : va_P (dC, dI) vwCl (ax_w 77 (adD B) (cD cyI cyE (adD B) σ0)) H := by
    intro i q hi
    obtain ⟨hk, rfl⟩ := ax_inv hi
    match i, hk with
    | 0, _ => exact hG.2 1 _ (ax_at (ad := fun i => B + i) (by decide) rfl)
    | 1, _ => exact hG.2 3 _ (ax_at (ad := fun i => B + i) (by decide) rfl)
    | 2, _ => exact hG.2 5 _ (ax_at (ad := fun i => B + i) (by decide) rfl)
    | 3, _ => exact hG.2 9 _ (ax_at (ad := fun i => B + i) (by decide) rfl)
    | 4, _ => exact hG.2 75 _ (ax_at (ad := fun i => B + i) (by decide) rfl)
    | 5, _ => exact hG.2 12 _ (ax_at (ad := fun i => B + i) (by decide) rfl)
    | 6, _ => exact hG.2 15 _ (ax_at (ad := fun i => B + i) (by decide) rfl)
    | 7, _ => exact hG.2 18 _ (ax_at (ad := fun i => B + i) (by decide) rfl)
    | 8, _ => exact hG.2 21 _ (ax_at (ad := fun i => B + i) (by decide) rfl)
    | 9, _ => exact hG.2 24 _ (ax_at (ad := fun i => B + i) (by decide) rfl)
    | 10, _ => exact hG.2 27 _ (ax_at (ad := fun i => B + i) (by decide) rfl)
    | 11, _ => exact hG.2 30 _ (ax_at (ad := fun i => B + i) (by decide) rfl)
    | 12, _ => exact hG.2 33 _ (ax_at (ad := fun i => B + i) (by decide) rfl)
    | 13, _ => exact hG.2 36 _ (ax_at (ad := fun i => B + i) (by decide) rfl)
    | 14, _ => exact hG.2 39 _ (ax_at (ad := fun i => B + i) (by decide) rfl)
    | 15, _ => exact hG.2 42 _ (ax_at (ad := fun i => B + i) (by decide) rfl)
    | 16, _ => exact hG.2 45 _ (ax_at (ad := fun i => B + i) (by decide) rfl)
    | 17, _ => exact hG.2 48 _ (ax_at (ad := fun i => B + i) (by decide) rfl)
    | 18, _ => exact hG.2 51 _ (ax_at (ad := fun i => B + i) (by decide) rfl)
    | 19, _ => exact hG.2 54 _ (ax_at (ad := fun i => B + i) (by decide) rfl)
    | 20, _ => exact hG.2 57 _ (ax_at (ad := fun i => B + i) (by decide) rfl)
    | 21, _ => exact hG.2 60 _ (ax_at (ad := fun i => B + i) (by decide) rfl)
    | 22, _ => exact hG.2 63 _ (ax_at (ad := fun i => B + i) (by decide) rfl)
    | 23, _ => exact hG.2 66 _ (ax_at (ad := fun i => B + i) (by decide) rfl)
    | 24, _ => exact hG.2 69 _ (ax_at (ad := fun i => B + i) (by decide) rfl)
    | 25, _ => exact hG.2 2 _ (ax_at (ad := fun i => B + i) (by decide) rfl)
    | 26, _ => exact hG.2 4 _ (ax_at (ad := fun i => B + i) (by decide) rfl)
    | 27, _ => exact hG.2 6 _ (ax_at (ad := fun i => B + i) (by decide) rfl)
    | 28, _ => exact hG.2 10 _ (ax_at (ad := fun i => B + i) (by decide) rfl)
    | 29, _ => exact hG.2 76 _ (ax_at (ad := fun i => B + i) (by decide) rfl)
    | 30, _ => exact hG.2 13 _ (ax_at (ad := fun i => B + i) (by decide) rfl)
    | 31, _ => exact hG.2 16 _ (ax_at (ad := fun i => B + i) (by decide) rfl)
    | 32, _ => exact hG.2 19 _ (ax_at (ad := fun i => B + i) (by decide) rfl)
    | 33, _ => exact hG.2 22 _ (ax_at (ad := fun i => B + i) (by decide) rfl)
    | 34, _ => exact hG.2 25 _ (ax_at (ad := fun i => B + i) (by decide) rfl)
    | 35, _ => exact hG.2 28 _ (ax_at (ad := fun i => B + i) (by decide) rfl)
    | 36, _ => exact hG.2 31 _ (ax_at (ad := fun i => B + i) (by decide) rfl)
    | 37, _ => exact hG.2 34 _ (ax_at (ad := fun i => B + i) (by decide) rfl)
    | 38, _ => exact hG.2 37 _ (ax_at (ad := fun i => B + i) (by decide) rfl)
    | 39, _ => exact hG.2 40 _ (ax_at (ad := fun i => B + i) (by decide) rfl)
    | 40, _ => exact hG.2 43 _ (ax_at (ad := fun i => B + i) (by decide) rfl)
    | 41, _ => exact hG.2 46 _ (ax_at (ad := fun i => B + i) (by decide) rfl)
    | 42, _ => exact hG.2 49 _ (ax_at (ad := fun i => B + i) (by decide) rfl)
    | 43, _ => exact hG.2 52 _ (ax_at (ad := fun i => B + i) (by decide) rfl)
    | 44, _ => exact hG.2 55 _ (ax_at (ad := fun i => B + i) (by decide) rfl)
    | 45, _ => exact hG.2 58 _ (ax_at (ad := fun i => B + i) (by decide) rfl)
    | 46, _ => exact hG.2 61 _ (ax_at (ad := fun i => B + i) (by decide) rfl)
    | 47, _ => exact hG.2 64 _ (ax_at (ad := fun i => B + i) (by decide) rfl)
    | 48, _ => exact hG.2 67 _ (ax_at (ad := fun i => B + i) (by decide) rfl)
    | 49, _ => exact hG.2 70 _ (ax_at (ad := fun i => B + i) (by decide) rfl)
    | 50, _ => exact hG.2 72 _ (ax_at (ad := fun i => B + i) (by decide) rfl)
    | 51, _ => exact hG.2 73 _ (ax_at (ad := fun i => B + i) (by decide) rfl)
    | 52, _ => exact hG.2 11 _ (ax_at (ad := fun i => B + i) (by decide) rfl)
    | 53, _ => exact hG.2 14 _ (ax_at (ad := fun i => B + i) (by decide) rfl)
    | 54, _ => exact hG.2 17 _ (ax_at (ad := fun i => B + i) (by decide) rfl)
    | 55, _ => exact hG.2 20 _ (ax_at (ad := fun i => B + i) (by decide) rfl)
    | 56, _ => exact hG.2 23 _ (ax_at (ad := fun i => B + i) (by decide) rfl)
    | 57, _ => exact hG.2 26 _ (ax_at (ad := fun i => B + i) (by decide) rfl)
    | 58, _ => exact hG.2 29 _ (ax_at (ad := fun i => B + i) (by decide) rfl)
    | 59, _ => exact hG.2 32 _ (ax_at (ad := fun i => B + i) (by decide) rfl)
    | 60, _ => exact hG.2 35 _ (ax_at (ad := fun i => B + i) (by decide) rfl)
    | 61, _ => exact hG.2 38 _ (ax_at (ad := fun i => B + i) (by decide) rfl)
    | 62, _ => exact hG.2 41 _ (ax_at (ad := fun i => B + i) (by decide) rfl)
    | 63, _ => exact hG.2 44 _ (ax_at (ad := fun i => B + i) (by decide) rfl)
    | 64, _ => exact hG.2 47 _ (ax_at (ad := fun i => B + i) (by decide) rfl)
    | 65, _ => exact hG.2 50 _ (ax_at (ad := fun i => B + i) (by decide) rfl)
    | 66, _ => exact hG.2 53 _ (ax_at (ad := fun i => B + i) (by decide) rfl)
    | 67, _ => exact hG.2 56 _ (ax_at (ad := fun i => B + i) (by decide) rfl)
    | 68, _ => exact hG.2 59 _ (ax_at (ad := fun i => B + i) (by decide) rfl)
    | 69, _ => exact hG.2 62 _ (ax_at (ad := fun i => B + i) (by decide) rfl)
    | 70, _ => exact hG.2 65 _ (ax_at (ad := fun i => B + i) (by decide) rfl)
    | 71, _ => exact hG.2 68 _ (ax_at (ad := fun i => B + i) (by decide) rfl)
    | 72, _ => exact (show H[B + 8]? = some (vp_cell _ _) from (hG.2 8 _ (ax_at (ad := fun i => B + i) (by decide) rfl : _ = some (B + 8, _))).trans (congrArg some (vp_q_congr (fun k hk => by
      have h1 : offD (52 + k) = 11 + 3 * k := (show ∀ k, k < 20 → offD (52 + k) = 11 + 3 * k by decide +kernel) k hk
      show (if k < 20 then some (B + (11 + 3 * k)) else none) = some (B + offD (52 + k))
      rw [if_pos hk, h1]))))
    | 73, _ => exact hG.2 74 _ (ax_at (ad := fun i => B + i) (by decide) rfl)
    | 74, _ => exact hG.2 71 _ (ax_at (ad := fun i => B + i) (by decide) rfl)
    | 75, _ => exact hG.2 7 _ (ax_at (ad := fun i => B + i) (by decide) rfl)
    | 76, _ => exact hG.2 0 _ (ax_at (ad := fun i => B + i) (by decide) rfl)
    | n + 77, h => exact absurd h (by omega)
  refine lv_aload_n hx hb dX7_init_67 rfl (lv_at hl 0 rfl) ?_
  refine rg_get (C := RX7) (T := TX7) (N := 5) (ci := 5) (j := 0) (f := 0) C0 hT hK inX7 hG (by decide) rfl rfl (by decide) mf_X7_14 rfl dX7_init_68 ?_
  have hF : ∀ q, ax_A 77 (adD B) H.size q → rA B q := fun q h => h.elim (fun ⟨i, hi, e⟩ => e ▸ Nat.le_add_right B _) (fun h => Nat.le_trans (by rw [hG.1]; exact Nat.le_add_right B 77) h)
  refine va_callv (va_runV (As := []) (rest := []) C0 (met_X4_blank l dC dI cyI cyE tC (adD B) σ0 0 (by decide) σ1 hf H.size) (cwV 0 C0.2.2.2.2 (bw_V hT mc_X4_blank ml_X7_38 mi_X4_blank ms_X4_blank mz_X4) rfl rfl rfl (by decide +kernel) ⟨Nat.le_of_ble_eq_true rfl, Nat.le_of_ble_eq_true rfl⟩) ⟨ax_blind, va_recv (ci := 3) (q0 := 0) hK hP rfl (ax_at (by decide) (cD_Row (by decide))), fun U hU hW => ⟨rfl, by rw [hU], by rw [hU]; exact hP, adD_J B, by rw [hU]; exact hE.1.call hW hS hF⟩⟩ rfl rfl hl.1 rfl (Nat.le_of_ble_eq_true rfl) dX7_init_71 ⟨Nat.le_of_ble_eq_true rfl, Nat.le_of_ble_eq_true rfl⟩) hS (fun q _ h => hF q h) hF (fun u t H1 locs1 ht hvm hw hB hz hk hS1 => ?_)
  subst hw
  exact W.vret hx hb hr (fun t2 ht2 hW => ⟨⟨(), rfl, trivial, by show va_P _ _ _ t2.heap; rw [ht2, ← ht]; exact hB⟩, hS1.F ht2⟩) hS1.2.2 dX7_init_74 hlocks
def rm_Md : Room := { frames := 1, cells := 11, slots := 51853, locals := 30 }
set_option maxHeartbeats 4000000 in
set_option maxRecDepth 100000 in
theorem met_X8_init (l : Launch) (dC : Nat → ClassId) (dI : Nat → Nat → Nat) (cyI cyE : ClassId) (tC : Nat) (B : Nat) (c : Nat → va_E) (he : c 0 = .inr (6, [.int 0, .null, .null, .int 0, .null, .int 0, .int 0, .null, .null, .null, .null, .int 0, .int 0, .int 0, .null, .int 0, .null, .null, .null])) : Met l yX8_init (wsY yX8_init cX8_init 1 none) rm_Md (va_Pc [.ref (B + 0)] (fun U => rg dC dI B 1 c U.heap ∧ kE dC dI cyI cyE tC (rA B) U U.heap)) (va_Qv (fun _ : Unit => True) (fun _ t => va_P (dC, dI) vwCl (ax_w 12 (fun j => B + offM j) (cM cyI (fun j => B + offM j) τ0)) t.heap) (rA B)) rm_Md.cells rm_Md.slots (rA B) := by
  refine Met.ofW (cc := cX8_init) (maxL := 1) (ret := none) (by decide) rfl ?_
  intro p e s m args below meth c0 s₁ B0 hml hv
  obtain ⟨hargs, hG, hE⟩ := hv
  have hx := B0.exec
  have hb := B0.bytes
  have hr := B0.returns
  have hlocks := B0.notSynchronized
  have hin : meth.name = "<init>" := (name_of_methodNamed B0.named B0.method).1
  have hts := atoms_spec (ws := wsY yX8_init cX8_init 1 none) B0.pre
  have hown : s.vm.findClass RX8 = some m.cls := findClass_of_methodNamed B0.named
  have C0 : CallFix p m c0 cX8_init 1 s args (wsY yX8_init cX8_init 1 none) RX8 := ⟨hx, hb, hml, hown, hts⟩
  have hT : ∀ w ∈ bw, w ∈ wsY yX8_init cX8_init 1 none := fun w h => List.mem_cons_of_mem _ h
  have hK := hE.1.1
  have hS : va_S (rA B) s.heap s.heap [] := va_S.rf
  rw [show entryFrame m args 1 = entryFrame m ([.ref (B + 0)] : List Value).toArray 1 by rw [hargs]]
  have hl := lv_entry ([.ref (B + 0)]) (n := 1) (Nat.le_of_ble_eq_true rfl)
  rw [lg_entry_eq]
  generalize (lg_sl ([.ref (B + 0)]) ++ List.replicate (1 - (lg_sl ([.ref (B + 0)])).length) Slot.unset).toArray = ls at hl ⊢
  show W p l e rm_Md s m args below meth c0 s.heap [] 0 0 _ _
  have hl : lv_has ls 1 [(0, .ref (B + 0))] := hl
  refine lv_aload_n hx hb dX8_init_0 rfl (lv_at hl 0 rfl) ?_
  refine W.objInit hx hb hown (C0.2.2.2.2 _ (hT _ ml_X8_1)) (C0.2.2.2.2 _ (hT _ mi_obj)) (C0.2.2.2.2 _ (hT _ mc_obj)) rfl (by rw [hml]; exact hl.1) rfl dX8_init_1 (Nat.le_of_ble_eq_true rfl) (Nat.le_of_ble_eq_true rfl) ?_
  refine W.eq (g2 := F0 m 4 ls []) rfl ?_
  refine lv_aload_n hx hb dX8_init_4 rfl (lv_at hl 0 rfl) ?_
  refine lv_bipush (v := 20) hx hb dX8_init_5 (by decide) ?_
  refine rg_newa (N := 20) C0 hT hK ma_int hG hS (by decide) (by decide) (by decide) (Nat.le_of_ble_eq_true rfl) (Nat.le_of_ble_eq_true rfl) dX8_init_7 (fun H hG hS => ?_)
  refine rg_put (C := RX8) (T := TX8) (N := 19) (ci := 6) (j := 0) (f := 1) (ty := (.array .int)) true C0 hT hK inX8 tyX8 tyX8_ok nmX8 hG hS (by decide) (by first | rfl | exact he | (simp only [va_up]; first | rfl | exact he)) rfl (by decide) mf_X8_7 rfl (fun _ => hin) rfl (by decide +kernel) rfl rfl (Nat.le_of_ble_eq_true rfl) dX8_init_9 (fun H locs hG hS => ?_)
  refine lv_aload_n hx hb dX8_init_12 rfl (lv_at hl 0 rfl) ?_
  refine lv_sipush (v := 9000) hx hb dX8_init_13 (by decide) ?_
  refine rg_newa (N := 9000) C0 hT hK ma_int hG hS (by decide) (by decide) (by decide) (Nat.le_of_ble_eq_true rfl) (Nat.le_of_ble_eq_true rfl) dX8_init_16 (fun H hG hS => ?_)
  refine rg_put (C := RX8) (T := TX8) (N := 19) (ci := 6) (j := 0) (f := 2) (ty := (.array .int)) true C0 hT hK inX8 tyX8 tyX8_ok nmX8 hG hS (by decide) (by first | rfl | exact he | (simp only [va_up]; first | rfl | exact he)) rfl (by decide) mf_X8_13 rfl (fun _ => hin) rfl (by decide +kernel) rfl rfl (Nat.le_of_ble_eq_true rfl) dX8_init_18 (fun H locs hG hS => ?_)
  refine lv_aload_n hx hb dX8_init_21 rfl (lv_at hl 0 rfl) ?_
  refine lv_sipush (v := 9000) hx hb dX8_init_22 (by decide) ?_
  refine rg_newa (N := 9000) C0 hT hK ma_int hG hS (by decide) (by decide) (by decide) (Nat.le_of_ble_eq_true rfl) (Nat.le_of_ble_eq_true rfl) dX8_init_25 (fun H hG hS => ?_)
  refine rg_put (C := RX8) (T := TX8) (N := 19) (ci := 6) (j := 0) (f := 4) (ty := (.array .int)) true C0 hT hK inX8 tyX8 tyX8_ok nmX8 hG hS (by decide) (by first | rfl | exact he | (simp only [va_up]; first | rfl | exact he)) rfl (by decide) mf_X8_16 rfl (fun _ => hin) rfl (by decide +kernel) rfl rfl (Nat.le_of_ble_eq_true rfl) dX8_init_27 (fun H locs hG hS => ?_)
  refine lv_aload_n hx hb dX8_init_30 rfl (lv_at hl 0 rfl) ?_
  refine lv_sipush (v := 630) hx hb dX8_init_31 (by decide) ?_
  refine rg_newa (N := 630) C0 hT hK ma_int hG hS (by decide) (by decide) (by decide) (Nat.le_of_ble_eq_true rfl) (Nat.le_of_ble_eq_true rfl) dX8_init_34 (fun H hG hS => ?_)
  refine rg_put (C := RX8) (T := TX8) (N := 19) (ci := 6) (j := 0) (f := 7) (ty := (.array .int)) true C0 hT hK inX8 tyX8 tyX8_ok nmX8 hG hS (by decide) (by first | rfl | exact he | (simp only [va_up]; first | rfl | exact he)) rfl (by decide) mf_X8_19 rfl (fun _ => hin) rfl (by decide +kernel) rfl rfl (Nat.le_of_ble_eq_true rfl) dX8_init_36 (fun H locs hG hS => ?_)
  refine lv_aload_n hx hb dX8_init_39 rfl (lv_at hl 0 rfl) ?_
  refine lv_bipush (v := 21) hx hb dX8_init_40 (by decide) ?_
  refine rg_newa (N := 21) C0 hT hK ma_int hG hS (by decide) (by decide) (by decide) (Nat.le_of_ble_eq_true rfl) (Nat.le_of_ble_eq_true rfl) dX8_init_42 (fun H hG hS => ?_)
  refine rg_put (C := RX8) (T := TX8) (N := 19) (ci := 6) (j := 0) (f := 8) (ty := (.array .int)) true C0 hT hK inX8 tyX8 tyX8_ok nmX8 hG hS (by decide) (by first | rfl | exact he | (simp only [va_up]; first | rfl | exact he)) rfl (by decide) mf_X8_22 rfl (fun _ => hin) rfl (by decide +kernel) rfl rfl (Nat.le_of_ble_eq_true rfl) dX8_init_44 (fun H locs hG hS => ?_)
  refine lv_aload_n hx hb dX8_init_47 rfl (lv_at hl 0 rfl) ?_
  refine lv_sipush (v := 31500) hx hb dX8_init_48 (by decide) ?_
  refine rg_newa (N := 31500) C0 hT hK ma_int hG hS (by decide) (by decide) (by decide) (Nat.le_of_ble_eq_true rfl) (Nat.le_of_ble_eq_true rfl) dX8_init_51 (fun H hG hS => ?_)
  refine rg_put (C := RX8) (T := TX8) (N := 19) (ci := 6) (j := 0) (f := 9) (ty := (.array .int)) true C0 hT hK inX8 tyX8 tyX8_ok nmX8 hG hS (by decide) (by first | rfl | exact he | (simp only [va_up]; first | rfl | exact he)) rfl (by decide) mf_X8_25 rfl (fun _ => hin) rfl (by decide +kernel) rfl rfl (Nat.le_of_ble_eq_true rfl) dX8_init_53 (fun H locs hG hS => ?_)
  refine lv_aload_n hx hb dX8_init_56 rfl (lv_at hl 0 rfl) ?_
  refine lv_bipush (v := 21) hx hb dX8_init_57 (by decide) ?_
  refine rg_newa (N := 21) C0 hT hK ma_int hG hS (by decide) (by decide) (by decide) (Nat.le_of_ble_eq_true rfl) (Nat.le_of_ble_eq_true rfl) dX8_init_59 (fun H hG hS => ?_)
  refine rg_put (C := RX8) (T := TX8) (N := 19) (ci := 6) (j := 0) (f := 10) (ty := (.array .int)) true C0 hT hK inX8 tyX8 tyX8_ok nmX8 hG hS (by decide) (by first | rfl | exact he | (simp only [va_up]; first | rfl | exact he)) rfl (by decide) mf_X8_28 rfl (fun _ => hin) rfl (by decide +kernel) rfl rfl (Nat.le_of_ble_eq_true rfl) dX8_init_61 (fun H locs hG hS => ?_)
  refine lv_aload_n hx hb dX8_init_64 rfl (lv_at hl 0 rfl) ?_
  refine lv_iconst (v := -1) hx hb dX8_init_65 (by decide) ?_
  refine rg_put (C := RX8) (T := TX8) (N := 19) (ci := 6) (j := 0) (f := 12) (ty := .int) false C0 hT hK inX8 tyX8 tyX8_ok nmX8 hG hS (by decide) (by first | rfl | exact he | (simp only [va_up]; first | rfl | exact he)) rfl (by decide) mf_X8_31 rfl (fun _ => hin) rfl (by decide +kernel) rfl rfl (Nat.le_of_ble_eq_true rfl) dX8_init_66 (fun H locs hG hS => ?_)
  refine lv_aload_n hx hb dX8_init_69 rfl (lv_at hl 0 rfl) ?_
  refine lv_iconst (v := -1) hx hb dX8_init_70 (by decide) ?_
  refine rg_put (C := RX8) (T := TX8) (N := 19) (ci := 6) (j := 0) (f := 13) (ty := .int) false C0 hT hK inX8 tyX8 tyX8_ok nmX8 hG hS (by decide) (by first | rfl | exact he | (simp only [va_up]; first | rfl | exact he)) rfl (by decide) mf_X8_35 rfl (fun _ => hin) rfl (by decide +kernel) rfl rfl (Nat.le_of_ble_eq_true rfl) dX8_init_71 (fun H locs hG hS => ?_)
  refine lv_aload_n hx hb dX8_init_74 rfl (lv_at hl 0 rfl) ?_
  refine lv_sipush (v := 1600) hx hb dX8_init_75 (by decide) ?_
  refine rg_newa (N := 1600) C0 hT hK ma_int hG hS (by decide) (by decide) (by decide) (Nat.le_of_ble_eq_true rfl) (Nat.le_of_ble_eq_true rfl) dX8_init_78 (fun H hG hS => ?_)
  refine rg_put (C := RX8) (T := TX8) (N := 19) (ci := 6) (j := 0) (f := 14) (ty := (.array .int)) true C0 hT hK inX8 tyX8 tyX8_ok nmX8 hG hS (by decide) (by first | rfl | exact he | (simp only [va_up]; first | rfl | exact he)) rfl (by decide) mf_X8_38 rfl (fun _ => hin) rfl (by decide +kernel) rfl rfl (Nat.le_of_ble_eq_true rfl) dX8_init_80 (fun H locs hG hS => ?_)
  refine lv_aload_n hx hb dX8_init_83 rfl (lv_at hl 0 rfl) ?_
  refine lv_bipush (v := 20) hx hb dX8_init_84 (by decide) ?_
  refine rg_newa (N := 20) C0 hT hK ma_int hG hS (by decide) (by decide) (by decide) (Nat.le_of_ble_eq_true rfl) (Nat.le_of_ble_eq_true rfl) dX8_init_86 (fun H hG hS => ?_)
  refine rg_put (C := RX8) (T := TX8) (N := 19) (ci := 6) (j := 0) (f := 16) (ty := (.array .int)) true C0 hT hK inX8 tyX8 tyX8_ok nmX8 hG hS (by decide) (by first | rfl | exact he | (simp only [va_up]; first | rfl | exact he)) rfl (by decide) mf_X8_41 rfl (fun _ => hin) rfl (by decide +kernel) rfl rfl (Nat.le_of_ble_eq_true rfl) dX8_init_88 (fun H locs hG hS => ?_)
  refine lv_aload_n hx hb dX8_init_91 rfl (lv_at hl 0 rfl) ?_
  refine lv_bipush (v := 20) hx hb dX8_init_92 (by decide) ?_
  refine rg_newa (N := 20) C0 hT hK ma_int hG hS (by decide) (by decide) (by decide) (Nat.le_of_ble_eq_true rfl) (Nat.le_of_ble_eq_true rfl) dX8_init_94 (fun H hG hS => ?_)
  refine rg_put (C := RX8) (T := TX8) (N := 19) (ci := 6) (j := 0) (f := 17) (ty := (.array .int)) true C0 hT hK inX8 tyX8 tyX8_ok nmX8 hG hS (by decide) (by first | rfl | exact he | (simp only [va_up]; first | rfl | exact he)) rfl (by decide) mf_X8_44 rfl (fun _ => hin) rfl (by decide +kernel) rfl rfl (Nat.le_of_ble_eq_true rfl) dX8_init_96 (fun H locs hG hS => ?_)
  refine lv_aload_n hx hb dX8_init_99 rfl (lv_at hl 0 rfl) ?_
  refine lv_bipush (v := 21) hx hb dX8_init_100 (by decide) ?_
  refine rg_newa (N := 21) C0 hT hK ma_int hG hS (by decide) (by decide) (by decide) (Nat.le_of_ble_eq_true rfl) (Nat.le_of_ble_eq_true rfl) dX8_init_102 (fun H hG hS => ?_)
  refine rg_put (C := RX8) (T := TX8) (N := 19) (ci := 6) (j := 0) (f := 18) (ty := (.array .int)) true C0 hT hK inX8 tyX8 tyX8_ok nmX8 hG hS (by decide) (by first | rfl | exact he | (simp only [va_up]; first | rfl | exact he)) rfl (by decide) mf_X8_47 rfl (fun _ => hin) rfl (by decide +kernel) rfl rfl (Nat.le_of_ble_eq_true rfl) dX8_init_104 (fun H locs hG hS => ?_)
  have hP : va_P (dC, dI) vwCl (ax_w 12 (fun j => B + offM j) (cM cyI (fun j => B + offM j) τ0)) H := by
    intro i q hi
    obtain ⟨hk, rfl⟩ := ax_inv hi
    match i, hk with
    | 0, _ => exact hG.2 1 _ (ax_at (ad := fun i => B + i) (by decide) rfl)
    | 1, _ => exact hG.2 2 _ (ax_at (ad := fun i => B + i) (by decide) rfl)
    | 2, _ => exact hG.2 3 _ (ax_at (ad := fun i => B + i) (by decide) rfl)
    | 3, _ => exact hG.2 4 _ (ax_at (ad := fun i => B + i) (by decide) rfl)
    | 4, _ => exact hG.2 5 _ (ax_at (ad := fun i => B + i) (by decide) rfl)
    | 5, _ => exact hG.2 6 _ (ax_at (ad := fun i => B + i) (by decide) rfl)
    | 6, _ => exact hG.2 7 _ (ax_at (ad := fun i => B + i) (by decide) rfl)
    | 7, _ => exact hG.2 8 _ (ax_at (ad := fun i => B + i) (by decide) rfl)
    | 8, _ => exact hG.2 9 _ (ax_at (ad := fun i => B + i) (by decide) rfl)
    | 9, _ => exact hG.2 10 _ (ax_at (ad := fun i => B + i) (by decide) rfl)
    | 10, _ => exact hG.2 11 _ (ax_at (ad := fun i => B + i) (by decide) rfl)
    | 11, _ => exact hG.2 0 _ (ax_at (ad := fun i => B + i) (by decide) rfl)
    | n + 12, h => exact absurd h (by omega)
  exact W.vret hx hb hr (fun t2 ht2 hW => ⟨⟨(), rfl, trivial, by show va_P _ _ _ t2.heap; rw [ht2]; exact hP⟩, hS.F ht2⟩) hS.2.2 dX8_init_107 hlocks
