def f_X7_file (σ : SD) (x1 : Int32) (x2 : Int32) : Option (Int32 × SD) := (f_X5_entry σ x1).bind fun q5 => match q5 with | (none, σ5) => (some ((-1), σ5)) | (some e5, σ5) => (if e5 < 20 then (if x2.toInt < 0 ∨ 4 < x2.toInt then (some ((-1), σ5)) else (if x2 = 0 then ((f_X4_size σ5 (5 + e5)).bind fun q56 => some (q56.1, q56.2)) else (if x2 = 1 then (some (σ5.1 2 e5, σ5)) else (if x2 = 2 then (some (σ5.1 3 e5, σ5)) else (if x2 = 3 then ((f_X1_method σ5 e5).bind fun q71 => some (q71.1, q71.2)) else (if x2 = 4 then (some (σ5.1 4 e5, σ5)) else (none))))))) else none)
def rm_X7_file : Room := { frames := 1, cells := 0, slots := 0, locals := 21 }
set_option maxHeartbeats 4000000 in
set_option maxRecDepth 100000 in
theorem met_X7_file (l : Launch) (dC : Nat → ClassId) (dI : Nat → Nat → Nat) (cyI cyE : ClassId) (tC : Nat) (ad : Nat → Nat) (σ : SD) (x1 : Int32) (x2 : Int32) (res : Int32 × SD) (hf : f_X7_file σ x1 x2 = some res) : ax_Mi l dC dI cyI cyE tC 77 (cD cyI cyE ad) ad yX7_file cX7_file 4 (some .int) rm_X7_file [.ref (ad 76), .int x1, .int x2] σ res.1 res.2 := by
  intro sz
  refine Met.ofW (cc := cX7_file) (maxL := 4) (ret := (some .int)) (by decide) rfl ?_
  intro p e s m args below meth c s₁ B hml hv
  obtain ⟨hargs, hsz, hP, hJ, hE⟩ := hv
  subst hsz
  have hx := B.exec
  have hb := B.bytes
  have hr := B.returns
  have hlocks := B.notSynchronized
  have hts := atoms_spec (ws := wsY yX7_file cX7_file 4 (some .int)) B.pre
  have hown : s.vm.findClass RX7 = some m.cls := findClass_of_methodNamed B.named
  have C0 : CallFix p m c cX7_file 4 s args (wsY yX7_file cX7_file 4 (some .int)) RX7 := ⟨hx, hb, hml, hown, hts⟩
  have hT : ∀ w ∈ bw, w ∈ wsY yX7_file cX7_file 4 (some .int) := fun w h => List.mem_cons_of_mem _ h
  have hS : va_S (ax_A 77 ad s.heap.size) s.heap s.heap [] := va_S.rf
  rw [show entryFrame m args 4 = entryFrame m ([.ref (ad 76), .int x1, .int x2] : List Value).toArray 4 by rw [hargs]]
  have hl := lv_entry ([.ref (ad 76), .int x1, .int x2]) (n := 4) (Nat.le_of_ble_eq_true rfl)
  rw [lg_entry_eq]
  generalize (lg_sl ([.ref (ad 76), .int x1, .int x2]) ++ List.replicate (4 - (lg_sl ([.ref (ad 76), .int x1, .int x2])).length) Slot.unset).toArray = ls at hl ⊢
  have hl : lv_has ls 4 [(0, .ref (ad 76)), (1, .int x1), (2, .int x2)] := hl
  obtain ⟨Q, hQ⟩ : ∃ Q : State → Prop, Q = MQ below (va_Qi (fun (a : Int32) (u : SD) => a = res.1 ∧ u = res.2) (ax_B dC dI 77 (cD cyI cyE ad) ad) (ax_A 77 ad s.heap.size)) args s 0 0 (ax_A 77 ad s.heap.size) := ⟨_, rfl⟩
  show W p l e rm_X7_file s m args below meth c s.heap [] 0 0 _ _
  rw [← hQ]
  have hret : ∀ (v : Int32) (σ : SD) (H : Heap) (locs : List Loc) (ls : Array Slot) (pc : Nat), narrow .int (.int v) = .int v → some (v, σ) = some res → va_P (dC, dI) vwCl (ax_w 77 ad (cD cyI cyE ad σ)) H → va_S (ax_A 77 ad s.heap.size) s.heap H locs → decode cX7_file pc = .ok (.ireturn, 1) → W p l e rm_X7_file s m args below meth c H locs 0 0 Q (F0 m pc ls [.int v]) := by
    intro v σ H locs ls pc hn hf hP hS hd
    cases hf
    rw [hQ]
    exact ax_iret hx hb hr hlocks hn hP hS hd rfl rfl
  unfold f_X7_file at hf
  refine lv_aload_n hx hb dX7_file_0 rfl (lv_at hl 0 rfl) ?_
  refine g_Desk_shelf C0 hT hE hP mf_X7_27 dX7_file_1 ?_
  refine lv_iload_n hx hb dX7_file_4 rfl (lv_at hl 1 rfl) ?_
  obtain ⟨⟨o5, σ5⟩, hq, hf⟩ := ob_bind hf
  refine ax_callVq (i := 75) (k := 1) (ci := 4) [.int x1] C0 hT hJ hE (met_X5_entry l dC dI cyI cyE tC ad σ x1 _ hq) hP hS mc_X5_entry ml_X7_101 mi_X5_entry ms_X5_entry mz_X5 (by decide +kernel) ⟨rfl, rfl⟩ ⟨by decide, by decide⟩ (by decide) cD_Shelf rfl rfl rfl hl.1 (Nat.le_of_ble_eq_true rfl) dX7_file_5 ⟨Nat.zero_le _, Nat.zero_le _⟩ (fun H locs hP hS => ?_)
  cases o5 with
  | none =>
    dsimp only at hf
    refine W.eq (g2 := F0 m 8 ls [.null]) rfl ?_
    refine lv_astore_nN (lv' := [(3, .null), (0, .ref (ad 76)), (1, .int x1), (2, .int x2)]) hx hb dX7_file_8 rfl hl (by decide) rfl (fun ls hl => ?_)
    refine lv_aload_nN hx hb dX7_file_9 rfl (lv_at hl 0 rfl) ?_
    refine lv_ifnonnullN hx hb dX7_file_10 ?_
    refine lv_iconst (v := (-1)) hx hb dX7_file_13 (by decide) ?_
    exact hret _ _ _ _ _ _ rfl hf hP hS dX7_file_14
  | some e5 =>
    dsimp only at hf
    obtain ⟨hb_e5, hf⟩ := ob_if hf
    refine W.eq (g2 := F0 m 8 ls [.ref (ad (52 + e5))]) rfl ?_
    refine lv_astore_n (lv' := [(3, .ref (ad (52 + e5))), (0, .ref (ad 76)), (1, .int x1), (2, .int x2)]) hx hb dX7_file_8 rfl hl (by decide) rfl (fun ls hl => ?_)
    refine lv_aload_n hx hb dX7_file_9 rfl (lv_at hl 0 rfl) ?_
    refine lv_ifnonnull (tgt := 15) hx hb dX7_file_10 (by decide) ?_
    refine lv_iload_n hx hb dX7_file_15 rfl (lv_at hl 3 rfl) ?_
    by_cases h16 : x2.toInt < 0 ∨ 4 < x2.toInt
    · rw [if_pos h16] at hf
      refine lv_tableOut (tgt := 80) hx hb dX7_file_16 h16 (by decide) ?_
      refine lv_iconst (v := (-1)) hx hb dX7_file_80 (by decide) ?_
      exact hret _ _ _ _ _ _ rfl hf hP hS dX7_file_81
    · rw [if_neg h16] at hf
      by_cases h16_0 : x2 = 0
      · rw [if_pos h16_0] at hf
        refine lv_tableIn (off := 36) (tgt := 52) hx hb dX7_file_16 (fun q => h16 (Or.inl q)) (fun q => h16 (Or.inr q)) (by rw [h16_0]; rfl) (by decide) ?_
        refine lv_aload_n hx hb dX7_file_52 rfl (lv_at hl 0 rfl) ?_
        refine gN_Entry_name (k := e5) (by omega) C0 hT hE hP (by decide) dX7_file_53 ?_
        obtain ⟨q56, hq, hf⟩ := ob_bind hf
        refine ax_callVi (C := "") (b := 0) (i := (5 + e5)) (k := 0) (ci := 3) [] C0 hT hJ hE (met_X4_size l dC dI cyI cyE tC ad σ5 (5 + e5) (by omega) _ hq) hP hS mc_X4_size ml_X7_56 mi_X4_size ms_X4_size mz_X4 (by decide +kernel) ⟨rfl, rfl⟩ ⟨by decide, by decide⟩ (by omega) (cD_Row (by omega)) rfl rfl rfl hl.1 (Nat.le_of_ble_eq_true rfl) dX7_file_56 ⟨Nat.zero_le _, Nat.zero_le _⟩ (fun H locs hP hS => ?_)
        exact hret _ _ _ _ _ _ rfl hf hP hS dX7_file_59
      · rw [if_neg h16_0] at hf
        by_cases h16_1 : x2 = 1
        · rw [if_pos h16_1] at hf
          refine lv_tableIn (off := 44) (tgt := 60) hx hb dX7_file_16 (fun q => h16 (Or.inl q)) (fun q => h16 (Or.inr q)) (by rw [h16_1]; rfl) (by decide) ?_
          refine lv_aload_n hx hb dX7_file_60 rfl (lv_at hl 0 rfl) ?_
          refine gN_Entry_size (k := e5) (by omega) C0 hT hE hP (by decide) dX7_file_61 ?_
          exact hret _ _ _ _ _ _ rfl hf hP hS dX7_file_64
        · rw [if_neg h16_1] at hf
          by_cases h16_2 : x2 = 2
          · rw [if_pos h16_2] at hf
            refine lv_tableIn (off := 49) (tgt := 65) hx hb dX7_file_16 (fun q => h16 (Or.inl q)) (fun q => h16 (Or.inr q)) (by rw [h16_2]; rfl) (by decide) ?_
            refine lv_aload_n hx hb dX7_file_65 rfl (lv_at hl 0 rfl) ?_
            refine gN_Entry_packed (k := e5) (by omega) C0 hT hE hP (by decide) dX7_file_66 ?_
            exact hret _ _ _ _ _ _ rfl hf hP hS dX7_file_69
          · rw [if_neg h16_2] at hf
            by_cases h16_3 : x2 = 3
            · rw [if_pos h16_3] at hf
              refine lv_tableIn (off := 54) (tgt := 70) hx hb dX7_file_16 (fun q => h16 (Or.inl q)) (fun q => h16 (Or.inr q)) (by rw [h16_3]; rfl) (by decide) ?_
              refine lv_aload_n hx hb dX7_file_70 rfl (lv_at hl 0 rfl) ?_
              obtain ⟨q71, hq, hf⟩ := ob_bind hf
              refine ax_callVi (C := "") (b := 0) (i := (52 + e5)) (k := 0) (ci := 0) [] C0 hT hJ hE (met_X1_method l dC dI cyI cyE tC ad σ5 e5 (by omega) _ hq) hP hS mc_X1_method ml_X7_189 mi_X1_method ms_X1_method mz_X1 (by decide +kernel) ⟨rfl, rfl⟩ ⟨by decide, by decide⟩ (by omega) (cD_Entry (by omega)) rfl rfl rfl hl.1 (Nat.le_of_ble_eq_true rfl) dX7_file_71 ⟨Nat.zero_le _, Nat.zero_le _⟩ (fun H locs hP hS => ?_)
              exact hret _ _ _ _ _ _ rfl hf hP hS dX7_file_74
            · rw [if_neg h16_3] at hf
              by_cases h16_4 : x2 = 4
              · rw [if_pos h16_4] at hf
                refine lv_tableIn (off := 59) (tgt := 75) hx hb dX7_file_16 (fun q => h16 (Or.inl q)) (fun q => h16 (Or.inr q)) (by rw [h16_4]; rfl) (by decide) ?_
                refine lv_aload_n hx hb dX7_file_75 rfl (lv_at hl 0 rfl) ?_
                refine gN_Entry_crc (k := e5) (by omega) C0 hT hE hP (by decide) dX7_file_76 ?_
                exact hret _ _ _ _ _ _ rfl hf hP hS dX7_file_79
              · rw [if_neg h16_4] at hf
                cases hf
def f_X7_letter (σ : SD) (x1 : Int32) (x2 : Int32) (x3 : Int32) : Option (Int32 × SD) := (f_X5_entry σ x1).bind fun q5 => match q5 with | (none, σ5) => (some ((-1), σ5)) | (some e5, σ5) => (if e5 < 20 then (if x2 = 0 then ((f_X5_byteOf σ5 e5 x3).bind fun q40 => some (q40.1, q40.2)) else ((f_X4_at σ5 (5 + e5) x3).bind fun q27 => some (q27.1, q27.2))) else none)
def rm_X7_letter : Room := { frames := 2, cells := 0, slots := 0, locals := 43 }
set_option maxHeartbeats 4000000 in
set_option maxRecDepth 100000 in
theorem met_X7_letter (l : Launch) (dC : Nat → ClassId) (dI : Nat → Nat → Nat) (cyI cyE : ClassId) (tC : Nat) (ad : Nat → Nat) (σ : SD) (x1 : Int32) (x2 : Int32) (x3 : Int32) (res : Int32 × SD) (hf : f_X7_letter σ x1 x2 x3 = some res) : ax_Mi l dC dI cyI cyE tC 77 (cD cyI cyE ad) ad yX7_letter cX7_letter 5 (some .int) rm_X7_letter [.ref (ad 76), .int x1, .int x2, .int x3] σ res.1 res.2 := by
  intro sz
  refine Met.ofW (cc := cX7_letter) (maxL := 5) (ret := (some .int)) (by decide) rfl ?_
  intro p e s m args below meth c s₁ B hml hv
  obtain ⟨hargs, hsz, hP, hJ, hE⟩ := hv
  subst hsz
  have hx := B.exec
  have hb := B.bytes
  have hr := B.returns
  have hlocks := B.notSynchronized
  have hts := atoms_spec (ws := wsY yX7_letter cX7_letter 5 (some .int)) B.pre
  have hown : s.vm.findClass RX7 = some m.cls := findClass_of_methodNamed B.named
  have C0 : CallFix p m c cX7_letter 5 s args (wsY yX7_letter cX7_letter 5 (some .int)) RX7 := ⟨hx, hb, hml, hown, hts⟩
  have hT : ∀ w ∈ bw, w ∈ wsY yX7_letter cX7_letter 5 (some .int) := fun w h => List.mem_cons_of_mem _ h
  have hS : va_S (ax_A 77 ad s.heap.size) s.heap s.heap [] := va_S.rf
  rw [show entryFrame m args 5 = entryFrame m ([.ref (ad 76), .int x1, .int x2, .int x3] : List Value).toArray 5 by rw [hargs]]
  have hl := lv_entry ([.ref (ad 76), .int x1, .int x2, .int x3]) (n := 5) (Nat.le_of_ble_eq_true rfl)
  rw [lg_entry_eq]
  generalize (lg_sl ([.ref (ad 76), .int x1, .int x2, .int x3]) ++ List.replicate (5 - (lg_sl ([.ref (ad 76), .int x1, .int x2, .int x3])).length) Slot.unset).toArray = ls at hl ⊢
  have hl : lv_has ls 5 [(0, .ref (ad 76)), (1, .int x1), (2, .int x2), (3, .int x3)] := hl
  obtain ⟨Q, hQ⟩ : ∃ Q : State → Prop, Q = MQ below (va_Qi (fun (a : Int32) (u : SD) => a = res.1 ∧ u = res.2) (ax_B dC dI 77 (cD cyI cyE ad) ad) (ax_A 77 ad s.heap.size)) args s 0 0 (ax_A 77 ad s.heap.size) := ⟨_, rfl⟩
  show W p l e rm_X7_letter s m args below meth c s.heap [] 0 0 _ _
  rw [← hQ]
  have hret : ∀ (v : Int32) (σ : SD) (H : Heap) (locs : List Loc) (ls : Array Slot) (pc : Nat), narrow .int (.int v) = .int v → some (v, σ) = some res → va_P (dC, dI) vwCl (ax_w 77 ad (cD cyI cyE ad σ)) H → va_S (ax_A 77 ad s.heap.size) s.heap H locs → decode cX7_letter pc = .ok (.ireturn, 1) → W p l e rm_X7_letter s m args below meth c H locs 0 0 Q (F0 m pc ls [.int v]) := by
    intro v σ H locs ls pc hn hf hP hS hd
    cases hf
    rw [hQ]
    exact ax_iret hx hb hr hlocks hn hP hS hd rfl rfl
  unfold f_X7_letter at hf
  refine lv_aload_n hx hb dX7_letter_0 rfl (lv_at hl 0 rfl) ?_
  refine g_Desk_shelf C0 hT hE hP mf_X7_27 dX7_letter_1 ?_
  refine lv_iload_n hx hb dX7_letter_4 rfl (lv_at hl 1 rfl) ?_
  obtain ⟨⟨o5, σ5⟩, hq, hf⟩ := ob_bind hf
  refine ax_callVq (i := 75) (k := 1) (ci := 4) [.int x1] C0 hT hJ hE (met_X5_entry l dC dI cyI cyE tC ad σ x1 _ hq) hP hS mc_X5_entry ml_X7_101 mi_X5_entry ms_X5_entry mz_X5 (by decide +kernel) ⟨rfl, rfl⟩ ⟨by decide, by decide⟩ (by decide) cD_Shelf rfl rfl rfl hl.1 (Nat.le_of_ble_eq_true rfl) dX7_letter_5 ⟨Nat.zero_le _, Nat.zero_le _⟩ (fun H locs hP hS => ?_)
  cases o5 with
  | none =>
    dsimp only at hf
    refine W.eq (g2 := F0 m 8 ls [.null]) rfl ?_
    refine lv_astoreN (lv' := [(4, .null), (0, .ref (ad 76)), (1, .int x1), (2, .int x2), (3, .int x3)]) hx hb dX7_letter_8 hl (by decide) rfl (fun ls hl => ?_)
    refine lv_aloadN hx hb dX7_letter_10 (lv_at hl 0 rfl) ?_
    refine lv_ifnonnullN hx hb dX7_letter_12 ?_
    refine lv_iconst (v := (-1)) hx hb dX7_letter_15 (by decide) ?_
    exact hret _ _ _ _ _ _ rfl hf hP hS dX7_letter_16
  | some e5 =>
    dsimp only at hf
    obtain ⟨hb_e5, hf⟩ := ob_if hf
    refine W.eq (g2 := F0 m 8 ls [.ref (ad (52 + e5))]) rfl ?_
    refine lv_astore (lv' := [(4, .ref (ad (52 + e5))), (0, .ref (ad 76)), (1, .int x1), (2, .int x2), (3, .int x3)]) hx hb dX7_letter_8 hl (by decide) rfl (fun ls hl => ?_)
    refine lv_aload hx hb dX7_letter_10 (lv_at hl 0 rfl) ?_
    refine lv_ifnonnull (tgt := 17) hx hb dX7_letter_12 (by decide) ?_
    refine lv_iload_n hx hb dX7_letter_17 rfl (lv_at hl 3 rfl) ?_
    refine lv_if_eq (tgt := 33) hx hb dX7_letter_18 (by decide) (fun h18 => ?_) (fun h18 => ?_)
    · rw [if_pos h18] at hf
      refine lv_aload_n hx hb dX7_letter_33 rfl (lv_at hl 1 rfl) ?_
      refine g_Desk_shelf C0 hT hE hP mf_X7_27 dX7_letter_34 ?_
      refine lv_aload hx hb dX7_letter_37 (lv_at hl 0 rfl) ?_
      refine lv_iload_n hx hb dX7_letter_39 rfl (lv_at hl 4 rfl) ?_
      obtain ⟨q40, hq, hf⟩ := ob_bind hf
      refine ax_callVi (C := "") (b := 0) (i := 75) (k := 2) (ci := 4) [.ref (ad (52 + e5)), .int x3] C0 hT hJ hE (met_X5_byteOf l dC dI cyI cyE tC ad σ5 e5 x3 (by omega) _ hq) hP hS mc_X5_byteOf ml_X7_198 mi_X5_byteOf ms_X5_byteOf mz_X5 (by decide +kernel) ⟨rfl, rfl⟩ ⟨by decide, by decide⟩ (by decide) cD_Shelf rfl rfl rfl hl.1 (Nat.le_of_ble_eq_true rfl) dX7_letter_40 ⟨Nat.zero_le _, Nat.zero_le _⟩ (fun H locs hP hS => ?_)
      exact hret _ _ _ _ _ _ rfl hf hP hS dX7_letter_43
    · rw [if_neg h18] at hf
      refine lv_aload hx hb dX7_letter_21 (lv_at hl 0 rfl) ?_
      refine gN_Entry_name (k := e5) (by omega) C0 hT hE hP (by decide) dX7_letter_23 ?_
      refine lv_iload_n hx hb dX7_letter_26 rfl (lv_at hl 4 rfl) ?_
      obtain ⟨q27, hq, hf⟩ := ob_bind hf
      refine ax_callVi (C := "") (b := 0) (i := (5 + e5)) (k := 1) (ci := 3) [.int x3] C0 hT hJ hE (met_X4_at l dC dI cyI cyE tC ad σ5 (5 + e5) x3 (by omega) _ hq) hP hS mc_X4_at ml_X7_195 mi_X4_at ms_X4_at mz_X4 (by decide +kernel) ⟨rfl, rfl⟩ ⟨by decide, by decide⟩ (by omega) (cD_Row (by omega)) rfl rfl rfl hl.1 (Nat.le_of_ble_eq_true rfl) dX7_letter_27 ⟨Nat.zero_le _, Nat.zero_le _⟩ (fun H locs hP hS => ?_)
      refine lv_goto (tgt := 43) hx hb dX7_letter_30 (by decide) ?_
      exact hret _ _ _ _ _ _ rfl hf hP hS dX7_letter_43
def f_X7_find (σ : SD) : Option (Int32 × SD) := (f_X4_size σ 1).bind fun q13 => (f_X5_lookUp q13.2 1 0 q13.1).bind fun q16 => some (q16.1, q16.2)
def rm_X7_find : Room := { frames := 3, cells := 0, slots := 0, locals := 72 }
set_option maxHeartbeats 4000000 in
set_option maxRecDepth 100000 in
theorem met_X7_find (l : Launch) (dC : Nat → ClassId) (dI : Nat → Nat → Nat) (cyI cyE : ClassId) (tC : Nat) (ad : Nat → Nat) (σ : SD) (res : Int32 × SD) (hf : f_X7_find σ = some res) : ax_Mi l dC dI cyI cyE tC 77 (cD cyI cyE ad) ad yX7_find cX7_find 1 (some .int) rm_X7_find [.ref (ad 76)] σ res.1 res.2 := by
  intro sz
  refine Met.ofW (cc := cX7_find) (maxL := 1) (ret := (some .int)) (by decide) rfl ?_
  intro p e s m args below meth c s₁ B hml hv
  obtain ⟨hargs, hsz, hP, hJ, hE⟩ := hv
  subst hsz
  have hx := B.exec
  have hb := B.bytes
  have hr := B.returns
  have hlocks := B.notSynchronized
  have hts := atoms_spec (ws := wsY yX7_find cX7_find 1 (some .int)) B.pre
  have hown : s.vm.findClass RX7 = some m.cls := findClass_of_methodNamed B.named
  have C0 : CallFix p m c cX7_find 1 s args (wsY yX7_find cX7_find 1 (some .int)) RX7 := ⟨hx, hb, hml, hown, hts⟩
  have hT : ∀ w ∈ bw, w ∈ wsY yX7_find cX7_find 1 (some .int) := fun w h => List.mem_cons_of_mem _ h
  have hS : va_S (ax_A 77 ad s.heap.size) s.heap s.heap [] := va_S.rf
  rw [show entryFrame m args 1 = entryFrame m ([.ref (ad 76)] : List Value).toArray 1 by rw [hargs]]
  have hl := lv_entry ([.ref (ad 76)]) (n := 1) (Nat.le_of_ble_eq_true rfl)
  rw [lg_entry_eq]
  generalize (lg_sl ([.ref (ad 76)]) ++ List.replicate (1 - (lg_sl ([.ref (ad 76)])).length) Slot.unset).toArray = ls at hl ⊢
  have hl : lv_has ls 1 [(0, .ref (ad 76))] := hl
  obtain ⟨Q, hQ⟩ : ∃ Q : State → Prop, Q = MQ below (va_Qi (fun (a : Int32) (u : SD) => a = res.1 ∧ u = res.2) (ax_B dC dI 77 (cD cyI cyE ad) ad) (ax_A 77 ad s.heap.size)) args s 0 0 (ax_A 77 ad s.heap.size) := ⟨_, rfl⟩
  show W p l e rm_X7_find s m args below meth c s.heap [] 0 0 _ _
  rw [← hQ]
  have hret : ∀ (v : Int32) (σ : SD) (H : Heap) (locs : List Loc) (ls : Array Slot) (pc : Nat), narrow .int (.int v) = .int v → some (v, σ) = some res → va_P (dC, dI) vwCl (ax_w 77 ad (cD cyI cyE ad σ)) H → va_S (ax_A 77 ad s.heap.size) s.heap H locs → decode cX7_find pc = .ok (.ireturn, 1) → W p l e rm_X7_find s m args below meth c H locs 0 0 Q (F0 m pc ls [.int v]) := by
    intro v σ H locs ls pc hn hf hP hS hd
    cases hf
    rw [hQ]
    exact ax_iret hx hb hr hlocks hn hP hS hd rfl rfl
  unfold f_X7_find at hf
  refine lv_aload_n hx hb dX7_find_0 rfl (lv_at hl 0 rfl) ?_
  refine g_Desk_shelf C0 hT hE hP mf_X7_27 dX7_find_1 ?_
  refine lv_aload_n hx hb dX7_find_4 rfl (lv_at hl 0 rfl) ?_
  refine g_Desk_tape C0 hT hE hP mf_X7_18 dX7_find_5 ?_
  refine lv_iconst (v := 0) hx hb dX7_find_8 (by decide) ?_
  refine lv_aload_n hx hb dX7_find_9 rfl (lv_at hl 0 rfl) ?_
  refine g_Desk_tape C0 hT hE hP mf_X7_18 dX7_find_10 ?_
  obtain ⟨q13, hq, hf⟩ := ob_bind hf
  refine ax_callVi (C := "") (b := 0) (i := 1) (k := 0) (ci := 3) [] C0 hT hJ hE (met_X4_size l dC dI cyI cyE tC ad σ 1 (by decide) _ hq) hP hS mc_X4_size ml_X7_56 mi_X4_size ms_X4_size mz_X4 (by decide +kernel) ⟨rfl, rfl⟩ ⟨by decide, by decide⟩ (by decide) (cD_Row (by decide)) rfl rfl rfl hl.1 (Nat.le_of_ble_eq_true rfl) dX7_find_13 ⟨Nat.zero_le _, Nat.zero_le _⟩ (fun H locs hP hS => ?_)
  obtain ⟨q16, hq, hf⟩ := ob_bind hf
  refine ax_callVi (C := "") (b := 0) (i := 75) (k := 3) (ci := 4) [.ref (ad 1), .int 0, .int q13.1] C0 hT hJ hE (met_X5_lookUp l dC dI cyI cyE tC ad q13.2 1 0 q13.1 (by decide) _ hq) hP hS mc_X5_lookUp ml_X7_83 mi_X5_lookUp ms_X5_lookUp mz_X5 (by decide +kernel) ⟨rfl, rfl⟩ ⟨by decide, by decide⟩ (by decide) cD_Shelf rfl rfl rfl hl.1 (Nat.le_of_ble_eq_true rfl) dX7_find_16 ⟨Nat.zero_le _, Nat.zero_le _⟩ (fun H locs hP hS => ?_)
  exact hret _ _ _ _ _ _ rfl hf hP hS dX7_find_19
def f_X7_output (σ : SD) (x1 : Int32) : Option (Int32 × SD) := (f_X4_at σ 2 x1).bind fun q5 => some (q5.1, q5.2)
def rm_X7_output : Room := { frames := 1, cells := 0, slots := 0, locals := 21 }
set_option maxHeartbeats 4000000 in
set_option maxRecDepth 100000 in
theorem met_X7_output (l : Launch) (dC : Nat → ClassId) (dI : Nat → Nat → Nat) (cyI cyE : ClassId) (tC : Nat) (ad : Nat → Nat) (σ : SD) (x1 : Int32) (res : Int32 × SD) (hf : f_X7_output σ x1 = some res) : ax_Mi l dC dI cyI cyE tC 77 (cD cyI cyE ad) ad yX7_output cX7_output 2 (some .int) rm_X7_output [.ref (ad 76), .int x1] σ res.1 res.2 := by
  intro sz
  refine Met.ofW (cc := cX7_output) (maxL := 2) (ret := (some .int)) (by decide) rfl ?_
  intro p e s m args below meth c s₁ B hml hv
  obtain ⟨hargs, hsz, hP, hJ, hE⟩ := hv
  subst hsz
  have hx := B.exec
  have hb := B.bytes
  have hr := B.returns
  have hlocks := B.notSynchronized
  have hts := atoms_spec (ws := wsY yX7_output cX7_output 2 (some .int)) B.pre
  have hown : s.vm.findClass RX7 = some m.cls := findClass_of_methodNamed B.named
  have C0 : CallFix p m c cX7_output 2 s args (wsY yX7_output cX7_output 2 (some .int)) RX7 := ⟨hx, hb, hml, hown, hts⟩
  have hT : ∀ w ∈ bw, w ∈ wsY yX7_output cX7_output 2 (some .int) := fun w h => List.mem_cons_of_mem _ h
  have hS : va_S (ax_A 77 ad s.heap.size) s.heap s.heap [] := va_S.rf
  rw [show entryFrame m args 2 = entryFrame m ([.ref (ad 76), .int x1] : List Value).toArray 2 by rw [hargs]]
  have hl := lv_entry ([.ref (ad 76), .int x1]) (n := 2) (Nat.le_of_ble_eq_true rfl)
  rw [lg_entry_eq]
  generalize (lg_sl ([.ref (ad 76), .int x1]) ++ List.replicate (2 - (lg_sl ([.ref (ad 76), .int x1])).length) Slot.unset).toArray = ls at hl ⊢
  have hl : lv_has ls 2 [(0, .ref (ad 76)), (1, .int x1)] := hl
  obtain ⟨Q, hQ⟩ : ∃ Q : State → Prop, Q = MQ below (va_Qi (fun (a : Int32) (u : SD) => a = res.1 ∧ u = res.2) (ax_B dC dI 77 (cD cyI cyE ad) ad) (ax_A 77 ad s.heap.size)) args s 0 0 (ax_A 77 ad s.heap.size) := ⟨_, rfl⟩
  show W p l e rm_X7_output s m args below meth c s.heap [] 0 0 _ _
  rw [← hQ]
  have hret : ∀ (v : Int32) (σ : SD) (H : Heap) (locs : List Loc) (ls : Array Slot) (pc : Nat), narrow .int (.int v) = .int v → some (v, σ) = some res → va_P (dC, dI) vwCl (ax_w 77 ad (cD cyI cyE ad σ)) H → va_S (ax_A 77 ad s.heap.size) s.heap H locs → decode cX7_output pc = .ok (.ireturn, 1) → W p l e rm_X7_output s m args below meth c H locs 0 0 Q (F0 m pc ls [.int v]) := by
    intro v σ H locs ls pc hn hf hP hS hd
    cases hf
    rw [hQ]
    exact ax_iret hx hb hr hlocks hn hP hS hd rfl rfl
  unfold f_X7_output at hf
  refine lv_aload_n hx hb dX7_output_0 rfl (lv_at hl 0 rfl) ?_
  refine g_Desk_output C0 hT hE hP mf_X7_21 dX7_output_1 ?_
  refine lv_iload_n hx hb dX7_output_4 rfl (lv_at hl 1 rfl) ?_
  obtain ⟨q5, hq, hf⟩ := ob_bind hf
  refine ax_callVi (C := "") (b := 0) (i := 2) (k := 1) (ci := 3) [.int x1] C0 hT hJ hE (met_X4_at l dC dI cyI cyE tC ad σ 2 x1 (by decide) _ hq) hP hS mc_X4_at ml_X7_195 mi_X4_at ms_X4_at mz_X4 (by decide +kernel) ⟨rfl, rfl⟩ ⟨by decide, by decide⟩ (by decide) (cD_Row (by decide)) rfl rfl rfl hl.1 (Nat.le_of_ble_eq_true rfl) dX7_output_5 ⟨Nat.zero_le _, Nat.zero_le _⟩ (fun H locs hP hS => ?_)
  exact hret _ _ _ _ _ _ rfl hf hP hS dX7_output_8
def f_X7_about (σ : SD) (x1 : Int32) : Option (Int32 × SD) := if x1.toInt < 0 ∨ 3 < x1.toInt then (some ((-1), σ)) else (if x1 = 0 then ((f_X4_size σ 1).bind fun q36 => some (q36.1, q36.2)) else (if x1 = 1 then ((f_X4_size σ 2).bind fun q44 => some (q44.1, q44.2)) else (if x1 = 2 then ((f_X5_count σ ).bind fun q52 => some (q52.1, q52.2)) else (if x1 = 3 then ((f_X5_together σ ).bind fun q60 => some (q60.1, q60.2)) else (none)))))
def rm_X7_about : Room := { frames := 2, cells := 0, slots := 0, locals := 40 }
set_option maxHeartbeats 4000000 in
set_option maxRecDepth 100000 in
theorem met_X7_about (l : Launch) (dC : Nat → ClassId) (dI : Nat → Nat → Nat) (cyI cyE : ClassId) (tC : Nat) (ad : Nat → Nat) (σ : SD) (x1 : Int32) (res : Int32 × SD) (hf : f_X7_about σ x1 = some res) : ax_Mi l dC dI cyI cyE tC 77 (cD cyI cyE ad) ad yX7_about cX7_about 2 (some .int) rm_X7_about [.ref (ad 76), .int x1] σ res.1 res.2 := by
  intro sz
  refine Met.ofW (cc := cX7_about) (maxL := 2) (ret := (some .int)) (by decide) rfl ?_
  intro p e s m args below meth c s₁ B hml hv
  obtain ⟨hargs, hsz, hP, hJ, hE⟩ := hv
  subst hsz
  have hx := B.exec
  have hb := B.bytes
  have hr := B.returns
  have hlocks := B.notSynchronized
  have hts := atoms_spec (ws := wsY yX7_about cX7_about 2 (some .int)) B.pre
  have hown : s.vm.findClass RX7 = some m.cls := findClass_of_methodNamed B.named
  have C0 : CallFix p m c cX7_about 2 s args (wsY yX7_about cX7_about 2 (some .int)) RX7 := ⟨hx, hb, hml, hown, hts⟩
  have hT : ∀ w ∈ bw, w ∈ wsY yX7_about cX7_about 2 (some .int) := fun w h => List.mem_cons_of_mem _ h
  have hS : va_S (ax_A 77 ad s.heap.size) s.heap s.heap [] := va_S.rf
  rw [show entryFrame m args 2 = entryFrame m ([.ref (ad 76), .int x1] : List Value).toArray 2 by rw [hargs]]
  have hl := lv_entry ([.ref (ad 76), .int x1]) (n := 2) (Nat.le_of_ble_eq_true rfl)
  rw [lg_entry_eq]
  generalize (lg_sl ([.ref (ad 76), .int x1]) ++ List.replicate (2 - (lg_sl ([.ref (ad 76), .int x1])).length) Slot.unset).toArray = ls at hl ⊢
  have hl : lv_has ls 2 [(0, .ref (ad 76)), (1, .int x1)] := hl
  obtain ⟨Q, hQ⟩ : ∃ Q : State → Prop, Q = MQ below (va_Qi (fun (a : Int32) (u : SD) => a = res.1 ∧ u = res.2) (ax_B dC dI 77 (cD cyI cyE ad) ad) (ax_A 77 ad s.heap.size)) args s 0 0 (ax_A 77 ad s.heap.size) := ⟨_, rfl⟩
  show W p l e rm_X7_about s m args below meth c s.heap [] 0 0 _ _
  rw [← hQ]
  have hret : ∀ (v : Int32) (σ : SD) (H : Heap) (locs : List Loc) (ls : Array Slot) (pc : Nat), narrow .int (.int v) = .int v → some (v, σ) = some res → va_P (dC, dI) vwCl (ax_w 77 ad (cD cyI cyE ad σ)) H → va_S (ax_A 77 ad s.heap.size) s.heap H locs → decode cX7_about pc = .ok (.ireturn, 1) → W p l e rm_X7_about s m args below meth c H locs 0 0 Q (F0 m pc ls [.int v]) := by
    intro v σ H locs ls pc hn hf hP hS hd
    cases hf
    rw [hQ]
    exact ax_iret hx hb hr hlocks hn hP hS hd rfl rfl
  unfold f_X7_about at hf
  refine lv_iload_n hx hb dX7_about_0 rfl (lv_at hl 1 rfl) ?_
  by_cases h1 : x1.toInt < 0 ∨ 3 < x1.toInt
  · rw [if_pos h1] at hf
    refine lv_tableOut (tgt := 64) hx hb dX7_about_1 h1 (by decide) ?_
    refine lv_iconst (v := (-1)) hx hb dX7_about_64 (by decide) ?_
    exact hret _ _ _ _ _ _ rfl hf hP hS dX7_about_65
  · rw [if_neg h1] at hf
    by_cases h1_0 : x1 = 0
    · rw [if_pos h1_0] at hf
      refine lv_tableIn (off := 31) (tgt := 32) hx hb dX7_about_1 (fun q => h1 (Or.inl q)) (fun q => h1 (Or.inr q)) (by rw [h1_0]; rfl) (by decide) ?_
      refine lv_aload_n hx hb dX7_about_32 rfl (lv_at hl 0 rfl) ?_
      refine g_Desk_tape C0 hT hE hP mf_X7_18 dX7_about_33 ?_
      obtain ⟨q36, hq, hf⟩ := ob_bind hf
      refine ax_callVi (C := "") (b := 0) (i := 1) (k := 0) (ci := 3) [] C0 hT hJ hE (met_X4_size l dC dI cyI cyE tC ad σ 1 (by decide) _ hq) hP hS mc_X4_size ml_X7_56 mi_X4_size ms_X4_size mz_X4 (by decide +kernel) ⟨rfl, rfl⟩ ⟨by decide, by decide⟩ (by decide) (cD_Row (by decide)) rfl rfl rfl hl.1 (Nat.le_of_ble_eq_true rfl) dX7_about_36 ⟨Nat.zero_le _, Nat.zero_le _⟩ (fun H locs hP hS => ?_)
      exact hret _ _ _ _ _ _ rfl hf hP hS dX7_about_39
    · rw [if_neg h1_0] at hf
      by_cases h1_1 : x1 = 1
      · rw [if_pos h1_1] at hf
        refine lv_tableIn (off := 39) (tgt := 40) hx hb dX7_about_1 (fun q => h1 (Or.inl q)) (fun q => h1 (Or.inr q)) (by rw [h1_1]; rfl) (by decide) ?_
        refine lv_aload_n hx hb dX7_about_40 rfl (lv_at hl 0 rfl) ?_
        refine g_Desk_output C0 hT hE hP mf_X7_21 dX7_about_41 ?_
        obtain ⟨q44, hq, hf⟩ := ob_bind hf
        refine ax_callVi (C := "") (b := 0) (i := 2) (k := 0) (ci := 3) [] C0 hT hJ hE (met_X4_size l dC dI cyI cyE tC ad σ 2 (by decide) _ hq) hP hS mc_X4_size ml_X7_56 mi_X4_size ms_X4_size mz_X4 (by decide +kernel) ⟨rfl, rfl⟩ ⟨by decide, by decide⟩ (by decide) (cD_Row (by decide)) rfl rfl rfl hl.1 (Nat.le_of_ble_eq_true rfl) dX7_about_44 ⟨Nat.zero_le _, Nat.zero_le _⟩ (fun H locs hP hS => ?_)
        exact hret _ _ _ _ _ _ rfl hf hP hS dX7_about_47
      · rw [if_neg h1_1] at hf
        by_cases h1_2 : x1 = 2
        · rw [if_pos h1_2] at hf
          refine lv_tableIn (off := 47) (tgt := 48) hx hb dX7_about_1 (fun q => h1 (Or.inl q)) (fun q => h1 (Or.inr q)) (by rw [h1_2]; rfl) (by decide) ?_
          refine lv_aload_n hx hb dX7_about_48 rfl (lv_at hl 0 rfl) ?_
          refine g_Desk_shelf C0 hT hE hP mf_X7_27 dX7_about_49 ?_
          obtain ⟨q52, hq, hf⟩ := ob_bind hf
          refine ax_callVi (C := "") (b := 0) (i := 75) (k := 0) (ci := 4) [] C0 hT hJ hE (met_X5_count l dC dI cyI cyE tC ad σ _ hq) hP hS mc_X5_count ml_X7_98 mi_X5_count ms_X5_count mz_X5 (by decide +kernel) ⟨rfl, rfl⟩ ⟨by decide, by decide⟩ (by decide) cD_Shelf rfl rfl rfl hl.1 (Nat.le_of_ble_eq_true rfl) dX7_about_52 ⟨Nat.zero_le _, Nat.zero_le _⟩ (fun H locs hP hS => ?_)
          exact hret _ _ _ _ _ _ rfl hf hP hS dX7_about_55
        · rw [if_neg h1_2] at hf
          by_cases h1_3 : x1 = 3
          · rw [if_pos h1_3] at hf
            refine lv_tableIn (off := 55) (tgt := 56) hx hb dX7_about_1 (fun q => h1 (Or.inl q)) (fun q => h1 (Or.inr q)) (by rw [h1_3]; rfl) (by decide) ?_
            refine lv_aload_n hx hb dX7_about_56 rfl (lv_at hl 0 rfl) ?_
            refine g_Desk_shelf C0 hT hE hP mf_X7_27 dX7_about_57 ?_
            obtain ⟨q60, hq, hf⟩ := ob_bind hf
            refine ax_callVi (C := "") (b := 0) (i := 75) (k := 0) (ci := 4) [] C0 hT hJ hE (met_X5_together l dC dI cyI cyE tC ad σ _ hq) hP hS mc_X5_together ml_X7_202 mi_X5_together ms_X5_together mz_X5 (by decide +kernel) ⟨rfl, rfl⟩ ⟨by decide, by decide⟩ (by decide) cD_Shelf rfl rfl rfl hl.1 (Nat.le_of_ble_eq_true rfl) dX7_about_60 ⟨Nat.zero_le _, Nat.zero_le _⟩ (fun H locs hP hS => ?_)
            exact hret _ _ _ _ _ _ rfl hf hP hS dX7_about_63
          · rw [if_neg h1_3] at hf
            cases hf
