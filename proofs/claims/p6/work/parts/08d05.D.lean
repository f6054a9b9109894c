def f_X3_contentsPass_67 (r1 : Nat) (σ : SD) (x4 : Int32) : Option (Int32 × SD) := if inb x4 (capD 26) = true then ((f_X3_fails σ 4 x4 (σ.2.2.1 26 x4.toNatClampNeg)).bind fun q78 => if nzb q78.1 = true then some (q78.1, q78.2) else none) else none
def f_X3_contentsPass_5 (r1 : Nat) : Nat → SD → Int64 → Int32 → Option (Int32 × SD)
  | 0, _, _, _ => none
  | n + 1, σ, x2, x4 => if (σ.1 6 0) ≤ x4 then (some (1, σ)) else (if inb x4 (capD 25) = true then ((f_X2_parse σ r1 ((σ.2.2.1 25 x4.toNatClampNeg) + 6)).bind fun q29 => if q29.1 = 0 then (f_X3_contentsPass_67 r1 q29.2 x4) else ((f_X2_sizesFit q29.2 ).bind fun q53 => if q53.1 = 0 then (f_X3_contentsPass_67 r1 q53.2 x4) else (if (lg_cmp (x2 + (q29.2.2.1 1)) 6000) ≤ 0 then (if inb x4 (capD 26) = true then ((f_X3_unpack q53.2 r1 (q53.2.2.2.1 26 x4.toNatClampNeg)).bind fun q91 => if q91.1 = 0 then (if inb x4 (capD 26) = true then ((f_X3_fails q91.2 5 x4 (q91.2.2.2.1 26 x4.toNatClampNeg)).bind fun q108 => if nzb q108.1 = true then some (q108.1, q108.2) else none) else none) else ((f_X3_crcAgrees q91.2 ).bind fun q113 => if q113.1 = 0 then (if inb x4 (capD 26) = true then ((f_X3_fails q113.2 6 x4 (q113.2.2.2.1 26 x4.toNatClampNeg)).bind fun q131 => if nzb q131.1 = true then some (q131.1, q131.2) else none) else none) else (f_X3_contentsPass_5 r1 n q113.2 (x2 + (q29.2.2.1 1)) (x4 + 1)))) else none) else (f_X3_contentsPass_67 r1 q53.2 x4)))) else none)
def f_X3_contentsPass (σ : SD) (r1 : Nat) : Option (Int32 × SD) := f_X3_contentsPass_5 r1 fu σ 0 0
def rm_X3_contentsPass : Room := { frames := 4, cells := 0, slots := 0, locals := 103 }
set_option maxHeartbeats 4000000 in
set_option maxRecDepth 100000 in
theorem met_X3_contentsPass (l : Launch) (dC : Nat → ClassId) (dI : Nat → Nat → Nat) (cyI cyE : ClassId) (tC : Nat) (ad : Nat → Nat) (σ : SD) (r1 : Nat) (hb_r1 : r1 < 25) (res : Int32 × SD) (hf : f_X3_contentsPass σ r1 = some res) : ax_Mi l dC dI cyI cyE tC 77 (cD cyI cyE ad) ad yX3_contentsPass cX3_contentsPass 6 (some .boolean) rm_X3_contentsPass [.ref (ad 74), .ref (ad r1)] σ res.1 res.2 := by
  intro sz
  refine Met.ofW (cc := cX3_contentsPass) (maxL := 6) (ret := (some .boolean)) (by decide) rfl ?_
  intro p e s m args below meth c s₁ B hml hv
  obtain ⟨hargs, hsz, hP, hJ, hE⟩ := hv
  subst hsz
  have hx := B.exec
  have hb := B.bytes
  have hr := B.returns
  have hlocks := B.notSynchronized
  have hts := atoms_spec (ws := wsY yX3_contentsPass cX3_contentsPass 6 (some .boolean)) B.pre
  have hown : s.vm.findClass RX3 = some m.cls := findClass_of_methodNamed B.named
  have C0 : CallFix p m c cX3_contentsPass 6 s args (wsY yX3_contentsPass cX3_contentsPass 6 (some .boolean)) RX3 := ⟨hx, hb, hml, hown, hts⟩
  have hT : ∀ w ∈ bw, w ∈ wsY yX3_contentsPass cX3_contentsPass 6 (some .boolean) := fun w h => List.mem_cons_of_mem _ h
  have hS : va_S (ax_A 77 ad s.heap.size) s.heap s.heap [] := va_S.rf
  rw [show entryFrame m args 6 = entryFrame m ([.ref (ad 74), .ref (ad r1)] : List Value).toArray 6 by rw [hargs]]
  have hl := lv_entry ([.ref (ad 74), .ref (ad r1)]) (n := 6) (Nat.le_of_ble_eq_true rfl)
  rw [lg_entry_eq]
  generalize (lg_sl ([.ref (ad 74), .ref (ad r1)]) ++ List.replicate (6 - (lg_sl ([.ref (ad 74), .ref (ad r1)])).length) Slot.unset).toArray = ls at hl ⊢
  have hl : lv_has ls 6 [(0, .ref (ad 74)), (1, .ref (ad r1))] := hl
  obtain ⟨Q, hQ⟩ : ∃ Q : State → Prop, Q = MQ below (va_Qi (fun (a : Int32) (u : SD) => a = res.1 ∧ u = res.2) (ax_B dC dI 77 (cD cyI cyE ad) ad) (ax_A 77 ad s.heap.size)) args s 0 0 (ax_A 77 ad s.heap.size) := ⟨_, rfl⟩
  show W p l e rm_X3_contentsPass s m args below meth c s.heap [] 0 0 _ _
  rw [← hQ]
  have hret : ∀ (v : Int32) (σ : SD) (H : Heap) (locs : List Loc) (ls : Array Slot) (pc : Nat), narrow .boolean (.int v) = .int v → some (v, σ) = some res → va_P (dC, dI) vwCl (ax_w 77 ad (cD cyI cyE ad σ)) H → va_S (ax_A 77 ad s.heap.size) s.heap H locs → decode cX3_contentsPass pc = .ok (.ireturn, 1) → W p l e rm_X3_contentsPass s m args below meth c H locs 0 0 Q (F0 m pc ls [.int v]) := by
    intro v σ H locs ls pc hn hf hP hS hd
    cases hf
    rw [hQ]
    exact ax_iret hx hb hr hlocks hn hP hS hd rfl rfl
  have L67 : ∀ (σ : SD) (x4 : Int32), ∀ (H : Heap) (locs : List Loc) (ls : Array Slot), va_P (dC, dI) vwCl (ax_w 77 ad (cD cyI cyE ad σ)) H → va_S (ax_A 77 ad s.heap.size) s.heap H locs → lv_has ls 6 [(0, .ref (ad 74)), (4, .int x4)] → f_X3_contentsPass_67 r1 σ x4 = some res → W p l e rm_X3_contentsPass s m args below meth c H locs 0 0 Q (F0 m 67 ls []) := by
    intro σ x4  H locs ls hP hS hl hf
    unfold f_X3_contentsPass_67 at hf
    refine lv_aload_n hx hb dX3_contentsPass_67 rfl (lv_at hl 0 rfl) ?_
    refine lv_iconst (v := 4) hx hb dX3_contentsPass_68 (by decide) ?_
    refine lv_iload hx hb dX3_contentsPass_69 (lv_at hl 1 rfl) ?_
    refine lv_aload_n hx hb dX3_contentsPass_71 rfl (lv_at hl 0 rfl) ?_
    refine g_Reader_packedAt C0 hT hE hP mf_X3_15 dX3_contentsPass_72 ?_
    refine lv_iload hx hb dX3_contentsPass_75 (lv_at hl 1 rfl) ?_
    obtain ⟨hin, hf⟩ := ob_if hf
    refine aD_ld (a := 26) (by decide) C0 hT hE hP (inb_in hin) dX3_contentsPass_77 ?_
    obtain ⟨q78, hq, hf⟩ := ob_bind hf
    refine ax_callVi (C := "") (b := 0) (i := 74) (k := 3) (ci := 2) [.int 4, .int x4, .int (σ.2.2.1 26 x4.toNatClampNeg)] C0 hT hJ hE (met_X3_fails l dC dI cyI cyE tC ad σ 4 x4 (σ.2.2.1 26 x4.toNatClampNeg) _ hq) hP hS mc_X3_fails ml_X3_81 mi_X3_fails ms_X3_fails mz_X3 (by decide +kernel) ⟨rfl, rfl⟩ ⟨by decide, by decide⟩ (by decide) cD_Reader rfl rfl rfl hl.1 (Nat.le_of_ble_eq_true rfl) dX3_contentsPass_78 ⟨Nat.zero_le _, Nat.zero_le _⟩ (fun H locs hP hS => ?_)
    obtain ⟨hnz, hf⟩ := ob_if hf
    exact hret _ _ _ _ _ _ (nzb_n hnz) hf hP hS dX3_contentsPass_81
  have L5 : ∀ (n : Nat), ∀ (σ : SD) (x2 : Int64) (x4 : Int32), ∀ (H : Heap) (locs : List Loc) (ls : Array Slot), va_P (dC, dI) vwCl (ax_w 77 ad (cD cyI cyE ad σ)) H → va_S (ax_A 77 ad s.heap.size) s.heap H locs → lv_has ls 6 [(0, .ref (ad 74)), (1, .ref (ad r1)), (2, .long x2), (4, .int x4)] → f_X3_contentsPass_5 r1 n σ x2 x4 = some res → W p l e rm_X3_contentsPass s m args below meth c H locs 0 0 Q (F0 m 5 ls []) := by
    intro n
    induction n with
    | zero =>
      intro σ x2 x4  H locs ls hP hS hl hf
      cases hf
    | succ n ih =>
      intro σ x2 x4  H locs ls hP hS hl hf
      rw [f_X3_contentsPass_5] at hf
      refine lv_iload hx hb dX3_contentsPass_5 (lv_at hl 3 rfl) ?_
      refine lv_aload_n hx hb dX3_contentsPass_7 rfl (lv_at hl 0 rfl) ?_
      refine g_Reader_count C0 hT hE hP mf_X3_100 dX3_contentsPass_8 ?_
      refine lv_icmp_ge (tgt := 141) hx hb dX3_contentsPass_11 (by decide) (fun h11 => ?_) (fun h11 => ?_)
      · rw [if_pos h11] at hf
        refine lv_iconst (v := 1) hx hb dX3_contentsPass_141 (by decide) ?_
        exact hret _ _ _ _ _ _ rfl hf hP hS dX3_contentsPass_142
      · rw [if_neg h11] at hf
        refine lv_aload_n hx hb dX3_contentsPass_14 rfl (lv_at hl 0 rfl) ?_
        refine g_Reader_header C0 hT hE hP mf_X3_21 dX3_contentsPass_15 ?_
        refine lv_aload_n hx hb dX3_contentsPass_18 rfl (lv_at hl 1 rfl) ?_
        refine lv_aload_n hx hb dX3_contentsPass_19 rfl (lv_at hl 0 rfl) ?_
        refine g_Reader_centralAt C0 hT hE hP mf_X3_9 dX3_contentsPass_20 ?_
        refine lv_iload hx hb dX3_contentsPass_23 (lv_at hl 3 rfl) ?_
        obtain ⟨hin, hf⟩ := ob_if hf
        refine aD_ld (a := 25) (by decide) C0 hT hE hP (inb_in hin) dX3_contentsPass_25 ?_
        refine lv_bipush (v := 6) hx hb dX3_contentsPass_26 (by decide) ?_
        refine lv_iadd hx hb dX3_contentsPass_28 ?_
        obtain ⟨q29, hq, hf⟩ := ob_bind hf
        refine ax_callVi (C := "") (b := 0) (i := 73) (k := 2) (ci := 1) [.ref (ad r1), .int ((σ.2.2.1 25 x4.toNatClampNeg) + 6)] C0 hT hJ hE (met_X2_parse l dC dI cyI cyE tC ad σ r1 ((σ.2.2.1 25 x4.toNatClampNeg) + 6) (by omega) _ hq) hP hS mc_X2_parse ml_X3_110 mi_X2_parse ms_X2_parse mz_X2 (by decide +kernel) ⟨rfl, rfl⟩ ⟨by decide, by decide⟩ (by decide) cD_Header rfl rfl rfl hl.1 (Nat.le_of_ble_eq_true rfl) dX3_contentsPass_29 ⟨Nat.zero_le _, Nat.zero_le _⟩ (fun H locs hP hS => ?_)
        refine lv_istore (lv' := [(5, .int q29.1), (0, .ref (ad 74)), (1, .ref (ad r1)), (2, .long x2), (4, .int x4)]) hx hb dX3_contentsPass_32 hl (by decide) rfl (fun ls hl => ?_)
        refine lv_lload_n hx hb dX3_contentsPass_34 rfl (lv_at hl 3 rfl) ?_
        refine lv_aload_n hx hb dX3_contentsPass_35 rfl (lv_at hl 1 rfl) ?_
        refine g_Reader_header C0 hT hE hP mf_X3_21 dX3_contentsPass_36 ?_
        refine gN_Header_size C0 hT hE hP (by decide) dX3_contentsPass_39 ?_
        refine lv_ladd hx hb dX3_contentsPass_42 ?_
        refine lv_lstore_n (lv' := [(2, .long (x2 + (q29.2.2.1 1))), (5, .int q29.1), (0, .ref (ad 74)), (1, .ref (ad r1)), (4, .int x4)]) hx hb dX3_contentsPass_43 rfl hl (by decide) rfl (fun ls hl => ?_)
        refine lv_iload hx hb dX3_contentsPass_44 (lv_at hl 1 rfl) ?_
        refine lv_if_eq (tgt := 67) hx hb dX3_contentsPass_46 (by decide) (fun h46 => ?_) (fun h46 => ?_)
        · rw [if_pos h46] at hf
          exact L67 _ _ _ _ _ hP hS (lv_sub hl [2, 4] rfl) hf
        · rw [if_neg h46] at hf
          refine lv_aload_n hx hb dX3_contentsPass_49 rfl (lv_at hl 2 rfl) ?_
          refine g_Reader_header C0 hT hE hP mf_X3_21 dX3_contentsPass_50 ?_
          obtain ⟨q53, hq, hf⟩ := ob_bind hf
          refine ax_callVi (C := "") (b := 0) (i := 73) (k := 0) (ci := 1) [] C0 hT hJ hE (met_X2_sizesFit l dC dI cyI cyE tC ad q29.2 _ hq) hP hS mc_X2_sizesFit ml_X3_131 mi_X2_sizesFit ms_X2_sizesFit mz_X2 (by decide +kernel) ⟨rfl, rfl⟩ ⟨by decide, by decide⟩ (by decide) cD_Header rfl rfl rfl hl.1 (Nat.le_of_ble_eq_true rfl) dX3_contentsPass_53 ⟨Nat.zero_le _, Nat.zero_le _⟩ (fun H locs hP hS => ?_)
          refine lv_if_eq (tgt := 67) hx hb dX3_contentsPass_56 (by decide) (fun h56 => ?_) (fun h56 => ?_)
          · rw [if_pos h56] at hf
            exact L67 _ _ _ _ _ hP hS (lv_sub hl [2, 4] rfl) hf
          · rw [if_neg h56] at hf
            refine lv_lload_n hx hb dX3_contentsPass_59 rfl (lv_at hl 0 rfl) ?_
            refine lv_ldc2 (own := RX3) (v := 6000) hx hb hown (C0.2.2.2.2 _ (hT _ mk_X3_135)) dX3_contentsPass_60 ?_
            refine W.lcmp hx hb dX3_contentsPass_63 ?_
            refine lv_if_le (tgt := 82) hx hb dX3_contentsPass_64 (by decide) (fun h64 => ?_) (fun h64 => ?_)
            · rw [if_pos h64] at hf
              refine lv_aload_n hx hb dX3_contentsPass_82 rfl (lv_at hl 2 rfl) ?_
              refine lv_aload_n hx hb dX3_contentsPass_83 rfl (lv_at hl 3 rfl) ?_
              refine lv_aload_n hx hb dX3_contentsPass_84 rfl (lv_at hl 2 rfl) ?_
              refine g_Reader_packedAt C0 hT hE hP mf_X3_15 dX3_contentsPass_85 ?_
              refine lv_iload hx hb dX3_contentsPass_88 (lv_at hl 4 rfl) ?_
              obtain ⟨hin, hf⟩ := ob_if hf
              refine aD_ld (a := 26) (by decide) C0 hT hE hP (inb_in hin) dX3_contentsPass_90 ?_
              obtain ⟨q91, hq, hf⟩ := ob_bind hf
              refine ax_callVi (C := "") (b := 0) (i := 74) (k := 2) (ci := 2) [.ref (ad r1), .int (q53.2.2.2.1 26 x4.toNatClampNeg)] C0 hT hJ hE (met_X3_unpack l dC dI cyI cyE tC ad q53.2 r1 (q53.2.2.2.1 26 x4.toNatClampNeg) (by omega) _ hq) hP hS mc_X3_unpack ml_X3_137 mi_X3_unpack ms_X3_unpack mz_X3 (by decide +kernel) ⟨rfl, rfl⟩ ⟨by decide, by decide⟩ (by decide) cD_Reader rfl rfl rfl hl.1 (Nat.le_of_ble_eq_true rfl) dX3_contentsPass_91 ⟨Nat.zero_le _, Nat.zero_le _⟩ (fun H locs hP hS => ?_)
              refine lv_if_ne (tgt := 112) hx hb dX3_contentsPass_94 (by decide) (fun h94 => ?_) (fun h94 => ?_)
              · rw [if_neg h94] at hf
                refine lv_aload_n hx hb dX3_contentsPass_112 rfl (lv_at hl 2 rfl) ?_
                obtain ⟨q113, hq, hf⟩ := ob_bind hf
                refine ax_callVi (C := "") (b := 0) (i := 74) (k := 0) (ci := 2) [] C0 hT hJ hE (met_X3_crcAgrees l dC dI cyI cyE tC ad q91.2 _ hq) hP hS mc_X3_crcAgrees ml_X3_140 mi_X3_crcAgrees ms_X3_crcAgrees mz_X3 (by decide +kernel) ⟨rfl, rfl⟩ ⟨by decide, by decide⟩ (by decide) cD_Reader rfl rfl rfl hl.1 (Nat.le_of_ble_eq_true rfl) dX3_contentsPass_113 ⟨Nat.zero_le _, Nat.zero_le _⟩ (fun H locs hP hS => ?_)
                refine lv_if_ne (tgt := 135) hx hb dX3_contentsPass_116 (by decide) (fun h116 => ?_) (fun h116 => ?_)
                · rw [if_neg h116] at hf
                  refine lv_iinc (v := x4 + 1) (lv' := [(4, .int (x4 + 1)), (2, .long (x2 + (q29.2.2.1 1))), (5, .int q29.1), (0, .ref (ad 74)), (1, .ref (ad r1))]) hx hb dX3_contentsPass_135 hl (k := 4) rfl rfl (by decide) rfl (fun ls hl => ?_)
                  refine lv_goto (tgt := 5) hx hb dX3_contentsPass_138 (by decide) ?_
                  exact ih _ _ _ _ _ _ hP hS (lv_sub hl [3, 4, 1, 0] rfl) hf
                · rw [if_pos h116] at hf
                  refine lv_aload_n hx hb dX3_contentsPass_119 rfl (lv_at hl 2 rfl) ?_
                  refine lv_bipush (v := 6) hx hb dX3_contentsPass_120 (by decide) ?_
                  refine lv_iload hx hb dX3_contentsPass_122 (lv_at hl 4 rfl) ?_
                  refine lv_aload_n hx hb dX3_contentsPass_124 rfl (lv_at hl 2 rfl) ?_
                  refine g_Reader_packedAt C0 hT hE hP mf_X3_15 dX3_contentsPass_125 ?_
                  refine lv_iload hx hb dX3_contentsPass_128 (lv_at hl 4 rfl) ?_
                  obtain ⟨hin, hf⟩ := ob_if hf
                  refine aD_ld (a := 26) (by decide) C0 hT hE hP (inb_in hin) dX3_contentsPass_130 ?_
                  obtain ⟨q131, hq, hf⟩ := ob_bind hf
                  refine ax_callVi (C := "") (b := 0) (i := 74) (k := 3) (ci := 2) [.int 6, .int x4, .int (q113.2.2.2.1 26 x4.toNatClampNeg)] C0 hT hJ hE (met_X3_fails l dC dI cyI cyE tC ad q113.2 6 x4 (q113.2.2.2.1 26 x4.toNatClampNeg) _ hq) hP hS mc_X3_fails ml_X3_81 mi_X3_fails ms_X3_fails mz_X3 (by decide +kernel) ⟨rfl, rfl⟩ ⟨by decide, by decide⟩ (by decide) cD_Reader rfl rfl rfl hl.1 (Nat.le_of_ble_eq_true rfl) dX3_contentsPass_131 ⟨Nat.zero_le _, Nat.zero_le _⟩ (fun H locs hP hS => ?_)
                  obtain ⟨hnz, hf⟩ := ob_if hf
                  exact hret _ _ _ _ _ _ (nzb_n hnz) hf hP hS dX3_contentsPass_134
              · rw [if_pos h94] at hf
                refine lv_aload_n hx hb dX3_contentsPass_97 rfl (lv_at hl 2 rfl) ?_
                refine lv_iconst (v := 5) hx hb dX3_contentsPass_98 (by decide) ?_
                refine lv_iload hx hb dX3_contentsPass_99 (lv_at hl 4 rfl) ?_
                refine lv_aload_n hx hb dX3_contentsPass_101 rfl (lv_at hl 2 rfl) ?_
                refine g_Reader_packedAt C0 hT hE hP mf_X3_15 dX3_contentsPass_102 ?_
                refine lv_iload hx hb dX3_contentsPass_105 (lv_at hl 4 rfl) ?_
                obtain ⟨hin, hf⟩ := ob_if hf
                refine aD_ld (a := 26) (by decide) C0 hT hE hP (inb_in hin) dX3_contentsPass_107 ?_
                obtain ⟨q108, hq, hf⟩ := ob_bind hf
                refine ax_callVi (C := "") (b := 0) (i := 74) (k := 3) (ci := 2) [.int 5, .int x4, .int (q91.2.2.2.1 26 x4.toNatClampNeg)] C0 hT hJ hE (met_X3_fails l dC dI cyI cyE tC ad q91.2 5 x4 (q91.2.2.2.1 26 x4.toNatClampNeg) _ hq) hP hS mc_X3_fails ml_X3_81 mi_X3_fails ms_X3_fails mz_X3 (by decide +kernel) ⟨rfl, rfl⟩ ⟨by decide, by decide⟩ (by decide) cD_Reader rfl rfl rfl hl.1 (Nat.le_of_ble_eq_true rfl) dX3_contentsPass_108 ⟨Nat.zero_le _, Nat.zero_le _⟩ (fun H locs hP hS => ?_)
                obtain ⟨hnz, hf⟩ := ob_if hf
                exact hret _ _ _ _ _ _ (nzb_n hnz) hf hP hS dX3_contentsPass_111
            · rw [if_neg h64] at hf
              exact L67 _ _ _ _ _ hP hS (lv_sub hl [2, 4] rfl) hf
  unfold f_X3_contentsPass at hf
  refine lv_lconst (v := 0) hx hb dX3_contentsPass_0 (by decide) ?_
  refine lv_lstore_n (lv' := [(2, .long 0), (0, .ref (ad 74)), (1, .ref (ad r1))]) hx hb dX3_contentsPass_1 rfl hl (by decide) rfl (fun ls hl => ?_)
  refine lv_iconst (v := 0) hx hb dX3_contentsPass_2 (by decide) ?_
  refine lv_istore (lv' := [(4, .int 0), (2, .long 0), (0, .ref (ad 74)), (1, .ref (ad r1))]) hx hb dX3_contentsPass_3 hl (by decide) rfl (fun ls hl => ?_)
  exact L5 fu _ _ _ _ _ _ hP hS (lv_sub hl [2, 3, 1, 0] rfl) hf
def f_X3_passes (σ : SD) (r1 : Nat) : Option (Int32 × SD) := (f_X3_endPasses (SDi (SDi (SDi σ 9 0 0) 10 0 (-1)) 11 0 (-1)) r1).bind fun q17 => if q17.1 = 0 then (some (0, q17.2)) else ((f_X3_centralsPass q17.2 r1).bind fun q25 => if q25.1 = 0 then (some (0, q25.2)) else ((f_X3_localsPass q25.2 r1).bind fun q33 => if q33.1 = 0 then (some (0, q33.2)) else ((f_X3_contentsPass q33.2 r1).bind fun q41 => if q41.1 = 0 then (some (0, q41.2)) else (some (1, q41.2)))))
def rm_X3_passes : Room := { frames := 5, cells := 0, slots := 0, locals := 128 }
set_option maxHeartbeats 4000000 in
set_option maxRecDepth 100000 in
theorem met_X3_passes (l : Launch) (dC : Nat → ClassId) (dI : Nat → Nat → Nat) (cyI cyE : ClassId) (tC : Nat) (ad : Nat → Nat) (σ : SD) (r1 : Nat) (hb_r1 : r1 < 25) (res : Int32 × SD) (hf : f_X3_passes σ r1 = some res) : ax_Mi l dC dI cyI cyE tC 77 (cD cyI cyE ad) ad yX3_passes cX3_passes 2 (some .boolean) rm_X3_passes [.ref (ad 74), .ref (ad r1)] σ res.1 res.2 := by
  intro sz
  refine Met.ofW (cc := cX3_passes) (maxL := 2) (ret := (some .boolean)) (by decide) rfl ?_
  intro p e s m args below meth c s₁ B hml hv
  obtain ⟨hargs, hsz, hP, hJ, hE⟩ := hv
  subst hsz
  have hx := B.exec
  have hb := B.bytes
  have hr := B.returns
  have hlocks := B.notSynchronized
  have hts := atoms_spec (ws := wsY yX3_passes cX3_passes 2 (some .boolean)) B.pre
  have hown : s.vm.findClass RX3 = some m.cls := findClass_of_methodNamed B.named
  have C0 : CallFix p m c cX3_passes 2 s args (wsY yX3_passes cX3_passes 2 (some .boolean)) RX3 := ⟨hx, hb, hml, hown, hts⟩
  have hT : ∀ w ∈ bw, w ∈ wsY yX3_passes cX3_passes 2 (some .boolean) := fun w h => List.mem_cons_of_mem _ h
  have hS : va_S (ax_A 77 ad s.heap.size) s.heap s.heap [] := va_S.rf
  rw [show entryFrame m args 2 = entryFrame m ([.ref (ad 74), .ref (ad r1)] : List Value).toArray 2 by rw [hargs]]
  have hl := lv_entry ([.ref (ad 74), .ref (ad r1)]) (n := 2) (Nat.le_of_ble_eq_true rfl)
  rw [lg_entry_eq]
  generalize (lg_sl ([.ref (ad 74), .ref (ad r1)]) ++ List.replicate (2 - (lg_sl ([.ref (ad 74), .ref (ad r1)])).length) Slot.unset).toArray = ls at hl ⊢
  have hl : lv_has ls 2 [(0, .ref (ad 74)), (1, .ref (ad r1))] := hl
  obtain ⟨Q, hQ⟩ : ∃ Q : State → Prop, Q = MQ below (va_Qi (fun (a : Int32) (u : SD) => a = res.1 ∧ u = res.2) (ax_B dC dI 77 (cD cyI cyE ad) ad) (ax_A 77 ad s.heap.size)) args s 0 0 (ax_A 77 ad s.heap.size) := ⟨_, rfl⟩
  show W p l e rm_X3_passes s m args below meth c s.heap [] 0 0 _ _
  rw [← hQ]
  have hret : ∀ (v : Int32) (σ : SD) (H : Heap) (locs : List Loc) (ls : Array Slot) (pc : Nat), narrow .boolean (.int v) = .int v → some (v, σ) = some res → va_P (dC, dI) vwCl (ax_w 77 ad (cD cyI cyE ad σ)) H → va_S (ax_A 77 ad s.heap.size) s.heap H locs → decode cX3_passes pc = .ok (.ireturn, 1) → W p l e rm_X3_passes s m args below meth c H locs 0 0 Q (F0 m pc ls [.int v]) := by
    intro v σ H locs ls pc hn hf hP hS hd
    cases hf
    rw [hQ]
    exact ax_iret hx hb hr hlocks hn hP hS hd rfl rfl
  unfold f_X3_passes at hf
  refine lv_aload_n hx hb dX3_passes_0 rfl (lv_at hl 0 rfl) ?_
  refine lv_iconst (v := 0) hx hb dX3_passes_1 (by decide) ?_
  refine p_Reader_faultNumber C0 hT hE hJ hP hS mf_X3_34 dX3_passes_2 (fun H locs hP hS => ?_)
  refine lv_aload_n hx hb dX3_passes_5 rfl (lv_at hl 0 rfl) ?_
  refine lv_iconst (v := (-1)) hx hb dX3_passes_6 (by decide) ?_
  refine p_Reader_faultFile C0 hT hE hJ hP hS mf_X3_38 dX3_passes_7 (fun H locs hP hS => ?_)
  refine lv_aload_n hx hb dX3_passes_10 rfl (lv_at hl 0 rfl) ?_
  refine lv_iconst (v := (-1)) hx hb dX3_passes_11 (by decide) ?_
  refine p_Reader_faultPlace C0 hT hE hJ hP hS mf_X3_41 dX3_passes_12 (fun H locs hP hS => ?_)
  refine lv_aload_n hx hb dX3_passes_15 rfl (lv_at hl 0 rfl) ?_
  refine lv_aload_n hx hb dX3_passes_16 rfl (lv_at hl 1 rfl) ?_
  obtain ⟨q17, hq, hf⟩ := ob_bind hf
  refine ax_callVi (C := "") (b := 0) (i := 74) (k := 1) (ci := 2) [.ref (ad r1)] C0 hT hJ hE (met_X3_endPasses l dC dI cyI cyE tC ad (SDi (SDi (SDi σ 9 0 0) 10 0 (-1)) 11 0 (-1)) r1 (by omega) _ hq) hP hS mc_X3_endPasses ml_X3_51 mi_X3_endPasses ms_X3_endPasses mz_X3 (by decide +kernel) ⟨rfl, rfl⟩ ⟨by decide, by decide⟩ (by decide) cD_Reader rfl rfl rfl hl.1 (Nat.le_of_ble_eq_true rfl) dX3_passes_17 ⟨Nat.zero_le _, Nat.zero_le _⟩ (fun H locs hP hS => ?_)
  refine lv_if_eq (tgt := 51) hx hb dX3_passes_20 (by decide) (fun h20 => ?_) (fun h20 => ?_)
  · rw [if_pos h20] at hf
    refine lv_iconst (v := 0) hx hb dX3_passes_51 (by decide) ?_
    exact hret _ _ _ _ _ _ rfl hf hP hS dX3_passes_52
  · rw [if_neg h20] at hf
    refine lv_aload_n hx hb dX3_passes_23 rfl (lv_at hl 0 rfl) ?_
    refine lv_aload_n hx hb dX3_passes_24 rfl (lv_at hl 1 rfl) ?_
    obtain ⟨q25, hq, hf⟩ := ob_bind hf
    refine ax_callVi (C := "") (b := 0) (i := 74) (k := 1) (ci := 2) [.ref (ad r1)] C0 hT hJ hE (met_X3_centralsPass l dC dI cyI cyE tC ad q17.2 r1 (by omega) _ hq) hP hS mc_X3_centralsPass ml_X3_55 mi_X3_centralsPass ms_X3_centralsPass mz_X3 (by decide +kernel) ⟨rfl, rfl⟩ ⟨by decide, by decide⟩ (by decide) cD_Reader rfl rfl rfl hl.1 (Nat.le_of_ble_eq_true rfl) dX3_passes_25 ⟨Nat.zero_le _, Nat.zero_le _⟩ (fun H locs hP hS => ?_)
    refine lv_if_eq (tgt := 51) hx hb dX3_passes_28 (by decide) (fun h28 => ?_) (fun h28 => ?_)
    · rw [if_pos h28] at hf
      refine lv_iconst (v := 0) hx hb dX3_passes_51 (by decide) ?_
      exact hret _ _ _ _ _ _ rfl hf hP hS dX3_passes_52
    · rw [if_neg h28] at hf
      refine lv_aload_n hx hb dX3_passes_31 rfl (lv_at hl 0 rfl) ?_
      refine lv_aload_n hx hb dX3_passes_32 rfl (lv_at hl 1 rfl) ?_
      obtain ⟨q33, hq, hf⟩ := ob_bind hf
      refine ax_callVi (C := "") (b := 0) (i := 74) (k := 1) (ci := 2) [.ref (ad r1)] C0 hT hJ hE (met_X3_localsPass l dC dI cyI cyE tC ad q25.2 r1 (by omega) _ hq) hP hS mc_X3_localsPass ml_X3_58 mi_X3_localsPass ms_X3_localsPass mz_X3 (by decide +kernel) ⟨rfl, rfl⟩ ⟨by decide, by decide⟩ (by decide) cD_Reader rfl rfl rfl hl.1 (Nat.le_of_ble_eq_true rfl) dX3_passes_33 ⟨Nat.zero_le _, Nat.zero_le _⟩ (fun H locs hP hS => ?_)
      refine lv_if_eq (tgt := 51) hx hb dX3_passes_36 (by decide) (fun h36 => ?_) (fun h36 => ?_)
      · rw [if_pos h36] at hf
        refine lv_iconst (v := 0) hx hb dX3_passes_51 (by decide) ?_
        exact hret _ _ _ _ _ _ rfl hf hP hS dX3_passes_52
      · rw [if_neg h36] at hf
        refine lv_aload_n hx hb dX3_passes_39 rfl (lv_at hl 0 rfl) ?_
        refine lv_aload_n hx hb dX3_passes_40 rfl (lv_at hl 1 rfl) ?_
        obtain ⟨q41, hq, hf⟩ := ob_bind hf
        refine ax_callVi (C := "") (b := 0) (i := 74) (k := 1) (ci := 2) [.ref (ad r1)] C0 hT hJ hE (met_X3_contentsPass l dC dI cyI cyE tC ad q33.2 r1 (by omega) _ hq) hP hS mc_X3_contentsPass ml_X3_61 mi_X3_contentsPass ms_X3_contentsPass mz_X3 (by decide +kernel) ⟨rfl, rfl⟩ ⟨by decide, by decide⟩ (by decide) cD_Reader rfl rfl rfl hl.1 (Nat.le_of_ble_eq_true rfl) dX3_passes_41 ⟨Nat.zero_le _, Nat.zero_le _⟩ (fun H locs hP hS => ?_)
        refine lv_if_eq (tgt := 51) hx hb dX3_passes_44 (by decide) (fun h44 => ?_) (fun h44 => ?_)
        · rw [if_pos h44] at hf
          refine lv_iconst (v := 0) hx hb dX3_passes_51 (by decide) ?_
          exact hret _ _ _ _ _ _ rfl hf hP hS dX3_passes_52
        · rw [if_neg h44] at hf
          refine lv_iconst (v := 1) hx hb dX3_passes_47 (by decide) ?_
          refine lv_goto (tgt := 52) hx hb dX3_passes_48 (by decide) ?_
          exact hret _ _ _ _ _ _ rfl hf hP hS dX3_passes_52
def f_X5_fill (σ : SD) (k1 : Nat) (r2 : Nat) (x3 : Int32) (x4 : Int32) : Option (SD) := (f_X4_size σ 3).bind fun q5 => (f_X4_append (SDi q5.2 1 k1 q5.1) 3 r2 x3 x4).bind fun q19 => (f_X4_size q19 3).bind fun q27 => (f_X0_crc (SDi q27.2 2 k1 (q27.1 - (q27.2.1 1 k1))) 3 ((SDi q27.2 2 k1 (q27.1 - (q27.2.1 1 k1))).1 1 k1) ((SDi q27.2 2 k1 (q27.1 - (q27.2.1 1 k1))).1 2 k1)).bind fun q51 => (f_X0_foldedSize (SDi q51.2 4 k1 q51.1) 3 ((SDi q51.2 4 k1 q51.1).1 1 k1) ((SDi q51.2 4 k1 q51.1).1 2 k1)).bind fun q74 => some (SDi q74.2 3 k1 (if q74.1 < ((SDi q51.2 4 k1 q51.1).1 2 k1) then q74.1 else ((SDi q51.2 4 k1 q51.1).1 2 k1)))
def rm_X5_fill : Room := { frames := 3, cells := 0, slots := 0, locals := 81 }
set_option maxHeartbeats 4000000 in
set_option maxRecDepth 100000 in
theorem met_X5_fill (l : Launch) (dC : Nat → ClassId) (dI : Nat → Nat → Nat) (cyI cyE : ClassId) (tC : Nat) (ad : Nat → Nat) (σ : SD) (k1 : Nat) (r2 : Nat) (x3 : Int32) (x4 : Int32) (hb_k1 : k1 < 20) (hb_r2 : r2 < 25) (res : SD) (hf : f_X5_fill σ k1 r2 x3 x4 = some res) : ax_Mv l dC dI cyI cyE tC 77 (cD cyI cyE ad) ad yX5_fill cX5_fill 5 none rm_X5_fill [.ref (ad 75), .ref (ad (52 + k1)), .ref (ad r2), .int x3, .int x4] σ res := by
  intro sz
  refine Met.ofW (cc := cX5_fill) (maxL := 5) (ret := none) (by decide) rfl ?_
  intro p e s m args below meth c s₁ B hml hv
  obtain ⟨hargs, hsz, hP, hJ, hE⟩ := hv
  subst hsz
  have hx := B.exec
  have hb := B.bytes
  have hr := B.returns
  have hlocks := B.notSynchronized
  have hts := atoms_spec (ws := wsY yX5_fill cX5_fill 5 none) B.pre
  have hown : s.vm.findClass RX5 = some m.cls := findClass_of_methodNamed B.named
  have C0 : CallFix p m c cX5_fill 5 s args (wsY yX5_fill cX5_fill 5 none) RX5 := ⟨hx, hb, hml, hown, hts⟩
  have hT : ∀ w ∈ bw, w ∈ wsY yX5_fill cX5_fill 5 none := fun w h => List.mem_cons_of_mem _ h
  have hS : va_S (ax_A 77 ad s.heap.size) s.heap s.heap [] := va_S.rf
  rw [show entryFrame m args 5 = entryFrame m ([.ref (ad 75), .ref (ad (52 + k1)), .ref (ad r2), .int x3, .int x4] : List Value).toArray 5 by rw [hargs]]
  have hl := lv_entry ([.ref (ad 75), .ref (ad (52 + k1)), .ref (ad r2), .int x3, .int x4]) (n := 5) (Nat.le_of_ble_eq_true rfl)
  rw [lg_entry_eq]
  generalize (lg_sl ([.ref (ad 75), .ref (ad (52 + k1)), .ref (ad r2), .int x3, .int x4]) ++ List.replicate (5 - (lg_sl ([.ref (ad 75), .ref (ad (52 + k1)), .ref (ad r2), .int x3, .int x4])).length) Slot.unset).toArray = ls at hl ⊢
  have hl : lv_has ls 5 [(0, .ref (ad 75)), (1, .ref (ad (52 + k1))), (2, .ref (ad r2)), (3, .int x3), (4, .int x4)] := hl
  obtain ⟨Q, hQ⟩ : ∃ Q : State → Prop, Q = MQ below (va_Qv (fun (u : SD) => u = res) (ax_B dC dI 77 (cD cyI cyE ad) ad) (ax_A 77 ad s.heap.size)) args s 0 0 (ax_A 77 ad s.heap.size) := ⟨_, rfl⟩
  show W p l e rm_X5_fill s m args below meth c s.heap [] 0 0 _ _
  rw [← hQ]
  have hret : ∀ (σ : SD) (H : Heap) (locs : List Loc) (ls : Array Slot) (pc : Nat), some σ = some res → va_P (dC, dI) vwCl (ax_w 77 ad (cD cyI cyE ad σ)) H → va_S (ax_A 77 ad s.heap.size) s.heap H locs → decode cX5_fill pc = .ok (.return_, 1) → W p l e rm_X5_fill s m args below meth c H locs 0 0 Q (F0 m pc ls []) := by
    intro σ H locs ls pc hf hP hS hd
    cases hf
    rw [hQ]
    exact ax_vret hx hb hr hlocks hP hS hd rfl
  unfold f_X5_fill at hf
  refine lv_aload_n hx hb dX5_fill_0 rfl (lv_at hl 1 rfl) ?_
  refine lv_aload_n hx hb dX5_fill_1 rfl (lv_at hl 0 rfl) ?_
  refine g_Shelf_bytes C0 hT hE hP mf_X5_22 dX5_fill_2 ?_
  obtain ⟨q5, hq, hf⟩ := ob_bind hf
  refine ax_callVi (C := "") (b := 0) (i := 3) (k := 0) (ci := 3) [] C0 hT hJ hE (met_X4_size l dC dI cyI cyE tC ad σ 3 (by decide) _ hq) hP hS mc_X4_size ml_X5_31 mi_X4_size ms_X4_size mz_X4 (by decide +kernel) ⟨rfl, rfl⟩ ⟨by decide, by decide⟩ (by decide) (cD_Row (by decide)) rfl rfl rfl hl.1 (Nat.le_of_ble_eq_true rfl) dX5_fill_5 ⟨Nat.zero_le _, Nat.zero_le _⟩ (fun H locs hP hS => ?_)
  refine pN_Entry_start (k := k1) (by omega) C0 hT hE hJ hP hS (by decide) dX5_fill_8 (fun H locs hP hS => ?_)
  refine lv_aload_n hx hb dX5_fill_11 rfl (lv_at hl 0 rfl) ?_
  refine g_Shelf_bytes C0 hT hE hP mf_X5_22 dX5_fill_12 ?_
  refine lv_aload_n hx hb dX5_fill_15 rfl (lv_at hl 2 rfl) ?_
  refine lv_iload_n hx hb dX5_fill_16 rfl (lv_at hl 3 rfl) ?_
  refine lv_iload hx hb dX5_fill_17 (lv_at hl 4 rfl) ?_
  obtain ⟨q19, hq, hf⟩ := ob_bind hf
  refine ax_callVv (b := 0) (i := 3) (k := 3) (ci := 3) [.ref (ad r2), .int x3, .int x4] C0 hT hJ hE (met_X4_append l dC dI cyI cyE tC ad (SDi q5.2 1 k1 q5.1) 3 r2 x3 x4 (by decide) (by omega) _ hq) hP hS mc_X4_append ml_X5_66 mi_X4_append ms_X4_append mz_X4 (by decide +kernel) ⟨rfl, rfl⟩ ⟨by decide, by decide⟩ (by decide) (cD_Row (by decide)) rfl rfl rfl hl.1 (Nat.le_of_ble_eq_true rfl) dX5_fill_19 ⟨Nat.zero_le _, Nat.zero_le _⟩ (fun H locs hP hS => ?_)
  refine lv_aload_n hx hb dX5_fill_22 rfl (lv_at hl 1 rfl) ?_
  refine lv_aload_n hx hb dX5_fill_23 rfl (lv_at hl 0 rfl) ?_
  refine g_Shelf_bytes C0 hT hE hP mf_X5_22 dX5_fill_24 ?_
  obtain ⟨q27, hq, hf⟩ := ob_bind hf
  refine ax_callVi (C := "") (b := 0) (i := 3) (k := 0) (ci := 3) [] C0 hT hJ hE (met_X4_size l dC dI cyI cyE tC ad q19 3 (by decide) _ hq) hP hS mc_X4_size ml_X5_31 mi_X4_size ms_X4_size mz_X4 (by decide +kernel) ⟨rfl, rfl⟩ ⟨by decide, by decide⟩ (by decide) (cD_Row (by decide)) rfl rfl rfl hl.1 (Nat.le_of_ble_eq_true rfl) dX5_fill_27 ⟨Nat.zero_le _, Nat.zero_le _⟩ (fun H locs hP hS => ?_)
  refine lv_aload_n hx hb dX5_fill_30 rfl (lv_at hl 1 rfl) ?_
  refine gN_Entry_start (k := k1) (by omega) C0 hT hE hP (by decide) dX5_fill_31 ?_
  refine lv_isub hx hb dX5_fill_34 ?_
  refine pN_Entry_size (k := k1) (by omega) C0 hT hE hJ hP hS (by decide) dX5_fill_35 (fun H locs hP hS => ?_)
  refine lv_aload_n hx hb dX5_fill_38 rfl (lv_at hl 1 rfl) ?_
  refine lv_aload_n hx hb dX5_fill_39 rfl (lv_at hl 0 rfl) ?_
  refine g_Shelf_bytes C0 hT hE hP mf_X5_22 dX5_fill_40 ?_
  refine lv_aload_n hx hb dX5_fill_43 rfl (lv_at hl 1 rfl) ?_
  refine gN_Entry_start (k := k1) (by omega) C0 hT hE hP (by decide) dX5_fill_44 ?_
  refine lv_aload_n hx hb dX5_fill_47 rfl (lv_at hl 1 rfl) ?_
  refine gN_Entry_size (k := k1) (by omega) C0 hT hE hP (by decide) dX5_fill_48 ?_
  obtain ⟨q51, hq, hf⟩ := ob_bind hf
  refine ax_callSi (k := 3) [.ref (ad 3), .int ((SDi q27.2 2 k1 (q27.1 - (q27.2.1 1 k1))).1 1 k1), .int ((SDi q27.2 2 k1 (q27.1 - (q27.2.1 1 k1))).1 2 k1)] C0 hT hJ hE (met_X0_crc l dC dI cyI cyE tC ad (SDi q27.2 2 k1 (q27.1 - (q27.2.1 1 k1))) 3 ((SDi q27.2 2 k1 (q27.1 - (q27.2.1 1 k1))).1 1 k1) ((SDi q27.2 2 k1 (q27.1 - (q27.2.1 1 k1))).1 2 k1) (by decide) _ hq) hP hS mc_X0_crc ml_X5_69 mt_X0_crc mz_X0 (by decide +kernel) ⟨rfl, rfl⟩ ⟨by decide, by decide⟩ rfl rfl hl.1 (Nat.le_of_ble_eq_true rfl) dX5_fill_51 ⟨Nat.zero_le _, Nat.zero_le _⟩ (fun H locs hP hS => ?_)
  refine pN_Entry_crc (k := k1) (by omega) C0 hT hE hJ hP hS (by decide) dX5_fill_54 (fun H locs hP hS => ?_)
  refine lv_aload_n hx hb dX5_fill_57 rfl (lv_at hl 1 rfl) ?_
  refine lv_aload_n hx hb dX5_fill_58 rfl (lv_at hl 1 rfl) ?_
  refine gN_Entry_size (k := k1) (by omega) C0 hT hE hP (by decide) dX5_fill_59 ?_
  refine lv_aload_n hx hb dX5_fill_62 rfl (lv_at hl 0 rfl) ?_
  refine g_Shelf_bytes C0 hT hE hP mf_X5_22 dX5_fill_63 ?_
  refine lv_aload_n hx hb dX5_fill_66 rfl (lv_at hl 1 rfl) ?_
  refine gN_Entry_start (k := k1) (by omega) C0 hT hE hP (by decide) dX5_fill_67 ?_
  refine lv_aload_n hx hb dX5_fill_70 rfl (lv_at hl 1 rfl) ?_
  refine gN_Entry_size (k := k1) (by omega) C0 hT hE hP (by decide) dX5_fill_71 ?_
  obtain ⟨q74, hq, hf⟩ := ob_bind hf
  refine ax_callSi (k := 3) [.ref (ad 3), .int ((SDi q51.2 4 k1 q51.1).1 1 k1), .int ((SDi q51.2 4 k1 q51.1).1 2 k1)] C0 hT hJ hE (met_X0_foldedSize l dC dI cyI cyE tC ad (SDi q51.2 4 k1 q51.1) 3 ((SDi q51.2 4 k1 q51.1).1 1 k1) ((SDi q51.2 4 k1 q51.1).1 2 k1) (by decide) _ hq) hP hS mc_X0_foldedSize ml_X5_77 mt_X0_foldedSize mz_X0 (by decide +kernel) ⟨rfl, rfl⟩ ⟨by decide, by decide⟩ rfl rfl hl.1 (Nat.le_of_ble_eq_true rfl) dX5_fill_74 ⟨Nat.zero_le _, Nat.zero_le _⟩ (fun H locs hP hS => ?_)
  refine va_mmin hx hb (C0.2.2.1.trans hl.1.symm) hown (C0.2.2.2.2 _ (hT _ ml_X5_80)) (C0.2.2.2.2 _ (hT _ mt_J9_min_7cf53)) (C0.2.2.2.2 _ (hT _ mz_J9)) (C0.2.2.2.2 _ (hT _ mc_J9_min_7cf53)) (Nat.le_of_ble_eq_true rfl) (Nat.le_of_ble_eq_true rfl) (Nat.zero_le _) (Nat.zero_le _) dX5_fill_77 ?_
  refine pN_Entry_packed (k := k1) (by omega) C0 hT hE hJ hP hS (by decide) dX5_fill_80 (fun H locs hP hS => ?_)
  exact hret _ _ _ _ _ hf hP hS dX5_fill_83
def f_X5_put (σ : SD) (r1 : Nat) (x2 : Int32) (x3 : Int32) (r4 : Nat) (x5 : Int32) (x6 : Int32) : Option (SD) := if (σ.1 5 0) < 20 then (if inb (σ.1 5 0) 20 = true then (if σ.2.2.2 (σ.1 5 0).toNatClampNeg < 20 then ((f_X1_setName σ (σ.2.2.2 (σ.1 5 0).toNatClampNeg) r1 x2 x3).bind fun q26 => (f_X5_fill q26 (σ.2.2.2 (σ.1 5 0).toNatClampNeg) r4 x5 x6).bind fun q38 => some (SDi q38 5 0 ((q38.1 5 0) + 1))) else none) else none) else (some σ)
def rm_X5_put : Room := { frames := 4, cells := 0, slots := 0, locals := 105 }
set_option maxHeartbeats 4000000 in
set_option maxRecDepth 100000 in
theorem met_X5_put (l : Launch) (dC : Nat → ClassId) (dI : Nat → Nat → Nat) (cyI cyE : ClassId) (tC : Nat) (ad : Nat → Nat) (σ : SD) (r1 : Nat) (x2 : Int32) (x3 : Int32) (r4 : Nat) (x5 : Int32) (x6 : Int32) (hb_r1 : r1 < 25) (hb_r4 : r4 < 25) (res : SD) (hf : f_X5_put σ r1 x2 x3 r4 x5 x6 = some res) : ax_Mv l dC dI cyI cyE tC 77 (cD cyI cyE ad) ad yX5_put cX5_put 8 none rm_X5_put [.ref (ad 75), .ref (ad r1), .int x2, .int x3, .ref (ad r4), .int x5, .int x6] σ res := by
  intro sz
  refine Met.ofW (cc := cX5_put) (maxL := 8) (ret := none) (by decide) rfl ?_
  intro p e s m args below meth c s₁ B hml hv
  obtain ⟨hargs, hsz, hP, hJ, hE⟩ := hv
  subst hsz
  have hx := B.exec
  have hb := B.bytes
  have hr := B.returns
  have hlocks := B.notSynchronized
  have hts := atoms_spec (ws := wsY yX5_put cX5_put 8 none) B.pre
  have hown : s.vm.findClass RX5 = some m.cls := findClass_of_methodNamed B.named
  have C0 : CallFix p m c cX5_put 8 s args (wsY yX5_put cX5_put 8 none) RX5 := ⟨hx, hb, hml, hown, hts⟩
  have hT : ∀ w ∈ bw, w ∈ wsY yX5_put cX5_put 8 none := fun w h => List.mem_cons_of_mem _ h
  have hS : va_S (ax_A 77 ad s.heap.size) s.heap s.heap [] := va_S.rf
  rw [show entryFrame m args 8 = entryFrame m ([.ref (ad 75), .ref (ad r1), .int x2, .int x3, .ref (ad r4), .int x5, .int x6] : List Value).toArray 8 by rw [hargs]]
  have hl := lv_entry ([.ref (ad 75), .ref (ad r1), .int x2, .int x3, .ref (ad r4), .int x5, .int x6]) (n := 8) (Nat.le_of_ble_eq_true rfl)
  rw [lg_entry_eq]
  generalize (lg_sl ([.ref (ad 75), .ref (ad r1), .int x2, .int x3, .ref (ad r4), .int x5, .int x6]) ++ List.replicate (8 - (lg_sl ([.ref (ad 75), .ref (ad r1), .int x2, .int x3, .ref (ad r4), .int x5, .int x6])).length) Slot.unset).toArray = ls at hl ⊢
  have hl : lv_has ls 8 [(0, .ref (ad 75)), (1, .ref (ad r1)), (2, .int x2), (3, .int x3), (4, .ref (ad r4)), (5, .int x5), (6, .int x6)] := hl
  obtain ⟨Q, hQ⟩ : ∃ Q : State → Prop, Q = MQ below (va_Qv (fun (u : SD) => u = res) (ax_B dC dI 77 (cD cyI cyE ad) ad) (ax_A 77 ad s.heap.size)) args s 0 0 (ax_A 77 ad s.heap.size) := ⟨_, rfl⟩
  show W p l e rm_X5_put s m args below meth c s.heap [] 0 0 _ _
  rw [← hQ]
  have hret : ∀ (σ : SD) (H : Heap) (locs : List Loc) (ls : Array Slot) (pc : Nat), some σ = some res → va_P (dC, dI) vwCl (ax_w 77 ad (cD cyI cyE ad σ)) H → va_S (ax_A 77 ad s.heap.size) s.heap H locs → decode cX5_put pc = .ok (.return_, 1) → W p l e rm_X5_put s m args below meth c H locs 0 0 Q (F0 m pc ls []) := by
    intro σ H locs ls pc hf hP hS hd
    cases hf
    rw [hQ]
    exact ax_vret hx hb hr hlocks hP hS hd rfl
  unfold f_X5_put at hf
  refine lv_aload_n hx hb dX5_put_0 rfl (lv_at hl 0 rfl) ?_
  refine g_Shelf_count C0 hT hE hP mf_X5_27 dX5_put_1 ?_
  refine lv_bipush (v := 20) hx hb dX5_put_4 (by decide) ?_
  refine lv_icmp_lt (tgt := 10) hx hb dX5_put_6 (by decide) (fun h6 => ?_) (fun h6 => ?_)
  · rw [if_pos h6] at hf
    refine lv_aload_n hx hb dX5_put_10 rfl (lv_at hl 0 rfl) ?_
    refine g_Shelf_entries C0 hT hE hP mf_X5_11 dX5_put_11 ?_
    refine lv_aload_n hx hb dX5_put_14 rfl (lv_at hl 0 rfl) ?_
    refine g_Shelf_count C0 hT hE hP mf_X5_27 dX5_put_15 ?_
    obtain ⟨hin, hf⟩ := ob_if hf
    obtain ⟨hen18, hf⟩ := ob_if hf
    refine aD_lde C0 hT hE hP (inb_in hin) dX5_put_18 ?_
    refine lv_astore (lv' := [(7, .ref (ad (52 + (σ.2.2.2 (σ.1 5 0).toNatClampNeg)))), (0, .ref (ad 75)), (1, .ref (ad r1)), (2, .int x2), (3, .int x3), (4, .ref (ad r4)), (5, .int x5), (6, .int x6)]) hx hb dX5_put_19 hl (by decide) rfl (fun ls hl => ?_)
    refine lv_aload hx hb dX5_put_21 (lv_at hl 0 rfl) ?_
    refine lv_aload_n hx hb dX5_put_23 rfl (lv_at hl 2 rfl) ?_
    refine lv_iload_n hx hb dX5_put_24 rfl (lv_at hl 3 rfl) ?_
    refine lv_iload_n hx hb dX5_put_25 rfl (lv_at hl 4 rfl) ?_
    obtain ⟨q26, hq, hf⟩ := ob_bind hf
    refine ax_callVv (b := 0) (i := (52 + (σ.2.2.2 (σ.1 5 0).toNatClampNeg))) (k := 3) (ci := 0) [.ref (ad r1), .int x2, .int x3] C0 hT hJ hE (met_X1_setName l dC dI cyI cyE tC ad σ (σ.2.2.2 (σ.1 5 0).toNatClampNeg) r1 x2 x3 (by omega) (by omega) _ hq) hP hS mc_X1_setName ml_X5_58 mi_X1_setName ms_X1_setName mz_X1 (by decide +kernel) ⟨rfl, rfl⟩ ⟨by decide, by decide⟩ (by omega) (cD_Entry (by omega)) rfl rfl rfl hl.1 (Nat.le_of_ble_eq_true rfl) dX5_put_26 ⟨Nat.zero_le _, Nat.zero_le _⟩ (fun H locs hP hS => ?_)
    refine lv_aload_n hx hb dX5_put_29 rfl (lv_at hl 1 rfl) ?_
    refine lv_aload hx hb dX5_put_30 (lv_at hl 0 rfl) ?_
    refine lv_aload hx hb dX5_put_32 (lv_at hl 5 rfl) ?_
    refine lv_iload hx hb dX5_put_34 (lv_at hl 6 rfl) ?_
    refine lv_iload hx hb dX5_put_36 (lv_at hl 7 rfl) ?_
    obtain ⟨q38, hq, hf⟩ := ob_bind hf
    refine ax_callVv (b := 0) (i := 75) (k := 4) (ci := 4) [.ref (ad (52 + (σ.2.2.2 (σ.1 5 0).toNatClampNeg))), .ref (ad r4), .int x5, .int x6] C0 hT hJ hE (met_X5_fill l dC dI cyI cyE tC ad q26 (σ.2.2.2 (σ.1 5 0).toNatClampNeg) r4 x5 x6 (by omega) (by omega) _ hq) hP hS mc_X5_fill ml_X5_62 mi_X5_fill ms_X5_fill mz_X5 (by decide +kernel) ⟨rfl, rfl⟩ ⟨by decide, by decide⟩ (by decide) cD_Shelf rfl rfl rfl hl.1 (Nat.le_of_ble_eq_true rfl) dX5_put_38 ⟨Nat.zero_le _, Nat.zero_le _⟩ (fun H locs hP hS => ?_)
    refine lv_aload_n hx hb dX5_put_41 rfl (lv_at hl 1 rfl) ?_
    refine lv_dup hx hb dX5_put_42 rfl ?_
    refine g_Shelf_count C0 hT hE hP mf_X5_27 dX5_put_43 ?_
    refine lv_iconst (v := 1) hx hb dX5_put_46 (by decide) ?_
    refine lv_iadd hx hb dX5_put_47 ?_
    refine p_Shelf_count C0 hT hE hJ hP hS mf_X5_27 dX5_put_48 (fun H locs hP hS => ?_)
    exact hret _ _ _ _ _ hf hP hS dX5_put_51
  · rw [if_neg h6] at hf
    exact hret _ _ _ _ _ hf hP hS dX5_put_9
def f_X3_load_81 (r1 : Nat) (k2 : SD → Int32 → Option (SD)) (σ : SD) (x3 : Int32) : Option (SD) := k2 σ (x3 + 1)
def f_X3_load_2 (r1 : Nat) : Nat → SD → Int32 → Option (SD)
  | 0, _, _ => none
  | n + 1, σ, x3 => if (σ.1 6 0) ≤ x3 then (some σ) else (if inb x3 (capD 25) = true then ((f_X2_parse σ r1 ((σ.2.2.1 25 x3.toNatClampNeg) + 6)).bind fun q28 => if q28.1 = 0 then (f_X3_load_81 r1 (f_X3_load_2 r1 n) q28.2 x3) else (if inb x3 (capD 26) = true then ((f_X3_unpack q28.2 r1 (q28.2.2.2.1 26 x3.toNatClampNeg)).bind fun q42 => if q42.1 = 0 then (f_X3_load_81 r1 (f_X3_load_2 r1 n) q42.2 x3) else ((f_X4_size q42.2 4).bind fun q75 => (f_X5_put q75.2 r1 ((σ.2.2.1 25 x3.toNatClampNeg) + 46) (q42.2.1 14 0) 4 0 q75.1).bind fun q78 => f_X3_load_81 r1 (f_X3_load_2 r1 n) q78 x3)) else none)) else none)
def f_X3_load (σ : SD) (r1 : Nat) : Option (SD) := f_X3_load_2 r1 fu σ 0
def rm_X3_load : Room := { frames := 5, cells := 0, slots := 0, locals := 132 }
set_option maxHeartbeats 4000000 in
set_option maxRecDepth 100000 in
theorem met_X3_load (l : Launch) (dC : Nat → ClassId) (dI : Nat → Nat → Nat) (cyI cyE : ClassId) (tC : Nat) (ad : Nat → Nat) (σ : SD) (r1 : Nat) (hb_r1 : r1 < 25) (res : SD) (hf : f_X3_load σ r1 = some res) : ax_Mv l dC dI cyI cyE tC 77 (cD cyI cyE ad) ad yX3_load cX3_load 6 none rm_X3_load [.ref (ad 74), .ref (ad r1), .ref (ad 75)] σ res := by
  intro sz
  refine Met.ofW (cc := cX3_load) (maxL := 6) (ret := none) (by decide) rfl ?_
  intro p e s m args below meth c s₁ B hml hv
  obtain ⟨hargs, hsz, hP, hJ, hE⟩ := hv
  subst hsz
  have hx := B.exec
  have hb := B.bytes
  have hr := B.returns
  have hlocks := B.notSynchronized
  have hts := atoms_spec (ws := wsY yX3_load cX3_load 6 none) B.pre
  have hown : s.vm.findClass RX3 = some m.cls := findClass_of_methodNamed B.named
  have C0 : CallFix p m c cX3_load 6 s args (wsY yX3_load cX3_load 6 none) RX3 := ⟨hx, hb, hml, hown, hts⟩
  have hT : ∀ w ∈ bw, w ∈ wsY yX3_load cX3_load 6 none := fun w h => List.mem_cons_of_mem _ h
  have hS : va_S (ax_A 77 ad s.heap.size) s.heap s.heap [] := va_S.rf
  rw [show entryFrame m args 6 = entryFrame m ([.ref (ad 74), .ref (ad r1), .ref (ad 75)] : List Value).toArray 6 by rw [hargs]]
  have hl := lv_entry ([.ref (ad 74), .ref (ad r1), .ref (ad 75)]) (n := 6) (Nat.le_of_ble_eq_true rfl)
  rw [lg_entry_eq]
  generalize (lg_sl ([.ref (ad 74), .ref (ad r1), .ref (ad 75)]) ++ List.replicate (6 - (lg_sl ([.ref (ad 74), .ref (ad r1), .ref (ad 75)])).length) Slot.unset).toArray = ls at hl ⊢
  have hl : lv_has ls 6 [(0, .ref (ad 74)), (1, .ref (ad r1)), (2, .ref (ad 75))] := hl
  obtain ⟨Q, hQ⟩ : ∃ Q : State → Prop, Q = MQ below (va_Qv (fun (u : SD) => u = res) (ax_B dC dI 77 (cD cyI cyE ad) ad) (ax_A 77 ad s.heap.size)) args s 0 0 (ax_A 77 ad s.heap.size) := ⟨_, rfl⟩
  show W p l e rm_X3_load s m args below meth c s.heap [] 0 0 _ _
  rw [← hQ]
  have hret : ∀ (σ : SD) (H : Heap) (locs : List Loc) (ls : Array Slot) (pc : Nat), some σ = some res → va_P (dC, dI) vwCl (ax_w 77 ad (cD cyI cyE ad σ)) H → va_S (ax_A 77 ad s.heap.size) s.heap H locs → decode cX3_load pc = .ok (.return_, 1) → W p l e rm_X3_load s m args below meth c H locs 0 0 Q (F0 m pc ls []) := by
    intro σ H locs ls pc hf hP hS hd
    cases hf
    rw [hQ]
    exact ax_vret hx hb hr hlocks hP hS hd rfl
  have L81 : ∀ (k2 : SD → Int32 → Option (SD)), (∀ (σ : SD) (x3 : Int32), ∀ (H : Heap) (locs : List Loc) (ls : Array Slot), va_P (dC, dI) vwCl (ax_w 77 ad (cD cyI cyE ad σ)) H → va_S (ax_A 77 ad s.heap.size) s.heap H locs → lv_has ls 6 [(0, .ref (ad 74)), (1, .ref (ad r1)), (2, .ref (ad 75)), (3, .int x3)] → k2 σ x3 = some res → W p l e rm_X3_load s m args below meth c H locs 0 0 Q (F0 m 2 ls [])) → ∀ (σ : SD) (x3 : Int32), ∀ (H : Heap) (locs : List Loc) (ls : Array Slot), va_P (dC, dI) vwCl (ax_w 77 ad (cD cyI cyE ad σ)) H → va_S (ax_A 77 ad s.heap.size) s.heap H locs → lv_has ls 6 [(0, .ref (ad 74)), (1, .ref (ad r1)), (2, .ref (ad 75)), (3, .int x3)] → f_X3_load_81 r1 k2 σ x3 = some res → W p l e rm_X3_load s m args below meth c H locs 0 0 Q (F0 m 81 ls []) := by
    intro k2 hk2
    intro σ x3  H locs ls hP hS hl hf
    unfold f_X3_load_81 at hf
    refine lv_iinc (v := x3 + 1) (lv' := [(3, .int (x3 + 1)), (0, .ref (ad 74)), (1, .ref (ad r1)), (2, .ref (ad 75))]) hx hb dX3_load_81 hl (k := 3) rfl rfl (by decide) rfl (fun ls hl => ?_)
    refine lv_goto (tgt := 2) hx hb dX3_load_84 (by decide) ?_
    exact hk2 _ _ _ _ _ hP hS (lv_sub hl [1, 2, 3, 0] rfl) hf
  have L2 : ∀ (n : Nat), ∀ (σ : SD) (x3 : Int32), ∀ (H : Heap) (locs : List Loc) (ls : Array Slot), va_P (dC, dI) vwCl (ax_w 77 ad (cD cyI cyE ad σ)) H → va_S (ax_A 77 ad s.heap.size) s.heap H locs → lv_has ls 6 [(0, .ref (ad 74)), (1, .ref (ad r1)), (2, .ref (ad 75)), (3, .int x3)] → f_X3_load_2 r1 n σ x3 = some res → W p l e rm_X3_load s m args below meth c H locs 0 0 Q (F0 m 2 ls []) := by
    intro n
    induction n with
    | zero =>
      intro σ x3  H locs ls hP hS hl hf
      cases hf
    | succ n ih =>
      intro σ x3  H locs ls hP hS hl hf
      rw [f_X3_load_2] at hf
      refine lv_iload_n hx hb dX3_load_2 rfl (lv_at hl 3 rfl) ?_
      refine lv_aload_n hx hb dX3_load_3 rfl (lv_at hl 0 rfl) ?_
      refine g_Reader_count C0 hT hE hP mf_X3_100 dX3_load_4 ?_
      refine lv_icmp_ge (tgt := 87) hx hb dX3_load_7 (by decide) (fun h7 => ?_) (fun h7 => ?_)
      · rw [if_pos h7] at hf
        exact hret _ _ _ _ _ hf hP hS dX3_load_87
      · rw [if_neg h7] at hf
        refine lv_aload_n hx hb dX3_load_10 rfl (lv_at hl 0 rfl) ?_
        refine g_Reader_centralAt C0 hT hE hP mf_X3_9 dX3_load_11 ?_
        refine lv_iload_n hx hb dX3_load_14 rfl (lv_at hl 3 rfl) ?_
        obtain ⟨hin, hf⟩ := ob_if hf
        refine aD_ld (a := 25) (by decide) C0 hT hE hP (inb_in hin) dX3_load_15 ?_
        refine lv_istore (lv' := [(4, .int (σ.2.2.1 25 x3.toNatClampNeg)), (0, .ref (ad 74)), (1, .ref (ad r1)), (2, .ref (ad 75)), (3, .int x3)]) hx hb dX3_load_16 hl (by decide) rfl (fun ls hl => ?_)
        refine lv_aload_n hx hb dX3_load_18 rfl (lv_at hl 1 rfl) ?_
        refine g_Reader_header C0 hT hE hP mf_X3_21 dX3_load_19 ?_
        refine lv_aload_n hx hb dX3_load_22 rfl (lv_at hl 2 rfl) ?_
        refine lv_iload hx hb dX3_load_23 (lv_at hl 0 rfl) ?_
        refine lv_bipush (v := 6) hx hb dX3_load_25 (by decide) ?_
        refine lv_iadd hx hb dX3_load_27 ?_
        obtain ⟨q28, hq, hf⟩ := ob_bind hf
        refine ax_callVi (C := "") (b := 0) (i := 73) (k := 2) (ci := 1) [.ref (ad r1), .int ((σ.2.2.1 25 x3.toNatClampNeg) + 6)] C0 hT hJ hE (met_X2_parse l dC dI cyI cyE tC ad σ r1 ((σ.2.2.1 25 x3.toNatClampNeg) + 6) (by omega) _ hq) hP hS mc_X2_parse ml_X3_110 mi_X2_parse ms_X2_parse mz_X2 (by decide +kernel) ⟨rfl, rfl⟩ ⟨by decide, by decide⟩ (by decide) cD_Header rfl rfl rfl hl.1 (Nat.le_of_ble_eq_true rfl) dX3_load_28 ⟨Nat.zero_le _, Nat.zero_le _⟩ (fun H locs hP hS => ?_)
        refine lv_if_eq (tgt := 81) hx hb dX3_load_31 (by decide) (fun h31 => ?_) (fun h31 => ?_)
        · rw [if_pos h31] at hf
          exact L81 _ ih _ _ _ _ _ hP hS (lv_sub hl [1, 2, 3, 4] rfl) hf
        · rw [if_neg h31] at hf
          refine lv_aload_n hx hb dX3_load_34 rfl (lv_at hl 1 rfl) ?_
          refine lv_aload_n hx hb dX3_load_35 rfl (lv_at hl 2 rfl) ?_
          refine lv_aload_n hx hb dX3_load_36 rfl (lv_at hl 1 rfl) ?_
          refine g_Reader_packedAt C0 hT hE hP mf_X3_15 dX3_load_37 ?_
          refine lv_iload_n hx hb dX3_load_40 rfl (lv_at hl 4 rfl) ?_
          obtain ⟨hin, hf⟩ := ob_if hf
          refine aD_ld (a := 26) (by decide) C0 hT hE hP (inb_in hin) dX3_load_41 ?_
          obtain ⟨q42, hq, hf⟩ := ob_bind hf
          refine ax_callVi (C := "") (b := 0) (i := 74) (k := 2) (ci := 2) [.ref (ad r1), .int (q28.2.2.2.1 26 x3.toNatClampNeg)] C0 hT hJ hE (met_X3_unpack l dC dI cyI cyE tC ad q28.2 r1 (q28.2.2.2.1 26 x3.toNatClampNeg) (by omega) _ hq) hP hS mc_X3_unpack ml_X3_137 mi_X3_unpack ms_X3_unpack mz_X3 (by decide +kernel) ⟨rfl, rfl⟩ ⟨by decide, by decide⟩ (by decide) cD_Reader rfl rfl rfl hl.1 (Nat.le_of_ble_eq_true rfl) dX3_load_42 ⟨Nat.zero_le _, Nat.zero_le _⟩ (fun H locs hP hS => ?_)
          refine lv_if_eq (tgt := 81) hx hb dX3_load_45 (by decide) (fun h45 => ?_) (fun h45 => ?_)
          · rw [if_pos h45] at hf
            exact L81 _ ih _ _ _ _ _ hP hS (lv_sub hl [1, 2, 3, 4] rfl) hf
          · rw [if_neg h45] at hf
            refine lv_iload hx hb dX3_load_48 (lv_at hl 0 rfl) ?_
            refine lv_bipush (v := 46) hx hb dX3_load_50 (by decide) ?_
            refine lv_iadd hx hb dX3_load_52 ?_
            refine lv_istore (lv' := [(5, .int ((σ.2.2.1 25 x3.toNatClampNeg) + 46)), (4, .int (σ.2.2.1 25 x3.toNatClampNeg)), (0, .ref (ad 74)), (1, .ref (ad r1)), (2, .ref (ad 75)), (3, .int x3)]) hx hb dX3_load_53 hl (by decide) rfl (fun ls hl => ?_)
            refine lv_aload_n hx hb dX3_load_55 rfl (lv_at hl 4 rfl) ?_
            refine lv_aload_n hx hb dX3_load_56 rfl (lv_at hl 3 rfl) ?_
            refine lv_iload hx hb dX3_load_57 (lv_at hl 0 rfl) ?_
            refine lv_aload_n hx hb dX3_load_59 rfl (lv_at hl 2 rfl) ?_
            refine g_Reader_header C0 hT hE hP mf_X3_21 dX3_load_60 ?_
            refine gN_Header_nameSize C0 hT hE hP (by decide) dX3_load_63 ?_
            refine lv_aload_n hx hb dX3_load_66 rfl (lv_at hl 2 rfl) ?_
            refine g_Reader_unpacked C0 hT hE hP mf_X3_30 dX3_load_67 ?_
            refine lv_iconst (v := 0) hx hb dX3_load_70 (by decide) ?_
            refine lv_aload_n hx hb dX3_load_71 rfl (lv_at hl 2 rfl) ?_
            refine g_Reader_unpacked C0 hT hE hP mf_X3_30 dX3_load_72 ?_
            obtain ⟨q75, hq, hf⟩ := ob_bind hf
            refine ax_callVi (C := "") (b := 0) (i := 4) (k := 0) (ci := 3) [] C0 hT hJ hE (met_X4_size l dC dI cyI cyE tC ad q42.2 4 (by decide) _ hq) hP hS mc_X4_size ml_X3_64 mi_X4_size ms_X4_size mz_X4 (by decide +kernel) ⟨rfl, rfl⟩ ⟨by decide, by decide⟩ (by decide) (cD_Row (by decide)) rfl rfl rfl hl.1 (Nat.le_of_ble_eq_true rfl) dX3_load_75 ⟨Nat.zero_le _, Nat.zero_le _⟩ (fun H locs hP hS => ?_)
            obtain ⟨q78, hq, hf⟩ := ob_bind hf
            refine ax_callVv (b := 0) (i := 75) (k := 6) (ci := 4) [.ref (ad r1), .int ((σ.2.2.1 25 x3.toNatClampNeg) + 46), .int (q42.2.1 14 0), .ref (ad 4), .int 0, .int q75.1] C0 hT hJ hE (met_X5_put l dC dI cyI cyE tC ad q75.2 r1 ((σ.2.2.1 25 x3.toNatClampNeg) + 46) (q42.2.1 14 0) 4 0 q75.1 (by omega) (by decide) _ hq) hP hS mc_X5_put ml_X3_166 mi_X5_put ms_X5_put mz_X5 (by decide +kernel) ⟨rfl, rfl⟩ ⟨by decide, by decide⟩ (by decide) cD_Shelf rfl rfl rfl hl.1 (Nat.le_of_ble_eq_true rfl) dX3_load_78 ⟨Nat.zero_le _, Nat.zero_le _⟩ (fun H locs hP hS => ?_)
            exact L81 _ ih _ _ _ _ _ hP hS (lv_sub hl [2, 3, 4, 5] rfl) hf
  unfold f_X3_load at hf
  refine lv_iconst (v := 0) hx hb dX3_load_0 (by decide) ?_
  refine lv_istore_n (lv' := [(3, .int 0), (0, .ref (ad 74)), (1, .ref (ad r1)), (2, .ref (ad 75))]) hx hb dX3_load_1 rfl hl (by decide) rfl (fun ls hl => ?_)
  exact L2 fu _ _ _ _ _ hP hS (lv_sub hl [1, 2, 3, 0] rfl) hf
def f_X3_wholeAt (σ : SD) (r1 : Nat) (x2 : Int32) : Option (Int32 × SD) := (f_X4_hasSignature σ r1 x2 3 4).bind fun q4 => if q4.1 = 0 then (some (0, q4.2)) else ((f_X2_parse q4.2 r1 (x2 + 4)).bind fun q18 => if q18.1 = 0 then (some (0, q18.2)) else ((f_X4_isName q18.2 r1 (x2 + 30) (q18.2.1 14 0)).bind fun q51 => if q51.1 = 0 then (some (0, q51.2)) else ((f_X4_size q51.2 r1).bind fun q65 => if (0 : Int32) < (lg_cmp (q51.2.2.1 0) ((q65.1 - ((x2 + 30) + (q18.2.1 14 0))).toInt64)) then (some (0, q65.2)) else ((f_X2_sizesFit q65.2 ).bind fun q80 => if q80.1 = 0 then (some (0, q80.2)) else ((f_X3_unpack q80.2 r1 ((x2 + 30) + (q18.2.1 14 0))).bind fun q90 => if q90.1 = 0 then (some (0, q90.2)) else ((f_X3_crcAgrees q90.2 ).bind fun q97 => if q97.1 = 0 then (some (0, q97.2)) else (some (1, q97.2))))))))
def rm_X3_wholeAt : Room := { frames := 4, cells := 0, slots := 0, locals := 103 }
set_option maxHeartbeats 4000000 in
set_option maxRecDepth 100000 in
theorem met_X3_wholeAt (l : Launch) (dC : Nat → ClassId) (dI : Nat → Nat → Nat) (cyI cyE : ClassId) (tC : Nat) (ad : Nat → Nat) (σ : SD) (r1 : Nat) (x2 : Int32) (hb_r1 : r1 < 25) (res : Int32 × SD) (hf : f_X3_wholeAt σ r1 x2 = some res) : ax_Mi l dC dI cyI cyE tC 77 (cD cyI cyE ad) ad yX3_wholeAt cX3_wholeAt 5 (some .boolean) rm_X3_wholeAt [.ref (ad 74), .ref (ad r1), .int x2] σ res.1 res.2 := by
  intro sz
  refine Met.ofW (cc := cX3_wholeAt) (maxL := 5) (ret := (some .boolean)) (by decide) rfl ?_
  intro p e s m args below meth c s₁ B hml hv
  obtain ⟨hargs, hsz, hP, hJ, hE⟩ := hv
  subst hsz
  have hx := B.exec
  have hb := B.bytes
  have hr := B.returns
  have hlocks := B.notSynchronized
  have hts := atoms_spec (ws := wsY yX3_wholeAt cX3_wholeAt 5 (some .boolean)) B.pre
  have hown : s.vm.findClass RX3 = some m.cls := findClass_of_methodNamed B.named
  have C0 : CallFix p m c cX3_wholeAt 5 s args (wsY yX3_wholeAt cX3_wholeAt 5 (some .boolean)) RX3 := ⟨hx, hb, hml, hown, hts⟩
  have hT : ∀ w ∈ bw, w ∈ wsY yX3_wholeAt cX3_wholeAt 5 (some .boolean) := fun w h => List.mem_cons_of_mem _ h
  have hS : va_S (ax_A 77 ad s.heap.size) s.heap s.heap [] := va_S.rf
  rw [show entryFrame m args 5 = entryFrame m ([.ref (ad 74), .ref (ad r1), .int x2] : List Value).toArray 5 by rw [hargs]]
  have hl := lv_entry ([.ref (ad 74), .ref (ad r1), .int x2]) (n := 5) (Nat.le_of_ble_eq_true rfl)
  rw [lg_entry_eq]
  generalize (lg_sl ([.ref (ad 74), .ref (ad r1), .int x2]) ++ List.replicate (5 - (lg_sl ([.ref (ad 74), .ref (ad r1), .int x2])).length) Slot.unset).toArray = ls at hl ⊢
  have hl : lv_has ls 5 [(0, .ref (ad 74)), (1, .ref (ad r1)), (2, .int x2)] := hl
  obtain ⟨Q, hQ⟩ : ∃ Q : State → Prop, Q = MQ below (va_Qi (fun (a : Int32) (u : SD) => a = res.1 ∧ u = res.2) (ax_B dC dI 77 (cD cyI cyE ad) ad) (ax_A 77 ad s.heap.size)) args s 0 0 (ax_A 77 ad s.heap.size) := ⟨_, rfl⟩
  show W p l e rm_X3_wholeAt s m args below meth c s.heap [] 0 0 _ _
  rw [← hQ]
  have hret : ∀ (v : Int32) (σ : SD) (H : Heap) (locs : List Loc) (ls : Array Slot) (pc : Nat), narrow .boolean (.int v) = .int v → some (v, σ) = some res → va_P (dC, dI) vwCl (ax_w 77 ad (cD cyI cyE ad σ)) H → va_S (ax_A 77 ad s.heap.size) s.heap H locs → decode cX3_wholeAt pc = .ok (.ireturn, 1) → W p l e rm_X3_wholeAt s m args below meth c H locs 0 0 Q (F0 m pc ls [.int v]) := by
    intro v σ H locs ls pc hn hf hP hS hd
    cases hf
    rw [hQ]
    exact ax_iret hx hb hr hlocks hn hP hS hd rfl rfl
  unfold f_X3_wholeAt at hf
  refine lv_aload_n hx hb dX3_wholeAt_0 rfl (lv_at hl 1 rfl) ?_
  refine lv_iload_n hx hb dX3_wholeAt_1 rfl (lv_at hl 2 rfl) ?_
  refine lv_iconst (v := 3) hx hb dX3_wholeAt_2 (by decide) ?_
  refine lv_iconst (v := 4) hx hb dX3_wholeAt_3 (by decide) ?_
  obtain ⟨q4, hq, hf⟩ := ob_bind hf
  refine ax_callVi (C := "") (b := 0) (i := r1) (k := 3) (ci := 3) [.int x2, .int 3, .int 4] C0 hT hJ hE (met_X4_hasSignature l dC dI cyI cyE tC ad σ r1 x2 3 4 (by omega) _ hq) hP hS mc_X4_hasSignature ml_X3_89 mi_X4_hasSignature ms_X4_hasSignature mz_X4 (by decide +kernel) ⟨rfl, rfl⟩ ⟨by decide, by decide⟩ (by omega) (cD_Row (by omega)) rfl rfl rfl hl.1 (Nat.le_of_ble_eq_true rfl) dX3_wholeAt_4 ⟨Nat.zero_le _, Nat.zero_le _⟩ (fun H locs hP hS => ?_)
  refine lv_if_eq (tgt := 24) hx hb dX3_wholeAt_7 (by decide) (fun h7 => ?_) (fun h7 => ?_)
  · rw [if_pos h7] at hf
    refine lv_iconst (v := 0) hx hb dX3_wholeAt_24 (by decide) ?_
    exact hret _ _ _ _ _ _ rfl hf hP hS dX3_wholeAt_25
  · rw [if_neg h7] at hf
    refine lv_aload_n hx hb dX3_wholeAt_10 rfl (lv_at hl 0 rfl) ?_
    refine g_Reader_header C0 hT hE hP mf_X3_21 dX3_wholeAt_11 ?_
    refine lv_aload_n hx hb dX3_wholeAt_14 rfl (lv_at hl 1 rfl) ?_
    refine lv_iload_n hx hb dX3_wholeAt_15 rfl (lv_at hl 2 rfl) ?_
    refine lv_iconst (v := 4) hx hb dX3_wholeAt_16 (by decide) ?_
    refine lv_iadd hx hb dX3_wholeAt_17 ?_
    obtain ⟨q18, hq, hf⟩ := ob_bind hf
    refine ax_callVi (C := "") (b := 0) (i := 73) (k := 2) (ci := 1) [.ref (ad r1), .int (x2 + 4)] C0 hT hJ hE (met_X2_parse l dC dI cyI cyE tC ad q4.2 r1 (x2 + 4) (by omega) _ hq) hP hS mc_X2_parse ml_X3_110 mi_X2_parse ms_X2_parse mz_X2 (by decide +kernel) ⟨rfl, rfl⟩ ⟨by decide, by decide⟩ (by decide) cD_Header rfl rfl rfl hl.1 (Nat.le_of_ble_eq_true rfl) dX3_wholeAt_18 ⟨Nat.zero_le _, Nat.zero_le _⟩ (fun H locs hP hS => ?_)
    refine lv_if_ne (tgt := 26) hx hb dX3_wholeAt_21 (by decide) (fun h21 => ?_) (fun h21 => ?_)
    · rw [if_neg h21] at hf
      refine lv_iload_n hx hb dX3_wholeAt_26 rfl (lv_at hl 2 rfl) ?_
      refine lv_bipush (v := 30) hx hb dX3_wholeAt_27 (by decide) ?_
      refine lv_iadd hx hb dX3_wholeAt_29 ?_
      refine lv_istore_n (lv' := [(3, .int (x2 + 30)), (0, .ref (ad 74)), (1, .ref (ad r1)), (2, .int x2)]) hx hb dX3_wholeAt_30 rfl hl (by decide) rfl (fun ls hl => ?_)
      refine lv_iload_n hx hb dX3_wholeAt_31 rfl (lv_at hl 0 rfl) ?_
      refine lv_aload_n hx hb dX3_wholeAt_32 rfl (lv_at hl 1 rfl) ?_
      refine g_Reader_header C0 hT hE hP mf_X3_21 dX3_wholeAt_33 ?_
      refine gN_Header_nameSize C0 hT hE hP (by decide) dX3_wholeAt_36 ?_
      refine lv_iadd hx hb dX3_wholeAt_39 ?_
      refine lv_istore (lv' := [(4, .int ((x2 + 30) + (q18.2.1 14 0))), (3, .int (x2 + 30)), (0, .ref (ad 74)), (1, .ref (ad r1)), (2, .int x2)]) hx hb dX3_wholeAt_40 hl (by decide) rfl (fun ls hl => ?_)
      refine lv_aload_n hx hb dX3_wholeAt_42 rfl (lv_at hl 3 rfl) ?_
      refine lv_iload_n hx hb dX3_wholeAt_43 rfl (lv_at hl 1 rfl) ?_
      refine lv_aload_n hx hb dX3_wholeAt_44 rfl (lv_at hl 2 rfl) ?_
      refine g_Reader_header C0 hT hE hP mf_X3_21 dX3_wholeAt_45 ?_
      refine gN_Header_nameSize C0 hT hE hP (by decide) dX3_wholeAt_48 ?_
      obtain ⟨q51, hq, hf⟩ := ob_bind hf
      refine ax_callVi (C := "") (b := 0) (i := r1) (k := 2) (ci := 3) [.int (x2 + 30), .int (q18.2.1 14 0)] C0 hT hJ hE (met_X4_isName l dC dI cyI cyE tC ad q18.2 r1 (x2 + 30) (q18.2.1 14 0) (by omega) _ hq) hP hS mc_X4_isName ml_X3_113 mi_X4_isName ms_X4_isName mz_X4 (by decide +kernel) ⟨rfl, rfl⟩ ⟨by decide, by decide⟩ (by omega) (cD_Row (by omega)) rfl rfl rfl hl.1 (Nat.le_of_ble_eq_true rfl) dX3_wholeAt_51 ⟨Nat.zero_le _, Nat.zero_le _⟩ (fun H locs hP hS => ?_)
      refine lv_if_eq (tgt := 107) hx hb dX3_wholeAt_54 (by decide) (fun h54 => ?_) (fun h54 => ?_)
      · rw [if_pos h54] at hf
        refine lv_iconst (v := 0) hx hb dX3_wholeAt_107 (by decide) ?_
        exact hret _ _ _ _ _ _ rfl hf hP hS dX3_wholeAt_108
      · rw [if_neg h54] at hf
        refine lv_aload_n hx hb dX3_wholeAt_57 rfl (lv_at hl 2 rfl) ?_
        refine g_Reader_header C0 hT hE hP mf_X3_21 dX3_wholeAt_58 ?_
        refine gN_Header_packed C0 hT hE hP (by decide) dX3_wholeAt_61 ?_
        refine lv_aload_n hx hb dX3_wholeAt_64 rfl (lv_at hl 3 rfl) ?_
        obtain ⟨q65, hq, hf⟩ := ob_bind hf
        refine ax_callVi (C := "") (b := 0) (i := r1) (k := 0) (ci := 3) [] C0 hT hJ hE (met_X4_size l dC dI cyI cyE tC ad q51.2 r1 (by omega) _ hq) hP hS mc_X4_size ml_X3_64 mi_X4_size ms_X4_size mz_X4 (by decide +kernel) ⟨rfl, rfl⟩ ⟨by decide, by decide⟩ (by omega) (cD_Row (by omega)) rfl rfl rfl hl.1 (Nat.le_of_ble_eq_true rfl) dX3_wholeAt_65 ⟨Nat.zero_le _, Nat.zero_le _⟩ (fun H locs hP hS => ?_)
        refine lv_iload hx hb dX3_wholeAt_68 (lv_at hl 0 rfl) ?_
        refine lv_isub hx hb dX3_wholeAt_70 ?_
        refine lv_i2l hx hb dX3_wholeAt_71 rfl ?_
        refine W.lcmp hx hb dX3_wholeAt_72 ?_
        refine lv_if_gt (tgt := 107) hx hb dX3_wholeAt_73 (by decide) (fun h73 => ?_) (fun h73 => ?_)
        · rw [if_pos h73] at hf
          refine lv_iconst (v := 0) hx hb dX3_wholeAt_107 (by decide) ?_
          exact hret _ _ _ _ _ _ rfl hf hP hS dX3_wholeAt_108
        · rw [if_neg h73] at hf
          refine lv_aload_n hx hb dX3_wholeAt_76 rfl (lv_at hl 2 rfl) ?_
          refine g_Reader_header C0 hT hE hP mf_X3_21 dX3_wholeAt_77 ?_
          obtain ⟨q80, hq, hf⟩ := ob_bind hf
          refine ax_callVi (C := "") (b := 0) (i := 73) (k := 0) (ci := 1) [] C0 hT hJ hE (met_X2_sizesFit l dC dI cyI cyE tC ad q65.2 _ hq) hP hS mc_X2_sizesFit ml_X3_131 mi_X2_sizesFit ms_X2_sizesFit mz_X2 (by decide +kernel) ⟨rfl, rfl⟩ ⟨by decide, by decide⟩ (by decide) cD_Header rfl rfl rfl hl.1 (Nat.le_of_ble_eq_true rfl) dX3_wholeAt_80 ⟨Nat.zero_le _, Nat.zero_le _⟩ (fun H locs hP hS => ?_)
          refine lv_if_eq (tgt := 107) hx hb dX3_wholeAt_83 (by decide) (fun h83 => ?_) (fun h83 => ?_)
          · rw [if_pos h83] at hf
            refine lv_iconst (v := 0) hx hb dX3_wholeAt_107 (by decide) ?_
            exact hret _ _ _ _ _ _ rfl hf hP hS dX3_wholeAt_108
          · rw [if_neg h83] at hf
            refine lv_aload_n hx hb dX3_wholeAt_86 rfl (lv_at hl 2 rfl) ?_
            refine lv_aload_n hx hb dX3_wholeAt_87 rfl (lv_at hl 3 rfl) ?_
            refine lv_iload hx hb dX3_wholeAt_88 (lv_at hl 0 rfl) ?_
            obtain ⟨q90, hq, hf⟩ := ob_bind hf
            refine ax_callVi (C := "") (b := 0) (i := 74) (k := 2) (ci := 2) [.ref (ad r1), .int ((x2 + 30) + (q18.2.1 14 0))] C0 hT hJ hE (met_X3_unpack l dC dI cyI cyE tC ad q80.2 r1 ((x2 + 30) + (q18.2.1 14 0)) (by omega) _ hq) hP hS mc_X3_unpack ml_X3_137 mi_X3_unpack ms_X3_unpack mz_X3 (by decide +kernel) ⟨rfl, rfl⟩ ⟨by decide, by decide⟩ (by decide) cD_Reader rfl rfl rfl hl.1 (Nat.le_of_ble_eq_true rfl) dX3_wholeAt_90 ⟨Nat.zero_le _, Nat.zero_le _⟩ (fun H locs hP hS => ?_)
            refine lv_if_eq (tgt := 107) hx hb dX3_wholeAt_93 (by decide) (fun h93 => ?_) (fun h93 => ?_)
            · rw [if_pos h93] at hf
              refine lv_iconst (v := 0) hx hb dX3_wholeAt_107 (by decide) ?_
              exact hret _ _ _ _ _ _ rfl hf hP hS dX3_wholeAt_108
            · rw [if_neg h93] at hf
              refine lv_aload_n hx hb dX3_wholeAt_96 rfl (lv_at hl 2 rfl) ?_
              obtain ⟨q97, hq, hf⟩ := ob_bind hf
              refine ax_callVi (C := "") (b := 0) (i := 74) (k := 0) (ci := 2) [] C0 hT hJ hE (met_X3_crcAgrees l dC dI cyI cyE tC ad q90.2 _ hq) hP hS mc_X3_crcAgrees ml_X3_140 mi_X3_crcAgrees ms_X3_crcAgrees mz_X3 (by decide +kernel) ⟨rfl, rfl⟩ ⟨by decide, by decide⟩ (by decide) cD_Reader rfl rfl rfl hl.1 (Nat.le_of_ble_eq_true rfl) dX3_wholeAt_97 ⟨Nat.zero_le _, Nat.zero_le _⟩ (fun H locs hP hS => ?_)
              refine lv_if_eq (tgt := 107) hx hb dX3_wholeAt_100 (by decide) (fun h100 => ?_) (fun h100 => ?_)
              · rw [if_pos h100] at hf
                refine lv_iconst (v := 0) hx hb dX3_wholeAt_107 (by decide) ?_
                exact hret _ _ _ _ _ _ rfl hf hP hS dX3_wholeAt_108
              · rw [if_neg h100] at hf
                refine lv_iconst (v := 1) hx hb dX3_wholeAt_103 (by decide) ?_
                refine lv_goto (tgt := 108) hx hb dX3_wholeAt_104 (by decide) ?_
                exact hret _ _ _ _ _ _ rfl hf hP hS dX3_wholeAt_108
    · rw [if_pos h21] at hf
      refine lv_iconst (v := 0) hx hb dX3_wholeAt_24 (by decide) ?_
      exact hret _ _ _ _ _ _ rfl hf hP hS dX3_wholeAt_25
def f_X4_pushTwo (σ : SD) (r0 : Nat) (x1 : Int32) : Option (SD) := (f_X4_push σ r0 x1).bind fun q2 => (f_X4_push q2 r0 ((x1.toUInt32 >>> ((8 : Int32).toUInt32 &&& Int32.toUInt32 31)).toInt32)).bind fun q10 => some q10
def rm_X4_pushTwo : Room := { frames := 1, cells := 0, slots := 0, locals := 21 }
set_option maxHeartbeats 4000000 in
set_option maxRecDepth 100000 in
theorem met_X4_pushTwo (l : Launch) (dC : Nat → ClassId) (dI : Nat → Nat → Nat) (cyI cyE : ClassId) (tC : Nat) (ad : Nat → Nat) (σ : SD) (r0 : Nat) (x1 : Int32) (hb_r0 : r0 < 25) (res : SD) (hf : f_X4_pushTwo σ r0 x1 = some res) : ax_Mv l dC dI cyI cyE tC 77 (cD cyI cyE ad) ad yX4_pushTwo cX4_pushTwo 2 none rm_X4_pushTwo [.ref (ad r0), .int x1] σ res := by
  intro sz
  refine Met.ofW (cc := cX4_pushTwo) (maxL := 2) (ret := none) (by decide) rfl ?_
  intro p e s m args below meth c s₁ B hml hv
  obtain ⟨hargs, hsz, hP, hJ, hE⟩ := hv
  subst hsz
  have hx := B.exec
  have hb := B.bytes
  have hr := B.returns
  have hlocks := B.notSynchronized
  have hts := atoms_spec (ws := wsY yX4_pushTwo cX4_pushTwo 2 none) B.pre
  have hown : s.vm.findClass RX4 = some m.cls := findClass_of_methodNamed B.named
  have C0 : CallFix p m c cX4_pushTwo 2 s args (wsY yX4_pushTwo cX4_pushTwo 2 none) RX4 := ⟨hx, hb, hml, hown, hts⟩
  have hT : ∀ w ∈ bw, w ∈ wsY yX4_pushTwo cX4_pushTwo 2 none := fun w h => List.mem_cons_of_mem _ h
  have hS : va_S (ax_A 77 ad s.heap.size) s.heap s.heap [] := va_S.rf
  rw [show entryFrame m args 2 = entryFrame m ([.ref (ad r0), .int x1] : List Value).toArray 2 by rw [hargs]]
  have hl := lv_entry ([.ref (ad r0), .int x1]) (n := 2) (Nat.le_of_ble_eq_true rfl)
  rw [lg_entry_eq]
  generalize (lg_sl ([.ref (ad r0), .int x1]) ++ List.replicate (2 - (lg_sl ([.ref (ad r0), .int x1])).length) Slot.unset).toArray = ls at hl ⊢
  have hl : lv_has ls 2 [(0, .ref (ad r0)), (1, .int x1)] := hl
  obtain ⟨Q, hQ⟩ : ∃ Q : State → Prop, Q = MQ below (va_Qv (fun (u : SD) => u = res) (ax_B dC dI 77 (cD cyI cyE ad) ad) (ax_A 77 ad s.heap.size)) args s 0 0 (ax_A 77 ad s.heap.size) := ⟨_, rfl⟩
  show W p l e rm_X4_pushTwo s m args below meth c s.heap [] 0 0 _ _
  rw [← hQ]
  have hret : ∀ (σ : SD) (H : Heap) (locs : List Loc) (ls : Array Slot) (pc : Nat), some σ = some res → va_P (dC, dI) vwCl (ax_w 77 ad (cD cyI cyE ad σ)) H → va_S (ax_A 77 ad s.heap.size) s.heap H locs → decode cX4_pushTwo pc = .ok (.return_, 1) → W p l e rm_X4_pushTwo s m args below meth c H locs 0 0 Q (F0 m pc ls []) := by
    intro σ H locs ls pc hf hP hS hd
    cases hf
    rw [hQ]
    exact ax_vret hx hb hr hlocks hP hS hd rfl
  unfold f_X4_pushTwo at hf
  refine lv_aload_n hx hb dX4_pushTwo_0 rfl (lv_at hl 0 rfl) ?_
  refine lv_iload_n hx hb dX4_pushTwo_1 rfl (lv_at hl 1 rfl) ?_
  obtain ⟨q2, hq, hf⟩ := ob_bind hf
  refine ax_callVv (b := 0) (i := r0) (k := 1) (ci := 3) [.int x1] C0 hT hJ hE (met_X4_push l dC dI cyI cyE tC ad σ r0 x1 (by omega) _ hq) hP hS mc_X4_push ml_X4_31 mi_X4_push ms_X4_push mz_X4 (by decide +kernel) ⟨rfl, rfl⟩ ⟨by decide, by decide⟩ (by omega) (cD_Row (by omega)) rfl rfl rfl hl.1 (Nat.le_of_ble_eq_true rfl) dX4_pushTwo_2 ⟨Nat.zero_le _, Nat.zero_le _⟩ (fun H locs hP hS => ?_)
  refine lv_aload_n hx hb dX4_pushTwo_5 rfl (lv_at hl 0 rfl) ?_
  refine lv_iload_n hx hb dX4_pushTwo_6 rfl (lv_at hl 1 rfl) ?_
  refine lv_bipush (v := 8) hx hb dX4_pushTwo_7 (by decide) ?_
  refine lv_iushr hx hb dX4_pushTwo_9 rfl ?_
  obtain ⟨q10, hq, hf⟩ := ob_bind hf
  refine ax_callVv (b := 0) (i := r0) (k := 1) (ci := 3) [.int ((x1.toUInt32 >>> ((8 : Int32).toUInt32 &&& Int32.toUInt32 31)).toInt32)] C0 hT hJ hE (met_X4_push l dC dI cyI cyE tC ad q2 r0 ((x1.toUInt32 >>> ((8 : Int32).toUInt32 &&& Int32.toUInt32 31)).toInt32) (by omega) _ hq) hP hS mc_X4_push ml_X4_31 mi_X4_push ms_X4_push mz_X4 (by decide +kernel) ⟨rfl, rfl⟩ ⟨by decide, by decide⟩ (by omega) (cD_Row (by omega)) rfl rfl rfl hl.1 (Nat.le_of_ble_eq_true rfl) dX4_pushTwo_10 ⟨Nat.zero_le _, Nat.zero_le _⟩ (fun H locs hP hS => ?_)
  exact hret _ _ _ _ _ hf hP hS dX4_pushTwo_13
